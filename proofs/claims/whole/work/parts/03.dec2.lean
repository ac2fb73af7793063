theorem dX12_part_80 : decode cX12_part 80 = .ok (.putfield 359, 3) := by decide +kernel
theorem dX12_part_83 : decode cX12_part 83 = .ok (.iload_n 1, 1) := by decide +kernel
theorem dX12_part_84 : decode cX12_part 84 = .ok (.ireturn, 1) := by decide +kernel
theorem dX12_part_85 : decode cX12_part 85 = .ok (.aload_n 0, 1) := by decide +kernel
theorem dX12_part_86 : decode cX12_part 86 = .ok (.invokevirtual 199, 3) := by decide +kernel
theorem dX12_part_89 : decode cX12_part 89 = .ok (.ifCond .eq 8, 3) := by decide +kernel
theorem dX12_part_92 : decode cX12_part 92 = .ok (.aload_n 0, 1) := by decide +kernel
theorem dX12_part_93 : decode cX12_part 93 = .ok (.invokevirtual 374, 3) := by decide +kernel
theorem dX12_part_96 : decode cX12_part 96 = .ok (.ireturn, 1) := by decide +kernel
theorem dX12_part_97 : decode cX12_part 97 = .ok (.aload_n 0, 1) := by decide +kernel
theorem dX12_part_98 : decode cX12_part 98 = .ok (.invokevirtual 353, 3) := by decide +kernel
theorem dX12_part_101 : decode cX12_part 101 = .ok (.istore_n 1, 1) := by decide +kernel
theorem dX12_part_102 : decode cX12_part 102 = .ok (.aload_n 0, 1) := by decide +kernel
theorem dX12_part_103 : decode cX12_part 103 = .ok (.invokevirtual 215, 3) := by decide +kernel
theorem dX12_part_106 : decode cX12_part 106 = .ok (.istore_n 2, 1) := by decide +kernel
theorem dX12_part_107 : decode cX12_part 107 = .ok (.aload_n 0, 1) := by decide +kernel
theorem dX12_part_108 : decode cX12_part 108 = .ok (.iload_n 1, 1) := by decide +kernel
theorem dX12_part_109 : decode cX12_part 109 = .ok (.ifCond .lt 15, 3) := by decide +kernel
theorem dX12_part_112 : decode cX12_part 112 = .ok (.aload_n 0, 1) := by decide +kernel
theorem dX12_part_113 : decode cX12_part 113 = .ok (.iload_n 1, 1) := by decide +kernel
theorem dX12_part_114 : decode cX12_part 114 = .ok (.invokevirtual 247, 3) := by decide +kernel
theorem dX12_part_117 : decode cX12_part 117 = .ok (.ifCond .eq 7, 3) := by decide +kernel
theorem dX12_part_120 : decode cX12_part 120 = .ok (.iconst 1, 1) := by decide +kernel
theorem dX12_part_121 : decode cX12_part 121 = .ok (.goto 4, 3) := by decide +kernel
theorem dX12_part_124 : decode cX12_part 124 = .ok (.iconst 0, 1) := by decide +kernel
theorem dX12_part_125 : decode cX12_part 125 = .ok (.putfield 359, 3) := by decide +kernel
theorem dX12_part_128 : decode cX12_part 128 = .ok (.aload_n 0, 1) := by decide +kernel
theorem dX12_part_129 : decode cX12_part 129 = .ok (.invokevirtual 346, 3) := by decide +kernel
theorem dX12_part_132 : decode cX12_part 132 = .ok (.ifCond .eq 22, 3) := by decide +kernel
theorem dX12_part_135 : decode cX12_part 135 = .ok (.aload_n 0, 1) := by decide +kernel
theorem dX12_part_136 : decode cX12_part 136 = .ok (.getfield 189, 3) := by decide +kernel
theorem dX12_part_139 : decode cX12_part 139 = .ok (.ifCond .ge 15, 3) := by decide +kernel
theorem dX12_part_142 : decode cX12_part 142 = .ok (.aload_n 0, 1) := by decide +kernel
theorem dX12_part_143 : decode cX12_part 143 = .ok (.ldc2_w 312, 3) := by decide +kernel
theorem dX12_part_146 : decode cX12_part 146 = .ok (.iload_n 1, 1) := by decide +kernel
theorem dX12_part_147 : decode cX12_part 147 = .ok (.iload_n 2, 1) := by decide +kernel
theorem dX12_part_148 : decode cX12_part 148 = .ok (.invokevirtual 362, 3) := by decide +kernel
theorem dX12_part_151 : decode cX12_part 151 = .ok (.goto 4, 3) := by decide +kernel
theorem dX12_part_154 : decode cX12_part 154 = .ok (.iconst (-1), 1) := by decide +kernel
theorem dX12_part_155 : decode cX12_part 155 = .ok (.ireturn, 1) := by decide +kernel
theorem dX12_areLikeSteps_0 : decode cX12_areLikeSteps 0 = .ok (.iconst 1, 1) := by decide +kernel
theorem dX12_areLikeSteps_1 : decode cX12_areLikeSteps 1 = .ok (.istore_n 3, 1) := by decide +kernel
theorem dX12_areLikeSteps_2 : decode cX12_areLikeSteps 2 = .ok (.iconst 0, 1) := by decide +kernel
theorem dX12_areLikeSteps_3 : decode cX12_areLikeSteps 3 = .ok (.istore 4, 2) := by decide +kernel
theorem dX12_areLikeSteps_5 : decode cX12_areLikeSteps 5 = .ok (.iload 4, 2) := by decide +kernel
theorem dX12_areLikeSteps_7 : decode cX12_areLikeSteps 7 = .ok (.iconst 5, 1) := by decide +kernel
theorem dX12_areLikeSteps_8 : decode cX12_areLikeSteps 8 = .ok (.if_icmp .ge 42, 3) := by decide +kernel
theorem dX12_areLikeSteps_11 : decode cX12_areLikeSteps 11 = .ok (.iload_n 3, 1) := by decide +kernel
theorem dX12_areLikeSteps_12 : decode cX12_areLikeSteps 12 = .ok (.aload_n 0, 1) := by decide +kernel
theorem dX12_areLikeSteps_13 : decode cX12_areLikeSteps 13 = .ok (.getfield 80, 3) := by decide +kernel
theorem dX12_areLikeSteps_16 : decode cX12_areLikeSteps 16 = .ok (.iconst 5, 1) := by decide +kernel
theorem dX12_areLikeSteps_17 : decode cX12_areLikeSteps 17 = .ok (.iload_n 1, 1) := by decide +kernel
theorem dX12_areLikeSteps_18 : decode cX12_areLikeSteps 18 = .ok (.imul, 1) := by decide +kernel
theorem dX12_areLikeSteps_19 : decode cX12_areLikeSteps 19 = .ok (.iload 4, 2) := by decide +kernel
theorem dX12_areLikeSteps_21 : decode cX12_areLikeSteps 21 = .ok (.iadd, 1) := by decide +kernel
theorem dX12_areLikeSteps_22 : decode cX12_areLikeSteps 22 = .ok (.iaload, 1) := by decide +kernel
theorem dX12_areLikeSteps_23 : decode cX12_areLikeSteps 23 = .ok (.aload_n 0, 1) := by decide +kernel
theorem dX12_areLikeSteps_24 : decode cX12_areLikeSteps 24 = .ok (.getfield 80, 3) := by decide +kernel
theorem dX12_areLikeSteps_27 : decode cX12_areLikeSteps 27 = .ok (.iconst 5, 1) := by decide +kernel
theorem dX12_areLikeSteps_28 : decode cX12_areLikeSteps 28 = .ok (.iload_n 2, 1) := by decide +kernel
theorem dX12_areLikeSteps_29 : decode cX12_areLikeSteps 29 = .ok (.imul, 1) := by decide +kernel
theorem dX12_areLikeSteps_30 : decode cX12_areLikeSteps 30 = .ok (.iload 4, 2) := by decide +kernel
theorem dX12_areLikeSteps_32 : decode cX12_areLikeSteps 32 = .ok (.iadd, 1) := by decide +kernel
theorem dX12_areLikeSteps_33 : decode cX12_areLikeSteps 33 = .ok (.iaload, 1) := by decide +kernel
theorem dX12_areLikeSteps_34 : decode cX12_areLikeSteps 34 = .ok (.if_icmp .ne 7, 3) := by decide +kernel
theorem dX12_areLikeSteps_37 : decode cX12_areLikeSteps 37 = .ok (.iconst 1, 1) := by decide +kernel
theorem dX12_areLikeSteps_38 : decode cX12_areLikeSteps 38 = .ok (.goto 4, 3) := by decide +kernel
theorem dX12_areLikeSteps_41 : decode cX12_areLikeSteps 41 = .ok (.iconst 0, 1) := by decide +kernel
theorem dX12_areLikeSteps_42 : decode cX12_areLikeSteps 42 = .ok (.iand, 1) := by decide +kernel
theorem dX12_areLikeSteps_43 : decode cX12_areLikeSteps 43 = .ok (.istore_n 3, 1) := by decide +kernel
theorem dX12_areLikeSteps_44 : decode cX12_areLikeSteps 44 = .ok (.iinc 4 1, 3) := by decide +kernel
theorem dX12_areLikeSteps_47 : decode cX12_areLikeSteps 47 = .ok (.goto (-42), 3) := by decide +kernel
theorem dX12_areLikeSteps_50 : decode cX12_areLikeSteps 50 = .ok (.iload_n 3, 1) := by decide +kernel
theorem dX12_areLikeSteps_51 : decode cX12_areLikeSteps 51 = .ok (.ireturn, 1) := by decide +kernel
theorem dX12_product__0 : decode cX12_product_ 0 = .ok (.aload_n 0, 1) := by decide +kernel
theorem dX12_product__1 : decode cX12_product_ 1 = .ok (.invokevirtual 346, 3) := by decide +kernel
theorem dX12_product__4 : decode cX12_product_ 4 = .ok (.ifCond .ne 5, 3) := by decide +kernel
theorem dX12_product__7 : decode cX12_product_ 7 = .ok (.iconst (-1), 1) := by decide +kernel
theorem dX12_product__8 : decode cX12_product_ 8 = .ok (.ireturn, 1) := by decide +kernel
theorem dX12_product__9 : decode cX12_product_ 9 = .ok (.iload 4, 2) := by decide +kernel
theorem dX12_product__11 : decode cX12_product_ 11 = .ok (.ifCond .eq 10, 3) := by decide +kernel
theorem dX12_product__14 : decode cX12_product_ 14 = .ok (.aload_n 0, 1) := by decide +kernel
theorem dX12_product__15 : decode cX12_product_ 15 = .ok (.bipush (-10), 2) := by decide +kernel
theorem dX12_product__17 : decode cX12_product_ 17 = .ok (.invokevirtual 326, 3) := by decide +kernel
theorem dX12_product__20 : decode cX12_product_ 20 = .ok (.ireturn, 1) := by decide +kernel
theorem dX12_product__21 : decode cX12_product_ 21 = .ok (.iload_n 3, 1) := by decide +kernel
theorem dX12_product__22 : decode cX12_product_ 22 = .ok (.ifCond .ge 21, 3) := by decide +kernel
theorem dX12_product__25 : decode cX12_product_ 25 = .ok (.aload_n 0, 1) := by decide +kernel
theorem dX12_product__26 : decode cX12_product_ 26 = .ok (.getfield 83, 3) := by decide +kernel
theorem dX12_product__29 : decode cX12_product_ 29 = .ok (.iload_n 2, 1) := by decide +kernel
theorem dX12_product__30 : decode cX12_product_ 30 = .ok (.laload, 1) := by decide +kernel
theorem dX12_product__31 : decode cX12_product_ 31 = .ok (.lconst 0, 1) := by decide +kernel
theorem dX12_product__32 : decode cX12_product_ 32 = .ok (.lcmp, 1) := by decide +kernel
theorem dX12_product__33 : decode cX12_product_ 33 = .ok (.ifCond .ne 10, 3) := by decide +kernel
theorem dX12_product__36 : decode cX12_product_ 36 = .ok (.aload_n 0, 1) := by decide +kernel
theorem dX12_product__37 : decode cX12_product_ 37 = .ok (.bipush (-9), 2) := by decide +kernel
theorem dX12_product__39 : decode cX12_product_ 39 = .ok (.invokevirtual 326, 3) := by decide +kernel
theorem dX12_product__42 : decode cX12_product_ 42 = .ok (.ireturn, 1) := by decide +kernel
theorem dX12_product__43 : decode cX12_product_ 43 = .ok (.aload_n 0, 1) := by decide +kernel
theorem dX12_product__44 : decode cX12_product_ 44 = .ok (.invokevirtual 323, 3) := by decide +kernel
theorem dX12_product__47 : decode cX12_product_ 47 = .ok (.iconst 0, 1) := by decide +kernel
theorem dX12_product__48 : decode cX12_product_ 48 = .ok (.istore 5, 2) := by decide +kernel
theorem dX12_product__50 : decode cX12_product_ 50 = .ok (.iload 5, 2) := by decide +kernel
theorem dX12_product__52 : decode cX12_product_ 52 = .ok (.iconst 5, 1) := by decide +kernel
theorem dX12_product__53 : decode cX12_product_ 53 = .ok (.if_icmp .ge 41, 3) := by decide +kernel
theorem dX12_product__56 : decode cX12_product_ 56 = .ok (.aload_n 0, 1) := by decide +kernel
theorem dX12_product__57 : decode cX12_product_ 57 = .ok (.getfield 74, 3) := by decide +kernel
theorem dX12_product__60 : decode cX12_product_ 60 = .ok (.iload 5, 2) := by decide +kernel
theorem dX12_product__62 : decode cX12_product_ 62 = .ok (.aload_n 0, 1) := by decide +kernel
theorem dX12_product__63 : decode cX12_product_ 63 = .ok (.getfield 80, 3) := by decide +kernel
theorem dX12_product__66 : decode cX12_product_ 66 = .ok (.iconst 5, 1) := by decide +kernel
theorem dX12_product__67 : decode cX12_product_ 67 = .ok (.iload_n 1, 1) := by decide +kernel
theorem dX12_product__68 : decode cX12_product_ 68 = .ok (.imul, 1) := by decide +kernel
theorem dX12_product__69 : decode cX12_product_ 69 = .ok (.iload 5, 2) := by decide +kernel
theorem dX12_product__71 : decode cX12_product_ 71 = .ok (.iadd, 1) := by decide +kernel
theorem dX12_product__72 : decode cX12_product_ 72 = .ok (.iaload, 1) := by decide +kernel
theorem dX12_product__73 : decode cX12_product_ 73 = .ok (.iload_n 3, 1) := by decide +kernel
theorem dX12_product__74 : decode cX12_product_ 74 = .ok (.aload_n 0, 1) := by decide +kernel
theorem dX12_product__75 : decode cX12_product_ 75 = .ok (.getfield 80, 3) := by decide +kernel
theorem dX12_product__78 : decode cX12_product_ 78 = .ok (.iconst 5, 1) := by decide +kernel
theorem dX12_product__79 : decode cX12_product_ 79 = .ok (.iload_n 2, 1) := by decide +kernel
theorem dX12_product__80 : decode cX12_product_ 80 = .ok (.imul, 1) := by decide +kernel
theorem dX12_product__81 : decode cX12_product_ 81 = .ok (.iload 5, 2) := by decide +kernel
theorem dX12_product__83 : decode cX12_product_ 83 = .ok (.iadd, 1) := by decide +kernel
theorem dX12_product__84 : decode cX12_product_ 84 = .ok (.iaload, 1) := by decide +kernel
theorem dX12_product__85 : decode cX12_product_ 85 = .ok (.imul, 1) := by decide +kernel
theorem dX12_product__86 : decode cX12_product_ 86 = .ok (.iadd, 1) := by decide +kernel
theorem dX12_product__87 : decode cX12_product_ 87 = .ok (.iastore, 1) := by decide +kernel
theorem dX12_product__88 : decode cX12_product_ 88 = .ok (.iinc 5 1, 3) := by decide +kernel
theorem dX12_product__91 : decode cX12_product_ 91 = .ok (.goto (-41), 3) := by decide +kernel
theorem dX12_product__94 : decode cX12_product_ 94 = .ok (.aload_n 0, 1) := by decide +kernel
theorem dX12_product__95 : decode cX12_product_ 95 = .ok (.bipush 18, 2) := by decide +kernel
theorem dX12_product__97 : decode cX12_product_ 97 = .ok (.invokevirtual 260, 3) := by decide +kernel
theorem dX12_product__100 : decode cX12_product_ 100 = .ok (.ifCond .eq 10, 3) := by decide +kernel
theorem dX12_product__103 : decode cX12_product_ 103 = .ok (.aload_n 0, 1) := by decide +kernel
theorem dX12_product__104 : decode cX12_product_ 104 = .ok (.bipush (-12), 2) := by decide +kernel
theorem dX12_product__106 : decode cX12_product_ 106 = .ok (.invokevirtual 326, 3) := by decide +kernel
theorem dX12_product__109 : decode cX12_product_ 109 = .ok (.ireturn, 1) := by decide +kernel
theorem dX12_product__110 : decode cX12_product_ 110 = .ok (.iload_n 3, 1) := by decide +kernel
theorem dX12_product__111 : decode cX12_product_ 111 = .ok (.ifCond .le 34, 3) := by decide +kernel
theorem dX12_product__114 : decode cX12_product_ 114 = .ok (.aload_n 0, 1) := by decide +kernel
theorem dX12_product__115 : decode cX12_product_ 115 = .ok (.aload_n 0, 1) := by decide +kernel
theorem dX12_product__116 : decode cX12_product_ 116 = .ok (.getfield 83, 3) := by decide +kernel
theorem dX12_product__119 : decode cX12_product_ 119 = .ok (.iload_n 1, 1) := by decide +kernel
theorem dX12_product__120 : decode cX12_product_ 120 = .ok (.laload, 1) := by decide +kernel
theorem dX12_product__121 : decode cX12_product_ 121 = .ok (.aload_n 0, 1) := by decide +kernel
theorem dX12_product__122 : decode cX12_product_ 122 = .ok (.getfield 86, 3) := by decide +kernel
theorem dX12_product__125 : decode cX12_product_ 125 = .ok (.iload_n 1, 1) := by decide +kernel
theorem dX12_product__126 : decode cX12_product_ 126 = .ok (.laload, 1) := by decide +kernel
theorem dX12_product__127 : decode cX12_product_ 127 = .ok (.aload_n 0, 1) := by decide +kernel
theorem dX12_product__128 : decode cX12_product_ 128 = .ok (.getfield 83, 3) := by decide +kernel
theorem dX12_product__131 : decode cX12_product_ 131 = .ok (.iload_n 2, 1) := by decide +kernel
theorem dX12_product__132 : decode cX12_product_ 132 = .ok (.laload, 1) := by decide +kernel
theorem dX12_product__133 : decode cX12_product_ 133 = .ok (.aload_n 0, 1) := by decide +kernel
theorem dX12_product__134 : decode cX12_product_ 134 = .ok (.getfield 86, 3) := by decide +kernel
theorem dX12_product__137 : decode cX12_product_ 137 = .ok (.iload_n 2, 1) := by decide +kernel
theorem dX12_product__138 : decode cX12_product_ 138 = .ok (.laload, 1) := by decide +kernel
theorem dX12_product__139 : decode cX12_product_ 139 = .ok (.invokevirtual 153, 3) := by decide +kernel
theorem dX12_product__142 : decode cX12_product_ 142 = .ok (.goto 31, 3) := by decide +kernel
theorem dX12_product__145 : decode cX12_product_ 145 = .ok (.aload_n 0, 1) := by decide +kernel
theorem dX12_product__146 : decode cX12_product_ 146 = .ok (.aload_n 0, 1) := by decide +kernel
theorem dX12_product__147 : decode cX12_product_ 147 = .ok (.getfield 83, 3) := by decide +kernel
theorem dX12_product__150 : decode cX12_product_ 150 = .ok (.iload_n 1, 1) := by decide +kernel
theorem dX12_product__151 : decode cX12_product_ 151 = .ok (.laload, 1) := by decide +kernel
theorem dX12_product__152 : decode cX12_product_ 152 = .ok (.aload_n 0, 1) := by decide +kernel
theorem dX12_product__153 : decode cX12_product_ 153 = .ok (.getfield 86, 3) := by decide +kernel
theorem dX12_product__156 : decode cX12_product_ 156 = .ok (.iload_n 1, 1) := by decide +kernel
theorem dX12_product__157 : decode cX12_product_ 157 = .ok (.laload, 1) := by decide +kernel
theorem dX12_product__158 : decode cX12_product_ 158 = .ok (.aload_n 0, 1) := by decide +kernel
theorem dX12_product__159 : decode cX12_product_ 159 = .ok (.getfield 83, 3) := by decide +kernel
theorem dX12_product__162 : decode cX12_product_ 162 = .ok (.iload_n 2, 1) := by decide +kernel
theorem dX12_product__163 : decode cX12_product_ 163 = .ok (.laload, 1) := by decide +kernel
theorem dX12_product__164 : decode cX12_product_ 164 = .ok (.aload_n 0, 1) := by decide +kernel
theorem dX12_product__165 : decode cX12_product_ 165 = .ok (.getfield 86, 3) := by decide +kernel
theorem dX12_product__168 : decode cX12_product_ 168 = .ok (.iload_n 2, 1) := by decide +kernel
theorem dX12_product__169 : decode cX12_product_ 169 = .ok (.laload, 1) := by decide +kernel
theorem dX12_product__170 : decode cX12_product_ 170 = .ok (.invokevirtual 253, 3) := by decide +kernel
theorem dX12_product__173 : decode cX12_product_ 173 = .ok (.aload_n 0, 1) := by decide +kernel
theorem dX12_product__174 : decode cX12_product_ 174 = .ok (.getfield 133, 3) := by decide +kernel
theorem dX12_product__177 : decode cX12_product_ 177 = .ok (.ifCond .eq 12, 3) := by decide +kernel
theorem dX12_product__180 : decode cX12_product_ 180 = .ok (.aload_n 0, 1) := by decide +kernel
theorem dX12_product__181 : decode cX12_product_ 181 = .ok (.bipush (-15), 2) := by decide +kernel
theorem dX12_product__183 : decode cX12_product_ 183 = .ok (.invokevirtual 326, 3) := by decide +kernel
theorem dX12_product__186 : decode cX12_product_ 186 = .ok (.goto 16, 3) := by decide +kernel
theorem dX12_product__189 : decode cX12_product_ 189 = .ok (.aload_n 0, 1) := by decide +kernel
theorem dX12_product__190 : decode cX12_product_ 190 = .ok (.iload_n 3, 1) := by decide +kernel
theorem dX12_product__191 : decode cX12_product_ 191 = .ok (.ifCond .le 7, 3) := by decide +kernel
theorem dX12_product__194 : decode cX12_product_ 194 = .ok (.iconst 1, 1) := by decide +kernel
theorem dX12_product__195 : decode cX12_product_ 195 = .ok (.goto 4, 3) := by decide +kernel
theorem dX12_product__198 : decode cX12_product_ 198 = .ok (.iconst 2, 1) := by decide +kernel
theorem dX12_product__199 : decode cX12_product_ 199 = .ok (.invokevirtual 333, 3) := by decide +kernel
theorem dX12_product__202 : decode cX12_product_ 202 = .ok (.ireturn, 1) := by decide +kernel
theorem dX12_added_0 : decode cX12_added 0 = .ok (.aload_n 0, 1) := by decide +kernel
theorem dX12_added_1 : decode cX12_added 1 = .ok (.invokevirtual 346, 3) := by decide +kernel
theorem dX12_added_4 : decode cX12_added 4 = .ok (.ifCond .ne 5, 3) := by decide +kernel
theorem dX12_added_7 : decode cX12_added 7 = .ok (.iconst (-1), 1) := by decide +kernel
theorem dX12_added_8 : decode cX12_added 8 = .ok (.ireturn, 1) := by decide +kernel
theorem dX12_added_9 : decode cX12_added 9 = .ok (.aload_n 0, 1) := by decide +kernel
theorem dX12_added_10 : decode cX12_added 10 = .ok (.iload_n 1, 1) := by decide +kernel
theorem dX12_added_11 : decode cX12_added 11 = .ok (.iload_n 2, 1) := by decide +kernel
theorem dX12_added_12 : decode cX12_added 12 = .ok (.invokevirtual 377, 3) := by decide +kernel
theorem dX12_added_15 : decode cX12_added 15 = .ok (.ifCond .ne 10, 3) := by decide +kernel
theorem dX12_added_18 : decode cX12_added 18 = .ok (.aload_n 0, 1) := by decide +kernel
theorem dX12_added_19 : decode cX12_added 19 = .ok (.bipush (-13), 2) := by decide +kernel
theorem dX12_added_21 : decode cX12_added 21 = .ok (.invokevirtual 326, 3) := by decide +kernel
theorem dX12_added_24 : decode cX12_added 24 = .ok (.ireturn, 1) := by decide +kernel
theorem dX12_added_25 : decode cX12_added 25 = .ok (.aload_n 0, 1) := by decide +kernel
theorem dX12_added_26 : decode cX12_added 26 = .ok (.invokevirtual 323, 3) := by decide +kernel
theorem dX12_added_29 : decode cX12_added 29 = .ok (.iconst 0, 1) := by decide +kernel
theorem dX12_added_30 : decode cX12_added 30 = .ok (.istore 5, 2) := by decide +kernel
theorem dX12_added_32 : decode cX12_added 32 = .ok (.iload 5, 2) := by decide +kernel
theorem dX12_added_34 : decode cX12_added 34 = .ok (.iconst 5, 1) := by decide +kernel
theorem dX12_added_35 : decode cX12_added 35 = .ok (.if_icmp .ge 27, 3) := by decide +kernel
theorem dX12_added_38 : decode cX12_added 38 = .ok (.aload_n 0, 1) := by decide +kernel
theorem dX12_added_39 : decode cX12_added 39 = .ok (.getfield 74, 3) := by decide +kernel
theorem dX12_added_42 : decode cX12_added 42 = .ok (.iload 5, 2) := by decide +kernel
theorem dX12_added_44 : decode cX12_added 44 = .ok (.aload_n 0, 1) := by decide +kernel
theorem dX12_added_45 : decode cX12_added 45 = .ok (.getfield 80, 3) := by decide +kernel
theorem dX12_added_48 : decode cX12_added 48 = .ok (.iconst 5, 1) := by decide +kernel
theorem dX12_added_49 : decode cX12_added 49 = .ok (.iload_n 1, 1) := by decide +kernel
theorem dX12_added_50 : decode cX12_added 50 = .ok (.imul, 1) := by decide +kernel
theorem dX12_added_51 : decode cX12_added 51 = .ok (.iload 5, 2) := by decide +kernel
theorem dX12_added_53 : decode cX12_added 53 = .ok (.iadd, 1) := by decide +kernel
theorem dX12_added_54 : decode cX12_added 54 = .ok (.iaload, 1) := by decide +kernel
theorem dX12_added_55 : decode cX12_added 55 = .ok (.iastore, 1) := by decide +kernel
theorem dX12_added_56 : decode cX12_added 56 = .ok (.iinc 5 1, 3) := by decide +kernel
theorem dX12_added_59 : decode cX12_added 59 = .ok (.goto (-27), 3) := by decide +kernel
theorem dX12_added_62 : decode cX12_added 62 = .ok (.aload_n 0, 1) := by decide +kernel
theorem dX12_added_63 : decode cX12_added 63 = .ok (.aload_n 0, 1) := by decide +kernel
theorem dX12_added_64 : decode cX12_added 64 = .ok (.getfield 83, 3) := by decide +kernel
theorem dX12_added_67 : decode cX12_added 67 = .ok (.iload_n 1, 1) := by decide +kernel
theorem dX12_added_68 : decode cX12_added 68 = .ok (.laload, 1) := by decide +kernel
theorem dX12_added_69 : decode cX12_added 69 = .ok (.aload_n 0, 1) := by decide +kernel
theorem dX12_added_70 : decode cX12_added 70 = .ok (.getfield 86, 3) := by decide +kernel
theorem dX12_added_73 : decode cX12_added 73 = .ok (.iload_n 1, 1) := by decide +kernel
theorem dX12_added_74 : decode cX12_added 74 = .ok (.laload, 1) := by decide +kernel
theorem dX12_added_75 : decode cX12_added 75 = .ok (.aload_n 0, 1) := by decide +kernel
theorem dX12_added_76 : decode cX12_added 76 = .ok (.getfield 83, 3) := by decide +kernel
theorem dX12_added_79 : decode cX12_added 79 = .ok (.iload_n 2, 1) := by decide +kernel
theorem dX12_added_80 : decode cX12_added 80 = .ok (.laload, 1) := by decide +kernel
theorem dX12_added_81 : decode cX12_added 81 = .ok (.aload_n 0, 1) := by decide +kernel
theorem dX12_added_82 : decode cX12_added 82 = .ok (.getfield 86, 3) := by decide +kernel
theorem dX12_added_85 : decode cX12_added 85 = .ok (.iload_n 2, 1) := by decide +kernel
theorem dX12_added_86 : decode cX12_added 86 = .ok (.laload, 1) := by decide +kernel
theorem dX12_added_87 : decode cX12_added 87 = .ok (.iload_n 3, 1) := by decide +kernel
theorem dX12_added_88 : decode cX12_added 88 = .ok (.invokevirtual 329, 3) := by decide +kernel
theorem dX12_added_91 : decode cX12_added 91 = .ok (.aload_n 0, 1) := by decide +kernel
theorem dX12_added_92 : decode cX12_added 92 = .ok (.getfield 133, 3) := by decide +kernel
theorem dX12_added_95 : decode cX12_added 95 = .ok (.ifCond .eq 12, 3) := by decide +kernel
theorem dX12_added_98 : decode cX12_added 98 = .ok (.aload_n 0, 1) := by decide +kernel
theorem dX12_added_99 : decode cX12_added 99 = .ok (.bipush (-15), 2) := by decide +kernel
theorem dX12_added_101 : decode cX12_added 101 = .ok (.invokevirtual 326, 3) := by decide +kernel
theorem dX12_added_104 : decode cX12_added 104 = .ok (.goto 9, 3) := by decide +kernel
theorem dX12_added_107 : decode cX12_added 107 = .ok (.aload_n 0, 1) := by decide +kernel
theorem dX12_added_108 : decode cX12_added 108 = .ok (.iload 4, 2) := by decide +kernel
theorem dX12_added_110 : decode cX12_added 110 = .ok (.invokevirtual 333, 3) := by decide +kernel
theorem dX12_added_113 : decode cX12_added 113 = .ok (.ireturn, 1) := by decide +kernel
theorem dX12_term_0 : decode cX12_term 0 = .ok (.aload_n 0, 1) := by decide +kernel
theorem dX12_term_1 : decode cX12_term 1 = .ok (.invokevirtual 380, 3) := by decide +kernel
theorem dX12_term_4 : decode cX12_term 4 = .ok (.istore_n 1, 1) := by decide +kernel
theorem dX12_term_5 : decode cX12_term 5 = .ok (.aload_n 0, 1) := by decide +kernel
theorem dX12_term_6 : decode cX12_term 6 = .ok (.getfield 359, 3) := by decide +kernel
theorem dX12_term_9 : decode cX12_term 9 = .ok (.istore_n 2, 1) := by decide +kernel
theorem dX12_term_10 : decode cX12_term 10 = .ok (.aload_n 0, 1) := by decide +kernel
theorem dX12_term_11 : decode cX12_term 11 = .ok (.getfield 189, 3) := by decide +kernel
theorem dX12_term_14 : decode cX12_term 14 = .ok (.ifCond .ge 89, 3) := by decide +kernel
theorem dX12_term_17 : decode cX12_term 17 = .ok (.aload_n 0, 1) := by decide +kernel
theorem dX12_term_18 : decode cX12_term 18 = .ok (.invokevirtual 177, 3) := by decide +kernel
theorem dX12_term_21 : decode cX12_term 21 = .ok (.bipush 42, 2) := by decide +kernel
theorem dX12_term_23 : decode cX12_term 23 = .ok (.if_icmp .eq 12, 3) := by decide +kernel
theorem dX12_term_26 : decode cX12_term 26 = .ok (.aload_n 0, 1) := by decide +kernel
theorem dX12_term_27 : decode cX12_term 27 = .ok (.invokevirtual 177, 3) := by decide +kernel
theorem dX12_term_30 : decode cX12_term 30 = .ok (.bipush 47, 2) := by decide +kernel
theorem dX12_term_32 : decode cX12_term 32 = .ok (.if_icmp .ne 71, 3) := by decide +kernel
theorem dX12_term_35 : decode cX12_term 35 = .ok (.aload_n 0, 1) := by decide +kernel
theorem dX12_term_36 : decode cX12_term 36 = .ok (.invokevirtual 177, 3) := by decide +kernel
theorem dX12_term_39 : decode cX12_term 39 = .ok (.bipush 42, 2) := by decide +kernel
theorem dX12_term_41 : decode cX12_term 41 = .ok (.if_icmp .ne 7, 3) := by decide +kernel
theorem dX12_term_44 : decode cX12_term 44 = .ok (.iconst 1, 1) := by decide +kernel
theorem dX12_term_45 : decode cX12_term 45 = .ok (.goto 4, 3) := by decide +kernel
theorem dX12_term_48 : decode cX12_term 48 = .ok (.iconst (-1), 1) := by decide +kernel
theorem dX12_term_49 : decode cX12_term 49 = .ok (.istore_n 3, 1) := by decide +kernel
theorem dX12_term_50 : decode cX12_term 50 = .ok (.aload_n 0, 1) := by decide +kernel
theorem dX12_term_51 : decode cX12_term 51 = .ok (.dup, 1) := by decide +kernel
theorem dX12_term_52 : decode cX12_term 52 = .ok (.getfield 174, 3) := by decide +kernel
theorem dX12_term_55 : decode cX12_term 55 = .ok (.iconst 1, 1) := by decide +kernel
theorem dX12_term_56 : decode cX12_term 56 = .ok (.iadd, 1) := by decide +kernel
theorem dX12_term_57 : decode cX12_term 57 = .ok (.putfield 174, 3) := by decide +kernel
theorem dX12_term_60 : decode cX12_term 60 = .ok (.aload_n 0, 1) := by decide +kernel
theorem dX12_term_61 : decode cX12_term 61 = .ok (.invokevirtual 380, 3) := by decide +kernel
theorem dX12_term_64 : decode cX12_term 64 = .ok (.istore 4, 2) := by decide +kernel
theorem dX12_term_66 : decode cX12_term 66 = .ok (.aload_n 0, 1) := by decide +kernel
theorem dX12_term_67 : decode cX12_term 67 = .ok (.getfield 189, 3) := by decide +kernel
theorem dX12_term_70 : decode cX12_term 70 = .ok (.ifCond .ge 28, 3) := by decide +kernel
theorem dX12_term_73 : decode cX12_term 73 = .ok (.aload_n 0, 1) := by decide +kernel
theorem dX12_term_74 : decode cX12_term 74 = .ok (.iload_n 1, 1) := by decide +kernel
theorem dX12_term_75 : decode cX12_term 75 = .ok (.iload 4, 2) := by decide +kernel
theorem dX12_term_77 : decode cX12_term 77 = .ok (.iload_n 3, 1) := by decide +kernel
theorem dX12_term_78 : decode cX12_term 78 = .ok (.iload_n 2, 1) := by decide +kernel
theorem dX12_term_79 : decode cX12_term 79 = .ok (.ifCond .ne 10, 3) := by decide +kernel
theorem dX12_term_82 : decode cX12_term 82 = .ok (.aload_n 0, 1) := by decide +kernel
theorem dX12_term_83 : decode cX12_term 83 = .ok (.getfield 359, 3) := by decide +kernel
theorem dX12_term_86 : decode cX12_term 86 = .ok (.ifCond .eq 7, 3) := by decide +kernel
theorem dX12_term_89 : decode cX12_term 89 = .ok (.iconst 1, 1) := by decide +kernel
theorem dX12_term_90 : decode cX12_term 90 = .ok (.goto 4, 3) := by decide +kernel
theorem dX12_term_93 : decode cX12_term 93 = .ok (.iconst 0, 1) := by decide +kernel
theorem dX12_term_94 : decode cX12_term 94 = .ok (.invokevirtual 383, 3) := by decide +kernel
theorem dX12_term_97 : decode cX12_term 97 = .ok (.istore_n 1, 1) := by decide +kernel
theorem dX12_term_98 : decode cX12_term 98 = .ok (.iconst 0, 1) := by decide +kernel
theorem dX12_term_99 : decode cX12_term 99 = .ok (.istore_n 2, 1) := by decide +kernel
theorem dX12_term_100 : decode cX12_term 100 = .ok (.goto (-90), 3) := by decide +kernel
theorem dX12_term_103 : decode cX12_term 103 = .ok (.iload_n 1, 1) := by decide +kernel
theorem dX12_term_104 : decode cX12_term 104 = .ok (.ireturn, 1) := by decide +kernel
theorem dX12_sum_0 : decode cX12_sum 0 = .ok (.aload_n 0, 1) := by decide +kernel
theorem dX12_sum_1 : decode cX12_sum 1 = .ok (.invokevirtual 386, 3) := by decide +kernel
theorem dX12_sum_4 : decode cX12_sum 4 = .ok (.istore_n 1, 1) := by decide +kernel
theorem dX12_sum_5 : decode cX12_sum 5 = .ok (.aload_n 0, 1) := by decide +kernel
theorem dX12_sum_6 : decode cX12_sum 6 = .ok (.getfield 189, 3) := by decide +kernel
theorem dX12_sum_9 : decode cX12_sum 9 = .ok (.ifCond .ge 78, 3) := by decide +kernel
theorem dX12_sum_12 : decode cX12_sum 12 = .ok (.aload_n 0, 1) := by decide +kernel
theorem dX12_sum_13 : decode cX12_sum 13 = .ok (.invokevirtual 177, 3) := by decide +kernel
theorem dX12_sum_16 : decode cX12_sum 16 = .ok (.bipush 43, 2) := by decide +kernel
theorem dX12_sum_18 : decode cX12_sum 18 = .ok (.if_icmp .eq 12, 3) := by decide +kernel
theorem dX12_sum_21 : decode cX12_sum 21 = .ok (.aload_n 0, 1) := by decide +kernel
theorem dX12_sum_22 : decode cX12_sum 22 = .ok (.invokevirtual 177, 3) := by decide +kernel
theorem dX12_sum_25 : decode cX12_sum 25 = .ok (.bipush 45, 2) := by decide +kernel
theorem dX12_sum_27 : decode cX12_sum 27 = .ok (.if_icmp .ne 60, 3) := by decide +kernel
theorem dX12_sum_30 : decode cX12_sum 30 = .ok (.aload_n 0, 1) := by decide +kernel
theorem dX12_sum_31 : decode cX12_sum 31 = .ok (.invokevirtual 177, 3) := by decide +kernel
theorem dX12_sum_34 : decode cX12_sum 34 = .ok (.bipush 43, 2) := by decide +kernel
theorem dX12_sum_36 : decode cX12_sum 36 = .ok (.if_icmp .ne 7, 3) := by decide +kernel
theorem dX12_sum_39 : decode cX12_sum 39 = .ok (.iconst 1, 1) := by decide +kernel
theorem dX12_sum_40 : decode cX12_sum 40 = .ok (.goto 4, 3) := by decide +kernel
theorem dX12_sum_43 : decode cX12_sum 43 = .ok (.iconst (-1), 1) := by decide +kernel
theorem dX12_sum_44 : decode cX12_sum 44 = .ok (.istore_n 2, 1) := by decide +kernel
theorem dX12_sum_45 : decode cX12_sum 45 = .ok (.aload_n 0, 1) := by decide +kernel
theorem dX12_sum_46 : decode cX12_sum 46 = .ok (.dup, 1) := by decide +kernel
theorem dX12_sum_47 : decode cX12_sum 47 = .ok (.getfield 174, 3) := by decide +kernel
theorem dX12_sum_50 : decode cX12_sum 50 = .ok (.iconst 1, 1) := by decide +kernel
theorem dX12_sum_51 : decode cX12_sum 51 = .ok (.iadd, 1) := by decide +kernel
theorem dX12_sum_52 : decode cX12_sum 52 = .ok (.putfield 174, 3) := by decide +kernel
theorem dX12_sum_55 : decode cX12_sum 55 = .ok (.aload_n 0, 1) := by decide +kernel
theorem dX12_sum_56 : decode cX12_sum 56 = .ok (.invokevirtual 386, 3) := by decide +kernel
theorem dX12_sum_59 : decode cX12_sum 59 = .ok (.istore_n 3, 1) := by decide +kernel
theorem dX12_sum_60 : decode cX12_sum 60 = .ok (.aload_n 0, 1) := by decide +kernel
theorem dX12_sum_61 : decode cX12_sum 61 = .ok (.getfield 189, 3) := by decide +kernel
theorem dX12_sum_64 : decode cX12_sum 64 = .ok (.ifCond .ge 20, 3) := by decide +kernel
theorem dX12_sum_67 : decode cX12_sum 67 = .ok (.aload_n 0, 1) := by decide +kernel
theorem dX12_sum_68 : decode cX12_sum 68 = .ok (.iload_n 1, 1) := by decide +kernel
theorem dX12_sum_69 : decode cX12_sum 69 = .ok (.iload_n 3, 1) := by decide +kernel
theorem dX12_sum_70 : decode cX12_sum 70 = .ok (.iload_n 2, 1) := by decide +kernel
theorem dX12_sum_71 : decode cX12_sum 71 = .ok (.iload_n 2, 1) := by decide +kernel
theorem dX12_sum_72 : decode cX12_sum 72 = .ok (.ifCond .le 7, 3) := by decide +kernel
theorem dX12_sum_75 : decode cX12_sum 75 = .ok (.iconst 3, 1) := by decide +kernel
theorem dX12_sum_76 : decode cX12_sum 76 = .ok (.goto 4, 3) := by decide +kernel
theorem dX12_sum_79 : decode cX12_sum 79 = .ok (.iconst 4, 1) := by decide +kernel
theorem dX12_sum_80 : decode cX12_sum 80 = .ok (.invokevirtual 389, 3) := by decide +kernel
theorem dX12_sum_83 : decode cX12_sum 83 = .ok (.istore_n 1, 1) := by decide +kernel
theorem dX12_sum_84 : decode cX12_sum 84 = .ok (.goto (-79), 3) := by decide +kernel
theorem dX12_sum_87 : decode cX12_sum 87 = .ok (.iload_n 1, 1) := by decide +kernel
theorem dX12_sum_88 : decode cX12_sum 88 = .ok (.ireturn, 1) := by decide +kernel
theorem dX12_formula_0 : decode cX12_formula 0 = .ok (.aload_n 0, 1) := by decide +kernel
theorem dX12_formula_1 : decode cX12_formula 1 = .ok (.iconst 0, 1) := by decide +kernel
theorem dX12_formula_2 : decode cX12_formula 2 = .ok (.putfield 174, 3) := by decide +kernel
theorem dX12_formula_5 : decode cX12_formula 5 = .ok (.aload_n 0, 1) := by decide +kernel
theorem dX12_formula_6 : decode cX12_formula 6 = .ok (.iconst (-1), 1) := by decide +kernel
theorem dX12_formula_7 : decode cX12_formula 7 = .ok (.putfield 189, 3) := by decide +kernel
theorem dX12_formula_10 : decode cX12_formula 10 = .ok (.aload_n 0, 1) := by decide +kernel
theorem dX12_formula_11 : decode cX12_formula 11 = .ok (.iconst 0, 1) := by decide +kernel
theorem dX12_formula_12 : decode cX12_formula 12 = .ok (.putfield 369, 3) := by decide +kernel
theorem dX12_formula_15 : decode cX12_formula 15 = .ok (.aload_n 0, 1) := by decide +kernel
theorem dX12_formula_16 : decode cX12_formula 16 = .ok (.invokevirtual 372, 3) := by decide +kernel
theorem dX12_formula_19 : decode cX12_formula 19 = .ok (.istore_n 1, 1) := by decide +kernel
theorem dX12_formula_20 : decode cX12_formula 20 = .ok (.aload_n 0, 1) := by decide +kernel
theorem dX12_formula_21 : decode cX12_formula 21 = .ok (.getfield 189, 3) := by decide +kernel
theorem dX12_formula_24 : decode cX12_formula 24 = .ok (.ifCond .ge 16, 3) := by decide +kernel
theorem dX12_formula_27 : decode cX12_formula 27 = .ok (.aload_n 0, 1) := by decide +kernel
theorem dX12_formula_28 : decode cX12_formula 28 = .ok (.invokevirtual 177, 3) := by decide +kernel
theorem dX12_formula_31 : decode cX12_formula 31 = .ok (.bipush 61, 2) := by decide +kernel
theorem dX12_formula_33 : decode cX12_formula 33 = .ok (.if_icmp .ne 7, 3) := by decide +kernel
theorem dX12_formula_36 : decode cX12_formula 36 = .ok (.iconst 1, 1) := by decide +kernel
theorem dX12_formula_37 : decode cX12_formula 37 = .ok (.goto 4, 3) := by decide +kernel
theorem dX12_formula_40 : decode cX12_formula 40 = .ok (.iconst 0, 1) := by decide +kernel
theorem dX12_formula_41 : decode cX12_formula 41 = .ok (.istore_n 2, 1) := by decide +kernel
theorem dX12_formula_42 : decode cX12_formula 42 = .ok (.iconst (-1), 1) := by decide +kernel
theorem dX12_formula_43 : decode cX12_formula 43 = .ok (.istore_n 3, 1) := by decide +kernel
theorem dX12_formula_44 : decode cX12_formula 44 = .ok (.iload_n 2, 1) := by decide +kernel
theorem dX12_formula_45 : decode cX12_formula 45 = .ok (.ifCond .eq 18, 3) := by decide +kernel
theorem dX12_formula_48 : decode cX12_formula 48 = .ok (.aload_n 0, 1) := by decide +kernel
theorem dX12_formula_49 : decode cX12_formula 49 = .ok (.dup, 1) := by decide +kernel
theorem dX12_formula_50 : decode cX12_formula 50 = .ok (.getfield 174, 3) := by decide +kernel
theorem dX12_formula_53 : decode cX12_formula 53 = .ok (.iconst 1, 1) := by decide +kernel
theorem dX12_formula_54 : decode cX12_formula 54 = .ok (.iadd, 1) := by decide +kernel
theorem dX12_formula_55 : decode cX12_formula 55 = .ok (.putfield 174, 3) := by decide +kernel
theorem dX12_formula_58 : decode cX12_formula 58 = .ok (.aload_n 0, 1) := by decide +kernel
theorem dX12_formula_59 : decode cX12_formula 59 = .ok (.invokevirtual 372, 3) := by decide +kernel
theorem dX12_formula_62 : decode cX12_formula 62 = .ok (.istore_n 3, 1) := by decide +kernel
theorem dX12_formula_63 : decode cX12_formula 63 = .ok (.aload_n 0, 1) := by decide +kernel
theorem dX12_formula_64 : decode cX12_formula 64 = .ok (.getfield 174, 3) := by decide +kernel
theorem dX12_formula_67 : decode cX12_formula 67 = .ok (.aload_n 0, 1) := by decide +kernel
theorem dX12_formula_68 : decode cX12_formula 68 = .ok (.getfield 171, 3) := by decide +kernel
theorem dX12_formula_71 : decode cX12_formula 71 = .ok (.if_icmp .ge 7, 3) := by decide +kernel
theorem dX12_formula_74 : decode cX12_formula 74 = .ok (.aload_n 0, 1) := by decide +kernel
theorem dX12_formula_75 : decode cX12_formula 75 = .ok (.invokevirtual 192, 3) := by decide +kernel
theorem dX12_formula_78 : decode cX12_formula 78 = .ok (.aload_n 0, 1) := by decide +kernel
theorem dX12_formula_79 : decode cX12_formula 79 = .ok (.getfield 314, 3) := by decide +kernel
theorem dX12_formula_82 : decode cX12_formula 82 = .ok (.ifCond .eq 10, 3) := by decide +kernel
theorem dX12_formula_85 : decode cX12_formula 85 = .ok (.aload_n 0, 1) := by decide +kernel
theorem dX12_formula_86 : decode cX12_formula 86 = .ok (.getfield 189, 3) := by decide +kernel
theorem dX12_formula_89 : decode cX12_formula 89 = .ok (.ifCond .lt 4, 3) := by decide +kernel
theorem dX12_formula_92 : decode cX12_formula 92 = .ok (.return_, 1) := by decide +kernel
theorem dX12_formula_93 : decode cX12_formula 93 = .ok (.aload_n 0, 1) := by decide +kernel
theorem dX12_formula_94 : decode cX12_formula 94 = .ok (.iload_n 2, 1) := by decide +kernel
theorem dX12_formula_95 : decode cX12_formula 95 = .ok (.putfield 393, 3) := by decide +kernel
theorem dX12_formula_98 : decode cX12_formula 98 = .ok (.aload_n 0, 1) := by decide +kernel
theorem dX12_formula_99 : decode cX12_formula 99 = .ok (.iload_n 1, 1) := by decide +kernel
theorem dX12_formula_100 : decode cX12_formula 100 = .ok (.putfield 396, 3) := by decide +kernel
theorem dX12_formula_103 : decode cX12_formula 103 = .ok (.aload_n 0, 1) := by decide +kernel
theorem dX12_formula_104 : decode cX12_formula 104 = .ok (.iload_n 3, 1) := by decide +kernel
theorem dX12_formula_105 : decode cX12_formula 105 = .ok (.putfield 399, 3) := by decide +kernel
theorem dX12_formula_108 : decode cX12_formula 108 = .ok (.iload_n 2, 1) := by decide +kernel
theorem dX12_formula_109 : decode cX12_formula 109 = .ok (.ifCond .eq 12, 3) := by decide +kernel
theorem dX12_formula_112 : decode cX12_formula 112 = .ok (.aload_n 0, 1) := by decide +kernel
theorem dX12_formula_113 : decode cX12_formula 113 = .ok (.iload_n 1, 1) := by decide +kernel
theorem dX12_formula_114 : decode cX12_formula 114 = .ok (.iload_n 3, 1) := by decide +kernel
theorem dX12_formula_115 : decode cX12_formula 115 = .ok (.iconst (-1), 1) := by decide +kernel
theorem dX12_formula_116 : decode cX12_formula 116 = .ok (.iconst 5, 1) := by decide +kernel
theorem dX12_formula_117 : decode cX12_formula 117 = .ok (.invokevirtual 389, 3) := by decide +kernel
theorem dX12_formula_120 : decode cX12_formula 120 = .ok (.pop, 1) := by decide +kernel
theorem dX12_formula_121 : decode cX12_formula 121 = .ok (.return_, 1) := by decide +kernel
theorem dX12_prove_0 : decode cX12_prove 0 = .ok (.aload_n 0, 1) := by decide +kernel
theorem dX12_prove_1 : decode cX12_prove 1 = .ok (.iconst 0, 1) := by decide +kernel
theorem dX12_prove_2 : decode cX12_prove 2 = .ok (.putfield 314, 3) := by decide +kernel
theorem dX12_prove_5 : decode cX12_prove 5 = .ok (.aload_n 0, 1) := by decide +kernel
theorem dX12_prove_6 : decode cX12_prove 6 = .ok (.invokevirtual 402, 3) := by decide +kernel
theorem dX12_prove_9 : decode cX12_prove 9 = .ok (.bipush (-100), 2) := by decide +kernel
theorem dX12_prove_11 : decode cX12_prove 11 = .ok (.aload_n 0, 1) := by decide +kernel
theorem dX12_prove_12 : decode cX12_prove 12 = .ok (.getfield 189, 3) := by decide +kernel
theorem dX12_prove_15 : decode cX12_prove 15 = .ok (.isub, 1) := by decide +kernel
theorem dX12_prove_16 : decode cX12_prove 16 = .ok (.istore_n 1, 1) := by decide +kernel
theorem dX12_prove_17 : decode cX12_prove 17 = .ok (.aload_n 0, 1) := by decide +kernel
theorem dX12_prove_18 : decode cX12_prove 18 = .ok (.getfield 189, 3) := by decide +kernel
theorem dX12_prove_21 : decode cX12_prove 21 = .ok (.ifCond .ge 32, 3) := by decide +kernel
theorem dX12_prove_24 : decode cX12_prove 24 = .ok (.aload_n 0, 1) := by decide +kernel
theorem dX12_prove_25 : decode cX12_prove 25 = .ok (.iconst 1, 1) := by decide +kernel
theorem dX12_prove_26 : decode cX12_prove 26 = .ok (.putfield 314, 3) := by decide +kernel
theorem dX12_prove_29 : decode cX12_prove 29 = .ok (.aload_n 0, 1) := by decide +kernel
theorem dX12_prove_30 : decode cX12_prove 30 = .ok (.iconst 1, 1) := by decide +kernel
theorem dX12_prove_31 : decode cX12_prove 31 = .ok (.putfield 405, 3) := by decide +kernel
theorem dX12_prove_34 : decode cX12_prove 34 = .ok (.aload_n 0, 1) := by decide +kernel
theorem dX12_prove_35 : decode cX12_prove 35 = .ok (.iconst 0, 1) := by decide +kernel
theorem dX12_prove_36 : decode cX12_prove 36 = .ok (.putfield 320, 3) := by decide +kernel
theorem dX12_prove_39 : decode cX12_prove 39 = .ok (.aload_n 0, 1) := by decide +kernel
theorem dX12_prove_40 : decode cX12_prove 40 = .ok (.iconst 0, 1) := by decide +kernel
theorem dX12_prove_41 : decode cX12_prove 41 = .ok (.putfield 317, 3) := by decide +kernel
theorem dX12_prove_44 : decode cX12_prove 44 = .ok (.aload_n 0, 1) := by decide +kernel
theorem dX12_prove_45 : decode cX12_prove 45 = .ok (.invokevirtual 402, 3) := by decide +kernel
theorem dX12_prove_48 : decode cX12_prove 48 = .ok (.aload_n 0, 1) := by decide +kernel
theorem dX12_prove_49 : decode cX12_prove 49 = .ok (.getfield 320, 3) := by decide +kernel
theorem dX12_prove_52 : decode cX12_prove 52 = .ok (.istore_n 1, 1) := by decide +kernel
theorem dX12_prove_53 : decode cX12_prove 53 = .ok (.aload_n 0, 1) := by decide +kernel
theorem dX12_prove_54 : decode cX12_prove 54 = .ok (.iconst 0, 1) := by decide +kernel
theorem dX12_prove_55 : decode cX12_prove 55 = .ok (.putfield 171, 3) := by decide +kernel
theorem dX12_prove_58 : decode cX12_prove 58 = .ok (.iload_n 1, 1) := by decide +kernel
theorem dX12_prove_59 : decode cX12_prove 59 = .ok (.ireturn, 1) := by decide +kernel
theorem dX12_proof_0 : decode cX12_proof 0 = .ok (.aload_n 0, 1) := by decide +kernel
theorem dX12_proof_1 : decode cX12_proof 1 = .ok (.getfield 405, 3) := by decide +kernel
theorem dX12_proof_4 : decode cX12_proof 4 = .ok (.ifCond .ne 6, 3) := by decide +kernel
theorem dX12_proof_7 : decode cX12_proof 7 = .ok (.bipush (-3), 2) := by decide +kernel
theorem dX12_proof_9 : decode cX12_proof 9 = .ok (.ireturn, 1) := by decide +kernel
theorem dX12_proof_10 : decode cX12_proof 10 = .ok (.iconst 0, 1) := by decide +kernel
theorem dX12_proof_11 : decode cX12_proof 11 = .ok (.istore_n 2, 1) := by decide +kernel
theorem dX12_proof_12 : decode cX12_proof 12 = .ok (.iconst 0, 1) := by decide +kernel
theorem dX12_proof_13 : decode cX12_proof 13 = .ok (.istore_n 3, 1) := by decide +kernel
theorem dX12_proof_14 : decode cX12_proof 14 = .ok (.iload_n 3, 1) := by decide +kernel
theorem dX12_proof_15 : decode cX12_proof 15 = .ok (.aload_n 0, 1) := by decide +kernel
theorem dX12_proof_16 : decode cX12_proof 16 = .ok (.getfield 320, 3) := by decide +kernel
theorem dX12_proof_19 : decode cX12_proof 19 = .ok (.if_icmp .ge 26, 3) := by decide +kernel
theorem dX12_proof_22 : decode cX12_proof 22 = .ok (.iload_n 2, 1) := by decide +kernel
theorem dX12_proof_23 : decode cX12_proof 23 = .ok (.aload_n 0, 1) := by decide +kernel
theorem dX12_proof_24 : decode cX12_proof 24 = .ok (.getfield 77, 3) := by decide +kernel
theorem dX12_proof_27 : decode cX12_proof 27 = .ok (.iload_n 3, 1) := by decide +kernel
theorem dX12_proof_28 : decode cX12_proof 28 = .ok (.iaload, 1) := by decide +kernel
theorem dX12_proof_29 : decode cX12_proof 29 = .ok (.ifCond .ne 7, 3) := by decide +kernel
theorem dX12_proof_32 : decode cX12_proof 32 = .ok (.iconst 1, 1) := by decide +kernel
theorem dX12_proof_33 : decode cX12_proof 33 = .ok (.goto 4, 3) := by decide +kernel
theorem dX12_proof_36 : decode cX12_proof 36 = .ok (.iconst 0, 1) := by decide +kernel
theorem dX12_proof_37 : decode cX12_proof 37 = .ok (.iadd, 1) := by decide +kernel
theorem dX12_proof_38 : decode cX12_proof 38 = .ok (.istore_n 2, 1) := by decide +kernel
theorem dX12_proof_39 : decode cX12_proof 39 = .ok (.iinc 3 1, 3) := by decide +kernel
theorem dX12_proof_42 : decode cX12_proof 42 = .ok (.goto (-28), 3) := by decide +kernel
theorem dX12_proof_45 : decode cX12_proof 45 = .ok (.iload_n 1, 1) := by decide +kernel
theorem dX12_proof_46 : decode cX12_proof 46 = .ok (.tableswitch 106 0 4 #[34, 50, 55, 68, 104], 34) := by decide +kernel
theorem dX12_proof_80 : decode cX12_proof 80 = .ok (.aload_n 0, 1) := by decide +kernel
theorem dX12_proof_81 : decode cX12_proof 81 = .ok (.getfield 317, 3) := by decide +kernel
theorem dX12_proof_84 : decode cX12_proof 84 = .ok (.ifCond .ne 7, 3) := by decide +kernel
theorem dX12_proof_87 : decode cX12_proof 87 = .ok (.iconst 1, 1) := by decide +kernel
theorem dX12_proof_88 : decode cX12_proof 88 = .ok (.goto 7, 3) := by decide +kernel
theorem dX12_proof_91 : decode cX12_proof 91 = .ok (.aload_n 0, 1) := by decide +kernel
theorem dX12_proof_92 : decode cX12_proof 92 = .ok (.getfield 317, 3) := by decide +kernel
theorem dX12_proof_95 : decode cX12_proof 95 = .ok (.ireturn, 1) := by decide +kernel
theorem dX12_proof_96 : decode cX12_proof 96 = .ok (.aload_n 0, 1) := by decide +kernel
theorem dX12_proof_97 : decode cX12_proof 97 = .ok (.getfield 320, 3) := by decide +kernel
theorem dX12_proof_100 : decode cX12_proof 100 = .ok (.ireturn, 1) := by decide +kernel
theorem dX12_proof_101 : decode cX12_proof 101 = .ok (.aload_n 0, 1) := by decide +kernel
theorem dX12_proof_102 : decode cX12_proof 102 = .ok (.getfield 393, 3) := by decide +kernel
theorem dX12_proof_105 : decode cX12_proof 105 = .ok (.ifCond .eq 7, 3) := by decide +kernel
theorem dX12_proof_108 : decode cX12_proof 108 = .ok (.iconst 1, 1) := by decide +kernel
theorem dX12_proof_109 : decode cX12_proof 109 = .ok (.goto 4, 3) := by decide +kernel
theorem dX12_proof_112 : decode cX12_proof 112 = .ok (.iconst 0, 1) := by decide +kernel
theorem dX12_proof_113 : decode cX12_proof 113 = .ok (.ireturn, 1) := by decide +kernel
theorem dX12_proof_114 : decode cX12_proof 114 = .ok (.aload_n 0, 1) := by decide +kernel
theorem dX12_proof_115 : decode cX12_proof 115 = .ok (.getfield 317, 3) := by decide +kernel
theorem dX12_proof_118 : decode cX12_proof 118 = .ok (.ifCond .ne 30, 3) := by decide +kernel
theorem dX12_proof_121 : decode cX12_proof 121 = .ok (.aload_n 0, 1) := by decide +kernel
theorem dX12_proof_122 : decode cX12_proof 122 = .ok (.getfield 393, 3) := by decide +kernel
theorem dX12_proof_125 : decode cX12_proof 125 = .ok (.ifCond .eq 23, 3) := by decide +kernel
theorem dX12_proof_128 : decode cX12_proof 128 = .ok (.aload_n 0, 1) := by decide +kernel
theorem dX12_proof_129 : decode cX12_proof 129 = .ok (.getfield 83, 3) := by decide +kernel
theorem dX12_proof_132 : decode cX12_proof 132 = .ok (.aload_n 0, 1) := by decide +kernel
theorem dX12_proof_133 : decode cX12_proof 133 = .ok (.getfield 320, 3) := by decide +kernel
theorem dX12_proof_136 : decode cX12_proof 136 = .ok (.iconst 1, 1) := by decide +kernel
theorem dX12_proof_137 : decode cX12_proof 137 = .ok (.isub, 1) := by decide +kernel
theorem dX12_proof_138 : decode cX12_proof 138 = .ok (.laload, 1) := by decide +kernel
theorem dX12_proof_139 : decode cX12_proof 139 = .ok (.lconst 0, 1) := by decide +kernel
theorem dX12_proof_140 : decode cX12_proof 140 = .ok (.lcmp, 1) := by decide +kernel
theorem dX12_proof_141 : decode cX12_proof 141 = .ok (.ifCond .ne 7, 3) := by decide +kernel
theorem dX12_proof_144 : decode cX12_proof 144 = .ok (.iconst 1, 1) := by decide +kernel
theorem dX12_proof_145 : decode cX12_proof 145 = .ok (.goto 4, 3) := by decide +kernel
theorem dX12_proof_148 : decode cX12_proof 148 = .ok (.iconst 0, 1) := by decide +kernel
theorem dX12_proof_149 : decode cX12_proof 149 = .ok (.ireturn, 1) := by decide +kernel
theorem dX12_proof_150 : decode cX12_proof 150 = .ok (.iload_n 2, 1) := by decide +kernel
theorem dX12_proof_151 : decode cX12_proof 151 = .ok (.ireturn, 1) := by decide +kernel
theorem dX12_proof_152 : decode cX12_proof 152 = .ok (.iconst (-1), 1) := by decide +kernel
theorem dX12_proof_153 : decode cX12_proof 153 = .ok (.ireturn, 1) := by decide +kernel
theorem dX12_isStep_0 : decode cX12_isStep 0 = .ok (.iload_n 1, 1) := by decide +kernel
theorem dX12_isStep_1 : decode cX12_isStep 1 = .ok (.i2l, 1) := by decide +kernel
theorem dX12_isStep_2 : decode cX12_isStep 2 = .ok (.lconst 0, 1) := by decide +kernel
theorem dX12_isStep_3 : decode cX12_isStep 3 = .ok (.aload_n 0, 1) := by decide +kernel
theorem dX12_isStep_4 : decode cX12_isStep 4 = .ok (.getfield 320, 3) := by decide +kernel
theorem dX12_isStep_7 : decode cX12_isStep 7 = .ok (.iconst 1, 1) := by decide +kernel
theorem dX12_isStep_8 : decode cX12_isStep 8 = .ok (.isub, 1) := by decide +kernel
theorem dX12_isStep_9 : decode cX12_isStep 9 = .ok (.i2l, 1) := by decide +kernel
theorem dX12_isStep_10 : decode cX12_isStep 10 = .ok (.invokestatic 161, 3) := by decide +kernel
theorem dX12_isStep_13 : decode cX12_isStep 13 = .ok (.ireturn, 1) := by decide +kernel
theorem dX12_step_0 : decode cX12_step 0 = .ok (.aload_n 0, 1) := by decide +kernel
theorem dX12_step_1 : decode cX12_step 1 = .ok (.getfield 405, 3) := by decide +kernel
theorem dX12_step_4 : decode cX12_step 4 = .ok (.ifCond .ne 6, 3) := by decide +kernel
theorem dX12_step_7 : decode cX12_step 7 = .ok (.bipush (-3), 2) := by decide +kernel
theorem dX12_step_9 : decode cX12_step 9 = .ok (.ireturn, 1) := by decide +kernel
theorem dX12_step_10 : decode cX12_step 10 = .ok (.aload_n 0, 1) := by decide +kernel
theorem dX12_step_11 : decode cX12_step 11 = .ok (.iload_n 1, 1) := by decide +kernel
theorem dX12_step_12 : decode cX12_step 12 = .ok (.invokevirtual 408, 3) := by decide +kernel
theorem dX12_step_15 : decode cX12_step 15 = .ok (.ifCond .eq 15, 3) := by decide +kernel
theorem dX12_step_18 : decode cX12_step 18 = .ok (.iload_n 2, 1) := by decide +kernel
theorem dX12_step_19 : decode cX12_step 19 = .ok (.i2l, 1) := by decide +kernel
theorem dX12_step_20 : decode cX12_step 20 = .ok (.lconst 0, 1) := by decide +kernel
theorem dX12_step_21 : decode cX12_step 21 = .ok (.ldc2_w 411, 3) := by decide +kernel
theorem dX12_step_24 : decode cX12_step 24 = .ok (.invokestatic 161, 3) := by decide +kernel
theorem dX12_step_27 : decode cX12_step 27 = .ok (.ifCond .ne 5, 3) := by decide +kernel
theorem dX12_step_30 : decode cX12_step 30 = .ok (.iconst (-1), 1) := by decide +kernel
theorem dX12_step_31 : decode cX12_step 31 = .ok (.ireturn, 1) := by decide +kernel
theorem dX12_step_32 : decode cX12_step 32 = .ok (.iload_n 2, 1) := by decide +kernel
theorem dX12_step_33 : decode cX12_step 33 = .ok (.ifCond .ne 10, 3) := by decide +kernel
theorem dX12_step_36 : decode cX12_step 36 = .ok (.aload_n 0, 1) := by decide +kernel
theorem dX12_step_37 : decode cX12_step 37 = .ok (.getfield 77, 3) := by decide +kernel
theorem dX12_step_40 : decode cX12_step 40 = .ok (.iload_n 1, 1) := by decide +kernel
theorem dX12_step_41 : decode cX12_step 41 = .ok (.iaload, 1) := by decide +kernel
theorem dX12_step_42 : decode cX12_step 42 = .ok (.ireturn, 1) := by decide +kernel
theorem dX12_step_43 : decode cX12_step 43 = .ok (.iload_n 2, 1) := by decide +kernel
theorem dX12_step_44 : decode cX12_step 44 = .ok (.bipush 6, 2) := by decide +kernel
theorem dX12_step_46 : decode cX12_step 46 = .ok (.if_icmp .ge 21, 3) := by decide +kernel
theorem dX12_step_49 : decode cX12_step 49 = .ok (.aload_n 0, 1) := by decide +kernel
theorem dX12_step_50 : decode cX12_step 50 = .ok (.getfield 80, 3) := by decide +kernel
theorem dX12_step_53 : decode cX12_step 53 = .ok (.iconst 5, 1) := by decide +kernel
theorem dX12_step_54 : decode cX12_step 54 = .ok (.iload_n 1, 1) := by decide +kernel
theorem dX12_step_55 : decode cX12_step 55 = .ok (.imul, 1) := by decide +kernel
theorem dX12_step_56 : decode cX12_step 56 = .ok (.iload_n 2, 1) := by decide +kernel
theorem dX12_step_57 : decode cX12_step 57 = .ok (.iadd, 1) := by decide +kernel
theorem dX12_step_58 : decode cX12_step 58 = .ok (.iconst 1, 1) := by decide +kernel
theorem dX12_step_59 : decode cX12_step 59 = .ok (.isub, 1) := by decide +kernel
theorem dX12_step_60 : decode cX12_step 60 = .ok (.iaload, 1) := by decide +kernel
theorem dX12_step_61 : decode cX12_step 61 = .ok (.bipush 100, 2) := by decide +kernel
theorem dX12_step_63 : decode cX12_step 63 = .ok (.iadd, 1) := by decide +kernel
theorem dX12_step_64 : decode cX12_step 64 = .ok (.goto 14, 3) := by decide +kernel
theorem dX12_step_67 : decode cX12_step 67 = .ok (.aload_n 0, 1) := by decide +kernel
theorem dX12_step_68 : decode cX12_step 68 = .ok (.getfield 83, 3) := by decide +kernel
theorem dX12_step_71 : decode cX12_step 71 = .ok (.iload_n 1, 1) := by decide +kernel
theorem dX12_step_72 : decode cX12_step 72 = .ok (.laload, 1) := by decide +kernel
theorem dX12_step_73 : decode cX12_step 73 = .ok (.invokestatic 413, 3) := by decide +kernel
theorem dX12_step_76 : decode cX12_step 76 = .ok (.iconst 1, 1) := by decide +kernel
theorem dX12_step_77 : decode cX12_step 77 = .ok (.iadd, 1) := by decide +kernel
theorem dX12_step_78 : decode cX12_step 78 = .ok (.ireturn, 1) := by decide +kernel
theorem dX12_value_0 : decode cX12_value 0 = .ok (.aload_n 0, 1) := by decide +kernel
theorem dX12_value_1 : decode cX12_value 1 = .ok (.getfield 405, 3) := by decide +kernel
theorem dX12_value_4 : decode cX12_value 4 = .ok (.ifCond .eq 37, 3) := by decide +kernel
theorem dX12_value_7 : decode cX12_value 7 = .ok (.aload_n 0, 1) := by decide +kernel
theorem dX12_value_8 : decode cX12_value 8 = .ok (.iload_n 1, 1) := by decide +kernel
theorem dX12_value_9 : decode cX12_value 9 = .ok (.invokevirtual 408, 3) := by decide +kernel
theorem dX12_value_12 : decode cX12_value 12 = .ok (.ifCond .eq 29, 3) := by decide +kernel
theorem dX12_value_15 : decode cX12_value 15 = .ok (.iload_n 2, 1) := by decide +kernel
theorem dX12_value_16 : decode cX12_value 16 = .ok (.invokestatic 288, 3) := by decide +kernel
theorem dX12_value_19 : decode cX12_value 19 = .ok (.ifCond .eq 22, 3) := by decide +kernel
theorem dX12_value_22 : decode cX12_value 22 = .ok (.aload_n 0, 1) := by decide +kernel
theorem dX12_value_23 : decode cX12_value 23 = .ok (.getfield 83, 3) := by decide +kernel
theorem dX12_value_26 : decode cX12_value 26 = .ok (.iload_n 1, 1) := by decide +kernel
theorem dX12_value_27 : decode cX12_value 27 = .ok (.laload, 1) := by decide +kernel
theorem dX12_value_28 : decode cX12_value 28 = .ok (.aload_n 0, 1) := by decide +kernel
theorem dX12_value_29 : decode cX12_value 29 = .ok (.getfield 86, 3) := by decide +kernel
theorem dX12_value_32 : decode cX12_value 32 = .ok (.iload_n 1, 1) := by decide +kernel
theorem dX12_value_33 : decode cX12_value 33 = .ok (.laload, 1) := by decide +kernel
theorem dX12_value_34 : decode cX12_value 34 = .ok (.iload_n 2, 1) := by decide +kernel
theorem dX12_value_35 : decode cX12_value 35 = .ok (.invokestatic 291, 3) := by decide +kernel
theorem dX12_value_38 : decode cX12_value 38 = .ok (.goto 6, 3) := by decide +kernel
theorem dX12_value_41 : decode cX12_value 41 = .ok (.ldc2_w 137, 3) := by decide +kernel
theorem dX12_value_44 : decode cX12_value 44 = .ok (.lreturn, 1) := by decide +kernel
theorem dX12_same_0 : decode cX12_same 0 = .ok (.aload_n 0, 1) := by decide +kernel
theorem dX12_same_1 : decode cX12_same 1 = .ok (.getfield 405, 3) := by decide +kernel
theorem dX12_same_4 : decode cX12_same 4 = .ok (.ifCond .ne 6, 3) := by decide +kernel
theorem dX12_same_7 : decode cX12_same 7 = .ok (.bipush (-3), 2) := by decide +kernel
theorem dX12_same_9 : decode cX12_same 9 = .ok (.ireturn, 1) := by decide +kernel
theorem dX12_same_10 : decode cX12_same 10 = .ok (.aload_n 0, 1) := by decide +kernel
theorem dX12_same_11 : decode cX12_same 11 = .ok (.iload_n 1, 1) := by decide +kernel
theorem dX12_same_12 : decode cX12_same 12 = .ok (.invokevirtual 408, 3) := by decide +kernel
theorem dX12_same_15 : decode cX12_same 15 = .ok (.ifCond .eq 11, 3) := by decide +kernel
theorem dX12_same_18 : decode cX12_same 18 = .ok (.aload_n 0, 1) := by decide +kernel
theorem dX12_same_19 : decode cX12_same 19 = .ok (.iload_n 2, 1) := by decide +kernel
theorem dX12_same_20 : decode cX12_same 20 = .ok (.invokevirtual 408, 3) := by decide +kernel
theorem dX12_same_23 : decode cX12_same 23 = .ok (.ifCond .ne 5, 3) := by decide +kernel
theorem dX12_same_26 : decode cX12_same 26 = .ok (.iconst (-1), 1) := by decide +kernel
theorem dX12_same_27 : decode cX12_same 27 = .ok (.ireturn, 1) := by decide +kernel
theorem dX12_same_28 : decode cX12_same 28 = .ok (.aload_n 0, 1) := by decide +kernel
theorem dX12_same_29 : decode cX12_same 29 = .ok (.iload_n 1, 1) := by decide +kernel
theorem dX12_same_30 : decode cX12_same 30 = .ok (.iload_n 2, 1) := by decide +kernel
theorem dX12_same_31 : decode cX12_same 31 = .ok (.invokevirtual 377, 3) := by decide +kernel
theorem dX12_same_34 : decode cX12_same 34 = .ok (.ifCond .ne 5, 3) := by decide +kernel
theorem dX12_same_37 : decode cX12_same 37 = .ok (.iconst 0, 1) := by decide +kernel
theorem dX12_same_38 : decode cX12_same 38 = .ok (.ireturn, 1) := by decide +kernel
theorem dX12_same_39 : decode cX12_same 39 = .ok (.aload_n 0, 1) := by decide +kernel
theorem dX12_same_40 : decode cX12_same 40 = .ok (.getfield 83, 3) := by decide +kernel
theorem dX12_same_43 : decode cX12_same 43 = .ok (.iload_n 1, 1) := by decide +kernel
theorem dX12_same_44 : decode cX12_same 44 = .ok (.laload, 1) := by decide +kernel
theorem dX12_same_45 : decode cX12_same 45 = .ok (.aload_n 0, 1) := by decide +kernel
theorem dX12_same_46 : decode cX12_same 46 = .ok (.getfield 83, 3) := by decide +kernel
theorem dX12_same_49 : decode cX12_same 49 = .ok (.iload_n 2, 1) := by decide +kernel
theorem dX12_same_50 : decode cX12_same 50 = .ok (.laload, 1) := by decide +kernel
theorem dX12_same_51 : decode cX12_same 51 = .ok (.lcmp, 1) := by decide +kernel
theorem dX12_same_52 : decode cX12_same 52 = .ok (.ifCond .ne 23, 3) := by decide +kernel
theorem dX12_same_55 : decode cX12_same 55 = .ok (.aload_n 0, 1) := by decide +kernel
theorem dX12_same_56 : decode cX12_same 56 = .ok (.getfield 86, 3) := by decide +kernel
theorem dX12_same_59 : decode cX12_same 59 = .ok (.iload_n 1, 1) := by decide +kernel
theorem dX12_same_60 : decode cX12_same 60 = .ok (.laload, 1) := by decide +kernel
theorem dX12_same_61 : decode cX12_same 61 = .ok (.aload_n 0, 1) := by decide +kernel
theorem dX12_same_62 : decode cX12_same 62 = .ok (.getfield 86, 3) := by decide +kernel
theorem dX12_same_65 : decode cX12_same 65 = .ok (.iload_n 2, 1) := by decide +kernel
theorem dX12_same_66 : decode cX12_same 66 = .ok (.laload, 1) := by decide +kernel
theorem dX12_same_67 : decode cX12_same 67 = .ok (.lcmp, 1) := by decide +kernel
theorem dX12_same_68 : decode cX12_same 68 = .ok (.ifCond .ne 7, 3) := by decide +kernel
theorem dX12_same_71 : decode cX12_same 71 = .ok (.iconst 2, 1) := by decide +kernel
theorem dX12_same_72 : decode cX12_same 72 = .ok (.goto 4, 3) := by decide +kernel
theorem dX12_same_75 : decode cX12_same 75 = .ok (.iconst 1, 1) := by decide +kernel
theorem dX12_same_76 : decode cX12_same 76 = .ok (.ireturn, 1) := by decide +kernel
theorem dX12_result_0 : decode cX12_result 0 = .ok (.aload_n 0, 1) := by decide +kernel
theorem dX12_result_1 : decode cX12_result 1 = .ok (.getfield 405, 3) := by decide +kernel
theorem dX12_result_4 : decode cX12_result 4 = .ok (.ifCond .eq 31, 3) := by decide +kernel
theorem dX12_result_7 : decode cX12_result 7 = .ok (.aload_n 0, 1) := by decide +kernel
theorem dX12_result_8 : decode cX12_result 8 = .ok (.getfield 317, 3) := by decide +kernel
theorem dX12_result_11 : decode cX12_result 11 = .ok (.ifCond .ne 24, 3) := by decide +kernel
theorem dX12_result_14 : decode cX12_result 14 = .ok (.iload_n 1, 1) := by decide +kernel
theorem dX12_result_15 : decode cX12_result 15 = .ok (.i2l, 1) := by decide +kernel
theorem dX12_result_16 : decode cX12_result 16 = .ok (.lconst 0, 1) := by decide +kernel
theorem dX12_result_17 : decode cX12_result 17 = .ok (.aload_n 0, 1) := by decide +kernel
theorem dX12_result_18 : decode cX12_result 18 = .ok (.getfield 393, 3) := by decide +kernel
theorem dX12_result_21 : decode cX12_result 21 = .ok (.ifCond .eq 7, 3) := by decide +kernel
theorem dX12_result_24 : decode cX12_result 24 = .ok (.lconst 1, 1) := by decide +kernel
theorem dX12_result_25 : decode cX12_result 25 = .ok (.goto 4, 3) := by decide +kernel
theorem dX12_result_28 : decode cX12_result 28 = .ok (.lconst 0, 1) := by decide +kernel
theorem dX12_result_29 : decode cX12_result 29 = .ok (.invokestatic 161, 3) := by decide +kernel
theorem dX12_result_32 : decode cX12_result 32 = .ok (.ifCond .ne 5, 3) := by decide +kernel
theorem dX12_result_35 : decode cX12_result 35 = .ok (.iconst (-1), 1) := by decide +kernel
theorem dX12_result_36 : decode cX12_result 36 = .ok (.ireturn, 1) := by decide +kernel
theorem dX12_result_37 : decode cX12_result 37 = .ok (.aload_n 0, 1) := by decide +kernel
theorem dX12_result_38 : decode cX12_result 38 = .ok (.getfield 393, 3) := by decide +kernel
theorem dX12_result_41 : decode cX12_result 41 = .ok (.ifCond .ne 12, 3) := by decide +kernel
theorem dX12_result_44 : decode cX12_result 44 = .ok (.aload_n 0, 1) := by decide +kernel
theorem dX12_result_45 : decode cX12_result 45 = .ok (.getfield 320, 3) := by decide +kernel
theorem dX12_result_48 : decode cX12_result 48 = .ok (.iconst 1, 1) := by decide +kernel
theorem dX12_result_49 : decode cX12_result 49 = .ok (.isub, 1) := by decide +kernel
theorem dX12_result_50 : decode cX12_result 50 = .ok (.goto 18, 3) := by decide +kernel
theorem dX12_result_53 : decode cX12_result 53 = .ok (.iload_n 1, 1) := by decide +kernel
theorem dX12_result_54 : decode cX12_result 54 = .ok (.ifCond .ne 10, 3) := by decide +kernel
theorem dX12_result_57 : decode cX12_result 57 = .ok (.aload_n 0, 1) := by decide +kernel
theorem dX12_result_58 : decode cX12_result 58 = .ok (.getfield 396, 3) := by decide +kernel
theorem dX12_result_61 : decode cX12_result 61 = .ok (.goto 7, 3) := by decide +kernel
theorem dX12_result_64 : decode cX12_result 64 = .ok (.aload_n 0, 1) := by decide +kernel
theorem dX12_result_65 : decode cX12_result 65 = .ok (.getfield 399, 3) := by decide +kernel
theorem dX12_result_68 : decode cX12_result 68 = .ok (.ireturn, 1) := by decide +kernel
theorem dX12_isOf_0 : decode cX12_isOf 0 = .ok (.iconst 1, 1) := by decide +kernel
theorem dX12_isOf_1 : decode cX12_isOf 1 = .ok (.istore_n 3, 1) := by decide +kernel
theorem dX12_isOf_2 : decode cX12_isOf 2 = .ok (.iconst 0, 1) := by decide +kernel
theorem dX12_isOf_3 : decode cX12_isOf 3 = .ok (.istore 4, 2) := by decide +kernel
theorem dX12_isOf_5 : decode cX12_isOf 5 = .ok (.iload 4, 2) := by decide +kernel
theorem dX12_isOf_7 : decode cX12_isOf 7 = .ok (.iconst 5, 1) := by decide +kernel
theorem dX12_isOf_8 : decode cX12_isOf 8 = .ok (.if_icmp .ge 42, 3) := by decide +kernel
theorem dX12_isOf_11 : decode cX12_isOf 11 = .ok (.iload_n 3, 1) := by decide +kernel
theorem dX12_isOf_12 : decode cX12_isOf 12 = .ok (.aload_n 0, 1) := by decide +kernel
theorem dX12_isOf_13 : decode cX12_isOf 13 = .ok (.getfield 19, 3) := by decide +kernel
theorem dX12_isOf_16 : decode cX12_isOf 16 = .ok (.iconst 5, 1) := by decide +kernel
theorem dX12_isOf_17 : decode cX12_isOf 17 = .ok (.iload_n 1, 1) := by decide +kernel
theorem dX12_isOf_18 : decode cX12_isOf 18 = .ok (.imul, 1) := by decide +kernel
theorem dX12_isOf_19 : decode cX12_isOf 19 = .ok (.iload 4, 2) := by decide +kernel
theorem dX12_isOf_21 : decode cX12_isOf 21 = .ok (.iadd, 1) := by decide +kernel
theorem dX12_isOf_22 : decode cX12_isOf 22 = .ok (.iaload, 1) := by decide +kernel
theorem dX12_isOf_23 : decode cX12_isOf 23 = .ok (.aload_n 0, 1) := by decide +kernel
theorem dX12_isOf_24 : decode cX12_isOf 24 = .ok (.getfield 80, 3) := by decide +kernel
theorem dX12_isOf_27 : decode cX12_isOf 27 = .ok (.iconst 5, 1) := by decide +kernel
theorem dX12_isOf_28 : decode cX12_isOf 28 = .ok (.iload_n 2, 1) := by decide +kernel
theorem dX12_isOf_29 : decode cX12_isOf 29 = .ok (.imul, 1) := by decide +kernel
theorem dX12_isOf_30 : decode cX12_isOf 30 = .ok (.iload 4, 2) := by decide +kernel
theorem dX12_isOf_32 : decode cX12_isOf 32 = .ok (.iadd, 1) := by decide +kernel
theorem dX12_isOf_33 : decode cX12_isOf 33 = .ok (.iaload, 1) := by decide +kernel
theorem dX12_isOf_34 : decode cX12_isOf 34 = .ok (.if_icmp .ne 7, 3) := by decide +kernel
theorem dX12_isOf_37 : decode cX12_isOf 37 = .ok (.iconst 1, 1) := by decide +kernel
theorem dX12_isOf_38 : decode cX12_isOf 38 = .ok (.goto 4, 3) := by decide +kernel
theorem dX12_isOf_41 : decode cX12_isOf 41 = .ok (.iconst 0, 1) := by decide +kernel
theorem dX12_isOf_42 : decode cX12_isOf 42 = .ok (.iand, 1) := by decide +kernel
theorem dX12_isOf_43 : decode cX12_isOf 43 = .ok (.istore_n 3, 1) := by decide +kernel
theorem dX12_isOf_44 : decode cX12_isOf 44 = .ok (.iinc 4 1, 3) := by decide +kernel
theorem dX12_isOf_47 : decode cX12_isOf 47 = .ok (.goto (-42), 3) := by decide +kernel
theorem dX12_isOf_50 : decode cX12_isOf 50 = .ok (.iload_n 3, 1) := by decide +kernel
theorem dX12_isOf_51 : decode cX12_isOf 51 = .ok (.ireturn, 1) := by decide +kernel
theorem dX12_isToldIn_0 : decode cX12_isToldIn 0 = .ok (.aload_n 0, 1) := by decide +kernel
theorem dX12_isToldIn_1 : decode cX12_isToldIn 1 = .ok (.iload_n 1, 1) := by decide +kernel
theorem dX12_isToldIn_2 : decode cX12_isToldIn 2 = .ok (.invokevirtual 416, 3) := by decide +kernel
theorem dX12_isToldIn_5 : decode cX12_isToldIn 5 = .ok (.istore_n 3, 1) := by decide +kernel
theorem dX12_isToldIn_6 : decode cX12_isToldIn 6 = .ok (.iload_n 3, 1) := by decide +kernel
theorem dX12_isToldIn_7 : decode cX12_isToldIn 7 = .ok (.ifCond .lt 20, 3) := by decide +kernel
theorem dX12_isToldIn_10 : decode cX12_isToldIn 10 = .ok (.aload_n 0, 1) := by decide +kernel
theorem dX12_isToldIn_11 : decode cX12_isToldIn 11 = .ok (.iload_n 2, 1) := by decide +kernel
theorem dX12_isToldIn_12 : decode cX12_isToldIn 12 = .ok (.invokevirtual 283, 3) := by decide +kernel
theorem dX12_isToldIn_15 : decode cX12_isToldIn 15 = .ok (.ifCond .eq 12, 3) := by decide +kernel
theorem dX12_isToldIn_18 : decode cX12_isToldIn 18 = .ok (.aload_n 0, 1) := by decide +kernel
theorem dX12_isToldIn_19 : decode cX12_isToldIn 19 = .ok (.iload_n 2, 1) := by decide +kernel
theorem dX12_isToldIn_20 : decode cX12_isToldIn 20 = .ok (.iload_n 3, 1) := by decide +kernel
theorem dX12_isToldIn_21 : decode cX12_isToldIn 21 = .ok (.invokevirtual 419, 3) := by decide +kernel
theorem dX12_isToldIn_24 : decode cX12_isToldIn 24 = .ok (.ifCond .ne 5, 3) := by decide +kernel
theorem dX12_isToldIn_27 : decode cX12_isToldIn 27 = .ok (.iconst 0, 1) := by decide +kernel
theorem dX12_isToldIn_28 : decode cX12_isToldIn 28 = .ok (.ireturn, 1) := by decide +kernel
theorem dX12_isToldIn_29 : decode cX12_isToldIn 29 = .ok (.aload_n 0, 1) := by decide +kernel
theorem dX12_isToldIn_30 : decode cX12_isToldIn 30 = .ok (.iconst 0, 1) := by decide +kernel
theorem dX12_isToldIn_31 : decode cX12_isToldIn 31 = .ok (.putfield 133, 3) := by decide +kernel
theorem dX12_isToldIn_34 : decode cX12_isToldIn 34 = .ok (.aload_n 0, 1) := by decide +kernel
theorem dX12_isToldIn_35 : decode cX12_isToldIn 35 = .ok (.aload_n 0, 1) := by decide +kernel
theorem dX12_isToldIn_36 : decode cX12_isToldIn 36 = .ok (.getfield 83, 3) := by decide +kernel
theorem dX12_isToldIn_39 : decode cX12_isToldIn 39 = .ok (.iload_n 3, 1) := by decide +kernel
theorem dX12_isToldIn_40 : decode cX12_isToldIn 40 = .ok (.laload, 1) := by decide +kernel
theorem dX12_isToldIn_41 : decode cX12_isToldIn 41 = .ok (.aload_n 0, 1) := by decide +kernel
theorem dX12_isToldIn_42 : decode cX12_isToldIn 42 = .ok (.getfield 86, 3) := by decide +kernel
theorem dX12_isToldIn_45 : decode cX12_isToldIn 45 = .ok (.iload_n 3, 1) := by decide +kernel
theorem dX12_isToldIn_46 : decode cX12_isToldIn 46 = .ok (.laload, 1) := by decide +kernel
theorem dX12_isToldIn_47 : decode cX12_isToldIn 47 = .ok (.aload_n 0, 1) := by decide +kernel
theorem dX12_isToldIn_48 : decode cX12_isToldIn 48 = .ok (.getfield 29, 3) := by decide +kernel
theorem dX12_isToldIn_51 : decode cX12_isToldIn 51 = .ok (.iload_n 2, 1) := by decide +kernel
theorem dX12_isToldIn_52 : decode cX12_isToldIn 52 = .ok (.laload, 1) := by decide +kernel
theorem dX12_isToldIn_53 : decode cX12_isToldIn 53 = .ok (.aload_n 0, 1) := by decide +kernel
theorem dX12_isToldIn_54 : decode cX12_isToldIn 54 = .ok (.getfield 32, 3) := by decide +kernel
theorem dX12_isToldIn_57 : decode cX12_isToldIn 57 = .ok (.iload_n 2, 1) := by decide +kernel
theorem dX12_isToldIn_58 : decode cX12_isToldIn 58 = .ok (.laload, 1) := by decide +kernel
theorem dX12_isToldIn_59 : decode cX12_isToldIn 59 = .ok (.iconst (-1), 1) := by decide +kernel
theorem dX12_isToldIn_60 : decode cX12_isToldIn 60 = .ok (.invokevirtual 329, 3) := by decide +kernel
theorem dX12_isToldIn_63 : decode cX12_isToldIn 63 = .ok (.aload_n 0, 1) := by decide +kernel
theorem dX12_isToldIn_64 : decode cX12_isToldIn 64 = .ok (.getfield 133, 3) := by decide +kernel
theorem dX12_isToldIn_67 : decode cX12_isToldIn 67 = .ok (.ifCond .ne 27, 3) := by decide +kernel
theorem dX12_isToldIn_70 : decode cX12_isToldIn 70 = .ok (.aload_n 0, 1) := by decide +kernel
theorem dX12_isToldIn_71 : decode cX12_isToldIn 71 = .ok (.aload_n 0, 1) := by decide +kernel
theorem dX12_isToldIn_72 : decode cX12_isToldIn 72 = .ok (.getfield 143, 3) := by decide +kernel
theorem dX12_isToldIn_75 : decode cX12_isToldIn 75 = .ok (.aload_n 0, 1) := by decide +kernel
theorem dX12_isToldIn_76 : decode cX12_isToldIn 76 = .ok (.getfield 147, 3) := by decide +kernel
theorem dX12_isToldIn_79 : decode cX12_isToldIn 79 = .ok (.aload_n 0, 1) := by decide +kernel
theorem dX12_isToldIn_80 : decode cX12_isToldIn 80 = .ok (.getfield 22, 3) := by decide +kernel
theorem dX12_isToldIn_83 : decode cX12_isToldIn 83 = .ok (.iload_n 2, 1) := by decide +kernel
theorem dX12_isToldIn_84 : decode cX12_isToldIn 84 = .ok (.laload, 1) := by decide +kernel
theorem dX12_isToldIn_85 : decode cX12_isToldIn 85 = .ok (.aload_n 0, 1) := by decide +kernel
theorem dX12_isToldIn_86 : decode cX12_isToldIn 86 = .ok (.getfield 26, 3) := by decide +kernel
theorem dX12_isToldIn_89 : decode cX12_isToldIn 89 = .ok (.iload_n 2, 1) := by decide +kernel
theorem dX12_isToldIn_90 : decode cX12_isToldIn 90 = .ok (.laload, 1) := by decide +kernel
theorem dX12_isToldIn_91 : decode cX12_isToldIn 91 = .ok (.invokevirtual 253, 3) := by decide +kernel
theorem dX12_isToldIn_94 : decode cX12_isToldIn 94 = .ok (.aload_n 0, 1) := by decide +kernel
theorem dX12_isToldIn_95 : decode cX12_isToldIn 95 = .ok (.getfield 133, 3) := by decide +kernel
theorem dX12_isToldIn_98 : decode cX12_isToldIn 98 = .ok (.ifCond .ne 7, 3) := by decide +kernel
theorem dX12_isToldIn_101 : decode cX12_isToldIn 101 = .ok (.iconst 1, 1) := by decide +kernel
theorem dX12_isToldIn_102 : decode cX12_isToldIn 102 = .ok (.goto 4, 3) := by decide +kernel
theorem dX12_isToldIn_105 : decode cX12_isToldIn 105 = .ok (.iconst 0, 1) := by decide +kernel
theorem dX12_isToldIn_106 : decode cX12_isToldIn 106 = .ok (.ireturn, 1) := by decide +kernel
theorem dX12_in_0 : decode cX12_in 0 = .ok (.iload_n 3, 1) := by decide +kernel
theorem dX12_in_1 : decode cX12_in 1 = .ok (.invokestatic 288, 3) := by decide +kernel
theorem dX12_in_4 : decode cX12_in 4 = .ok (.ifCond .eq 27, 3) := by decide +kernel
theorem dX12_in_7 : decode cX12_in 7 = .ok (.aload_n 0, 1) := by decide +kernel
theorem dX12_in_8 : decode cX12_in 8 = .ok (.iload_n 1, 1) := by decide +kernel
theorem dX12_in_9 : decode cX12_in 9 = .ok (.iload_n 2, 1) := by decide +kernel
theorem dX12_in_10 : decode cX12_in 10 = .ok (.invokevirtual 422, 3) := by decide +kernel
theorem dX12_in_13 : decode cX12_in 13 = .ok (.ifCond .eq 18, 3) := by decide +kernel
theorem dX12_in_16 : decode cX12_in 16 = .ok (.aload_n 0, 1) := by decide +kernel
theorem dX12_in_17 : decode cX12_in 17 = .ok (.getfield 143, 3) := by decide +kernel
theorem dX12_in_20 : decode cX12_in 20 = .ok (.aload_n 0, 1) := by decide +kernel
theorem dX12_in_21 : decode cX12_in 21 = .ok (.getfield 147, 3) := by decide +kernel
theorem dX12_in_24 : decode cX12_in 24 = .ok (.iload_n 3, 1) := by decide +kernel
theorem dX12_in_25 : decode cX12_in 25 = .ok (.invokestatic 291, 3) := by decide +kernel
theorem dX12_in_28 : decode cX12_in 28 = .ok (.goto 6, 3) := by decide +kernel
theorem dX12_in_31 : decode cX12_in 31 = .ok (.ldc2_w 137, 3) := by decide +kernel
theorem dX12_in_34 : decode cX12_in 34 = .ok (.lreturn, 1) := by decide +kernel
theorem dX12_bits_0 : decode cX12_bits 0 = .ok (.iload_n 3, 1) := by decide +kernel
theorem dX12_bits_1 : decode cX12_bits 1 = .ok (.i2l, 1) := by decide +kernel
theorem dX12_bits_2 : decode cX12_bits 2 = .ok (.lconst 0, 1) := by decide +kernel
theorem dX12_bits_3 : decode cX12_bits 3 = .ok (.lconst 1, 1) := by decide +kernel
theorem dX12_bits_4 : decode cX12_bits 4 = .ok (.invokestatic 161, 3) := by decide +kernel
theorem dX12_bits_7 : decode cX12_bits 7 = .ok (.ifCond .eq 12, 3) := by decide +kernel
theorem dX12_bits_10 : decode cX12_bits 10 = .ok (.aload_n 0, 1) := by decide +kernel
theorem dX12_bits_11 : decode cX12_bits 11 = .ok (.iload_n 1, 1) := by decide +kernel
theorem dX12_bits_12 : decode cX12_bits 12 = .ok (.iload_n 2, 1) := by decide +kernel
theorem dX12_bits_13 : decode cX12_bits 13 = .ok (.invokevirtual 422, 3) := by decide +kernel
theorem dX12_bits_16 : decode cX12_bits 16 = .ok (.ifCond .ne 7, 3) := by decide +kernel
theorem dX12_bits_19 : decode cX12_bits 19 = .ok (.ldc2_w 137, 3) := by decide +kernel
theorem dX12_bits_22 : decode cX12_bits 22 = .ok (.lreturn, 1) := by decide +kernel
theorem dX12_bits_23 : decode cX12_bits 23 = .ok (.aload_n 0, 1) := by decide +kernel
theorem dX12_bits_24 : decode cX12_bits 24 = .ok (.getfield 143, 3) := by decide +kernel
theorem dX12_bits_27 : decode cX12_bits 27 = .ok (.l2d, 1) := by decide +kernel
theorem dX12_bits_28 : decode cX12_bits 28 = .ok (.aload_n 0, 1) := by decide +kernel
theorem dX12_bits_29 : decode cX12_bits 29 = .ok (.getfield 147, 3) := by decide +kernel
theorem dX12_bits_32 : decode cX12_bits 32 = .ok (.l2d, 1) := by decide +kernel
theorem dX12_bits_33 : decode cX12_bits 33 = .ok (.ddiv, 1) := by decide +kernel
theorem dX12_bits_34 : decode cX12_bits 34 = .ok (.dstore 4, 2) := by decide +kernel
theorem dX12_bits_36 : decode cX12_bits 36 = .ok (.iload_n 3, 1) := by decide +kernel
theorem dX12_bits_37 : decode cX12_bits 37 = .ok (.iconst 1, 1) := by decide +kernel
theorem dX12_bits_38 : decode cX12_bits 38 = .ok (.if_icmp .ne 11, 3) := by decide +kernel
theorem dX12_bits_41 : decode cX12_bits 41 = .ok (.dload 4, 2) := by decide +kernel
theorem dX12_bits_43 : decode cX12_bits 43 = .ok (.invokestatic 425, 3) := by decide +kernel
theorem dX12_bits_46 : decode cX12_bits 46 = .ok (.goto 10, 3) := by decide +kernel
theorem dX12_bits_49 : decode cX12_bits 49 = .ok (.dload 4, 2) := by decide +kernel
theorem dX12_bits_51 : decode cX12_bits 51 = .ok (.d2f, 1) := by decide +kernel
theorem dX12_bits_52 : decode cX12_bits 52 = .ok (.invokestatic 431, 3) := by decide +kernel
theorem dX12_bits_55 : decode cX12_bits 55 = .ok (.i2l, 1) := by decide +kernel
theorem dX12_bits_56 : decode cX12_bits 56 = .ok (.lreturn, 1) := by decide +kernel
theorem dX12_mayPart_0 : decode cX12_mayPart 0 = .ok (.iconst 0, 1) := by decide +kernel
theorem dX12_mayPart_1 : decode cX12_mayPart 1 = .ok (.istore_n 3, 1) := by decide +kernel
theorem dX12_mayPart_2 : decode cX12_mayPart 2 = .ok (.iload_n 3, 1) := by decide +kernel
theorem dX12_mayPart_3 : decode cX12_mayPart 3 = .ok (.iload_n 2, 1) := by decide +kernel
theorem dX12_mayPart_4 : decode cX12_mayPart 4 = .ok (.if_icmp .ge 76, 3) := by decide +kernel
theorem dX12_mayPart_7 : decode cX12_mayPart 7 = .ok (.aload_n 0, 1) := by decide +kernel
theorem dX12_mayPart_8 : decode cX12_mayPart 8 = .ok (.aload_n 0, 1) := by decide +kernel
theorem dX12_mayPart_9 : decode cX12_mayPart 9 = .ok (.getfield 95, 3) := by decide +kernel
theorem dX12_mayPart_12 : decode cX12_mayPart 12 = .ok (.iload_n 3, 1) := by decide +kernel
theorem dX12_mayPart_13 : decode cX12_mayPart 13 = .ok (.iaload, 1) := by decide +kernel
theorem dX12_mayPart_14 : decode cX12_mayPart 14 = .ok (.invokevirtual 283, 3) := by decide +kernel
theorem dX12_mayPart_17 : decode cX12_mayPart 17 = .ok (.ifCond .eq 55, 3) := by decide +kernel
theorem dX12_mayPart_20 : decode cX12_mayPart 20 = .ok (.aload_n 0, 1) := by decide +kernel
theorem dX12_mayPart_21 : decode cX12_mayPart 21 = .ok (.aload_n 0, 1) := by decide +kernel
theorem dX12_mayPart_22 : decode cX12_mayPart 22 = .ok (.getfield 95, 3) := by decide +kernel
theorem dX12_mayPart_25 : decode cX12_mayPart 25 = .ok (.iload_n 3, 1) := by decide +kernel
theorem dX12_mayPart_26 : decode cX12_mayPart 26 = .ok (.iaload, 1) := by decide +kernel
theorem dX12_mayPart_27 : decode cX12_mayPart 27 = .ok (.iload_n 1, 1) := by decide +kernel
theorem dX12_mayPart_28 : decode cX12_mayPart 28 = .ok (.invokevirtual 419, 3) := by decide +kernel
theorem dX12_mayPart_31 : decode cX12_mayPart 31 = .ok (.ifCond .eq 41, 3) := by decide +kernel
theorem dX12_mayPart_34 : decode cX12_mayPart 34 = .ok (.aload_n 0, 1) := by decide +kernel
theorem dX12_mayPart_35 : decode cX12_mayPart 35 = .ok (.aload_n 0, 1) := by decide +kernel
theorem dX12_mayPart_36 : decode cX12_mayPart 36 = .ok (.getfield 95, 3) := by decide +kernel
theorem dX12_mayPart_39 : decode cX12_mayPart 39 = .ok (.iload_n 3, 1) := by decide +kernel
theorem dX12_mayPart_40 : decode cX12_mayPart 40 = .ok (.iaload, 1) := by decide +kernel
theorem dX12_mayPart_41 : decode cX12_mayPart 41 = .ok (.invokevirtual 247, 3) := by decide +kernel
theorem dX12_mayPart_44 : decode cX12_mayPart 44 = .ok (.ifCond .ne 28, 3) := by decide +kernel
theorem dX12_mayPart_47 : decode cX12_mayPart 47 = .ok (.iload_n 3, 1) := by decide +kernel
theorem dX12_mayPart_48 : decode cX12_mayPart 48 = .ok (.ifCond .le 26, 3) := by decide +kernel
theorem dX12_mayPart_51 : decode cX12_mayPart 51 = .ok (.aload_n 0, 1) := by decide +kernel
theorem dX12_mayPart_52 : decode cX12_mayPart 52 = .ok (.aload_n 0, 1) := by decide +kernel
theorem dX12_mayPart_53 : decode cX12_mayPart 53 = .ok (.getfield 95, 3) := by decide +kernel
theorem dX12_mayPart_56 : decode cX12_mayPart 56 = .ok (.iload_n 3, 1) := by decide +kernel
theorem dX12_mayPart_57 : decode cX12_mayPart 57 = .ok (.iaload, 1) := by decide +kernel
theorem dX12_mayPart_58 : decode cX12_mayPart 58 = .ok (.aload_n 0, 1) := by decide +kernel
theorem dX12_mayPart_59 : decode cX12_mayPart 59 = .ok (.getfield 95, 3) := by decide +kernel
theorem dX12_mayPart_62 : decode cX12_mayPart 62 = .ok (.iload_n 3, 1) := by decide +kernel
theorem dX12_mayPart_63 : decode cX12_mayPart 63 = .ok (.iconst 1, 1) := by decide +kernel
theorem dX12_mayPart_64 : decode cX12_mayPart 64 = .ok (.isub, 1) := by decide +kernel
theorem dX12_mayPart_65 : decode cX12_mayPart 65 = .ok (.iaload, 1) := by decide +kernel
theorem dX12_mayPart_66 : decode cX12_mayPart 66 = .ok (.invokevirtual 309, 3) := by decide +kernel
theorem dX12_mayPart_69 : decode cX12_mayPart 69 = .ok (.ifCond .ne 5, 3) := by decide +kernel
theorem dX12_mayPart_72 : decode cX12_mayPart 72 = .ok (.iconst 0, 1) := by decide +kernel
theorem dX12_mayPart_73 : decode cX12_mayPart 73 = .ok (.ireturn, 1) := by decide +kernel
theorem dX12_mayPart_74 : decode cX12_mayPart 74 = .ok (.iinc 3 1, 3) := by decide +kernel
theorem dX12_mayPart_77 : decode cX12_mayPart 77 = .ok (.goto (-75), 3) := by decide +kernel
theorem dX12_mayPart_80 : decode cX12_mayPart 80 = .ok (.iconst 1, 1) := by decide +kernel
theorem dX12_mayPart_81 : decode cX12_mayPart 81 = .ok (.ireturn, 1) := by decide +kernel
theorem dX12_parted_0 : decode cX12_parted 0 = .ok (.aload_n 0, 1) := by decide +kernel
theorem dX12_parted_1 : decode cX12_parted 1 = .ok (.iconst 0, 1) := by decide +kernel
theorem dX12_parted_2 : decode cX12_parted 2 = .ok (.invokevirtual 416, 3) := by decide +kernel
theorem dX12_parted_5 : decode cX12_parted 5 = .ok (.istore 6, 2) := by decide +kernel
theorem dX12_parted_7 : decode cX12_parted 7 = .ok (.iload_n 3, 1) := by decide +kernel
theorem dX12_parted_8 : decode cX12_parted 8 = .ok (.iconst (-1), 1) := by decide +kernel
theorem dX12_parted_9 : decode cX12_parted 9 = .ok (.if_icmp .eq 7, 3) := by decide +kernel
theorem dX12_parted_12 : decode cX12_parted 12 = .ok (.iconst 3, 1) := by decide +kernel
theorem dX12_parted_13 : decode cX12_parted 13 = .ok (.goto 13, 3) := by decide +kernel
theorem dX12_parted_16 : decode cX12_parted 16 = .ok (.iload_n 2, 1) := by decide +kernel
theorem dX12_parted_17 : decode cX12_parted 17 = .ok (.iconst (-1), 1) := by decide +kernel
theorem dX12_parted_18 : decode cX12_parted 18 = .ok (.if_icmp .eq 7, 3) := by decide +kernel
theorem dX12_parted_21 : decode cX12_parted 21 = .ok (.iconst 2, 1) := by decide +kernel
theorem dX12_parted_22 : decode cX12_parted 22 = .ok (.goto 4, 3) := by decide +kernel
theorem dX12_parted_25 : decode cX12_parted 25 = .ok (.iconst 1, 1) := by decide +kernel
theorem dX12_parted_26 : decode cX12_parted 26 = .ok (.istore 7, 2) := by decide +kernel
theorem dX12_parted_28 : decode cX12_parted 28 = .ok (.aload_n 0, 1) := by decide +kernel
theorem dX12_parted_29 : decode cX12_parted 29 = .ok (.getfield 95, 3) := by decide +kernel
theorem dX12_parted_32 : decode cX12_parted 32 = .ok (.iconst 0, 1) := by decide +kernel
theorem dX12_parted_33 : decode cX12_parted 33 = .ok (.iload_n 1, 1) := by decide +kernel
theorem dX12_parted_34 : decode cX12_parted 34 = .ok (.iastore, 1) := by decide +kernel
theorem dX12_parted_35 : decode cX12_parted 35 = .ok (.aload_n 0, 1) := by decide +kernel
theorem dX12_parted_36 : decode cX12_parted 36 = .ok (.getfield 95, 3) := by decide +kernel
theorem dX12_parted_39 : decode cX12_parted 39 = .ok (.iconst 1, 1) := by decide +kernel
theorem dX12_parted_40 : decode cX12_parted 40 = .ok (.iload_n 2, 1) := by decide +kernel
theorem dX12_parted_41 : decode cX12_parted 41 = .ok (.iastore, 1) := by decide +kernel
theorem dX12_parted_42 : decode cX12_parted 42 = .ok (.aload_n 0, 1) := by decide +kernel
theorem dX12_parted_43 : decode cX12_parted 43 = .ok (.getfield 95, 3) := by decide +kernel
theorem dX12_parted_46 : decode cX12_parted 46 = .ok (.iconst 2, 1) := by decide +kernel
theorem dX12_parted_47 : decode cX12_parted 47 = .ok (.iload_n 3, 1) := by decide +kernel
theorem dX12_parted_48 : decode cX12_parted 48 = .ok (.iastore, 1) := by decide +kernel
theorem dX12_parted_49 : decode cX12_parted 49 = .ok (.iload 6, 2) := by decide +kernel
theorem dX12_parted_51 : decode cX12_parted 51 = .ok (.ifCond .lt 49, 3) := by decide +kernel
theorem dX12_parted_54 : decode cX12_parted 54 = .ok (.iload 5, 2) := by decide +kernel
theorem dX12_parted_56 : decode cX12_parted 56 = .ok (.invokestatic 288, 3) := by decide +kernel
theorem dX12_parted_59 : decode cX12_parted 59 = .ok (.ifCond .eq 41, 3) := by decide +kernel
theorem dX12_parted_62 : decode cX12_parted 62 = .ok (.iload 4, 2) := by decide +kernel
theorem dX12_parted_64 : decode cX12_parted 64 = .ok (.i2l, 1) := by decide +kernel
theorem dX12_parted_65 : decode cX12_parted 65 = .ok (.lconst 0, 1) := by decide +kernel
theorem dX12_parted_66 : decode cX12_parted 66 = .ok (.iload 7, 2) := by decide +kernel
theorem dX12_parted_68 : decode cX12_parted 68 = .ok (.iconst 1, 1) := by decide +kernel
theorem dX12_parted_69 : decode cX12_parted 69 = .ok (.isub, 1) := by decide +kernel
theorem dX12_parted_70 : decode cX12_parted 70 = .ok (.i2l, 1) := by decide +kernel
theorem dX12_parted_71 : decode cX12_parted 71 = .ok (.invokestatic 161, 3) := by decide +kernel
theorem dX12_parted_74 : decode cX12_parted 74 = .ok (.ifCond .eq 26, 3) := by decide +kernel
theorem dX12_parted_77 : decode cX12_parted 77 = .ok (.aload_n 0, 1) := by decide +kernel
theorem dX12_parted_78 : decode cX12_parted 78 = .ok (.iload 6, 2) := by decide +kernel
theorem dX12_parted_80 : decode cX12_parted 80 = .ok (.iload 7, 2) := by decide +kernel
theorem dX12_parted_82 : decode cX12_parted 82 = .ok (.invokevirtual 437, 3) := by decide +kernel
theorem dX12_parted_85 : decode cX12_parted 85 = .ok (.ifCond .eq 15, 3) := by decide +kernel
theorem dX12_parted_88 : decode cX12_parted 88 = .ok (.aload_n 0, 1) := by decide +kernel
theorem dX12_parted_89 : decode cX12_parted 89 = .ok (.getfield 83, 3) := by decide +kernel
theorem dX12_parted_92 : decode cX12_parted 92 = .ok (.iload 6, 2) := by decide +kernel
theorem dX12_parted_94 : decode cX12_parted 94 = .ok (.laload, 1) := by decide +kernel
theorem dX12_parted_95 : decode cX12_parted 95 = .ok (.lconst 0, 1) := by decide +kernel
theorem dX12_parted_96 : decode cX12_parted 96 = .ok (.lcmp, 1) := by decide +kernel
theorem dX12_parted_97 : decode cX12_parted 97 = .ok (.ifCond .ge 7, 3) := by decide +kernel
theorem dX12_parted_100 : decode cX12_parted 100 = .ok (.ldc2_w 137, 3) := by decide +kernel
theorem dX12_parted_103 : decode cX12_parted 103 = .ok (.lreturn, 1) := by decide +kernel
theorem dX12_parted_104 : decode cX12_parted 104 = .ok (.aload_n 0, 1) := by decide +kernel
theorem dX12_parted_105 : decode cX12_parted 105 = .ok (.getfield 83, 3) := by decide +kernel
theorem dX12_parted_108 : decode cX12_parted 108 = .ok (.iload 6, 2) := by decide +kernel
theorem dX12_parted_110 : decode cX12_parted 110 = .ok (.laload, 1) := by decide +kernel
theorem dX12_parted_111 : decode cX12_parted 111 = .ok (.lstore 8, 2) := by decide +kernel
theorem dX12_parted_113 : decode cX12_parted 113 = .ok (.aload_n 0, 1) := by decide +kernel
theorem dX12_parted_114 : decode cX12_parted 114 = .ok (.getfield 86, 3) := by decide +kernel
theorem dX12_parted_117 : decode cX12_parted 117 = .ok (.iload 6, 2) := by decide +kernel
theorem dX12_parted_119 : decode cX12_parted 119 = .ok (.laload, 1) := by decide +kernel
theorem dX12_parted_120 : decode cX12_parted 120 = .ok (.lstore 10, 2) := by decide +kernel
theorem dX12_parted_122 : decode cX12_parted 122 = .ok (.aload_n 0, 1) := by decide +kernel
theorem dX12_parted_123 : decode cX12_parted 123 = .ok (.iconst 0, 1) := by decide +kernel
theorem dX12_parted_124 : decode cX12_parted 124 = .ok (.putfield 133, 3) := by decide +kernel
theorem dX12_parted_127 : decode cX12_parted 127 = .ok (.iconst 0, 1) := by decide +kernel
theorem dX12_parted_128 : decode cX12_parted 128 = .ok (.istore 12, 2) := by decide +kernel
theorem dX12_parted_130 : decode cX12_parted 130 = .ok (.iload 12, 2) := by decide +kernel
theorem dX12_parted_132 : decode cX12_parted 132 = .ok (.iload 4, 2) := by decide +kernel
theorem dX12_parted_134 : decode cX12_parted 134 = .ok (.if_icmp .gt 172, 3) := by decide +kernel
theorem dX12_parted_137 : decode cX12_parted 137 = .ok (.aload_n 0, 1) := by decide +kernel
theorem dX12_parted_138 : decode cX12_parted 138 = .ok (.getfield 95, 3) := by decide +kernel
theorem dX12_parted_141 : decode cX12_parted 141 = .ok (.iload 12, 2) := by decide +kernel
theorem dX12_parted_143 : decode cX12_parted 143 = .ok (.iaload, 1) := by decide +kernel
theorem dX12_parted_144 : decode cX12_parted 144 = .ok (.istore 13, 2) := by decide +kernel
theorem dX12_parted_146 : decode cX12_parted 146 = .ok (.aload_n 0, 1) := by decide +kernel
theorem dX12_parted_147 : decode cX12_parted 147 = .ok (.lload 8, 2) := by decide +kernel
theorem dX12_parted_149 : decode cX12_parted 149 = .ok (.lload 10, 2) := by decide +kernel
theorem dX12_parted_151 : decode cX12_parted 151 = .ok (.aload_n 0, 1) := by decide +kernel
theorem dX12_parted_152 : decode cX12_parted 152 = .ok (.getfield 22, 3) := by decide +kernel
theorem dX12_parted_155 : decode cX12_parted 155 = .ok (.iload 13, 2) := by decide +kernel
theorem dX12_parted_157 : decode cX12_parted 157 = .ok (.laload, 1) := by decide +kernel
theorem dX12_parted_158 : decode cX12_parted 158 = .ok (.aload_n 0, 1) := by decide +kernel
theorem dX12_parted_159 : decode cX12_parted 159 = .ok (.getfield 26, 3) := by decide +kernel
theorem dX12_parted_162 : decode cX12_parted 162 = .ok (.iload 13, 2) := by decide +kernel
theorem dX12_parted_164 : decode cX12_parted 164 = .ok (.laload, 1) := by decide +kernel
theorem dX12_parted_165 : decode cX12_parted 165 = .ok (.invokevirtual 253, 3) := by decide +kernel
theorem dX12_parted_168 : decode cX12_parted 168 = .ok (.aload_n 0, 1) := by decide +kernel
theorem dX12_parted_169 : decode cX12_parted 169 = .ok (.getfield 133, 3) := by decide +kernel
theorem dX12_parted_172 : decode cX12_parted 172 = .ok (.ifCond .eq 7, 3) := by decide +kernel
theorem dX12_parted_175 : decode cX12_parted 175 = .ok (.ldc2_w 137, 3) := by decide +kernel
theorem dX12_parted_178 : decode cX12_parted 178 = .ok (.lreturn, 1) := by decide +kernel
theorem dX12_parted_179 : decode cX12_parted 179 = .ok (.iload 12, 2) := by decide +kernel
theorem dX12_parted_181 : decode cX12_parted 181 = .ok (.iload 7, 2) := by decide +kernel
theorem dX12_parted_183 : decode cX12_parted 183 = .ok (.iconst 1, 1) := by decide +kernel
theorem dX12_parted_184 : decode cX12_parted 184 = .ok (.isub, 1) := by decide +kernel
theorem dX12_parted_185 : decode cX12_parted 185 = .ok (.if_icmp .ne 17, 3) := by decide +kernel
theorem dX12_parted_188 : decode cX12_parted 188 = .ok (.aload_n 0, 1) := by decide +kernel
theorem dX12_parted_189 : decode cX12_parted 189 = .ok (.getfield 143, 3) := by decide +kernel
theorem dX12_parted_192 : decode cX12_parted 192 = .ok (.aload_n 0, 1) := by decide +kernel
theorem dX12_parted_193 : decode cX12_parted 193 = .ok (.getfield 147, 3) := by decide +kernel
theorem dX12_parted_196 : decode cX12_parted 196 = .ok (.iload 5, 2) := by decide +kernel
theorem dX12_parted_198 : decode cX12_parted 198 = .ok (.invokestatic 291, 3) := by decide +kernel
theorem dX12_parted_201 : decode cX12_parted 201 = .ok (.lreturn, 1) := by decide +kernel
theorem dX12_parted_202 : decode cX12_parted 202 = .ok (.aload_n 0, 1) := by decide +kernel
theorem dX12_parted_203 : decode cX12_parted 203 = .ok (.getfield 143, 3) := by decide +kernel
theorem dX12_parted_206 : decode cX12_parted 206 = .ok (.aload_n 0, 1) := by decide +kernel
theorem dX12_parted_207 : decode cX12_parted 207 = .ok (.getfield 147, 3) := by decide +kernel
theorem dX12_parted_210 : decode cX12_parted 210 = .ok (.ldiv, 1) := by decide +kernel
theorem dX12_parted_211 : decode cX12_parted 211 = .ok (.lstore 14, 2) := by decide +kernel
theorem dX12_parted_213 : decode cX12_parted 213 = .ok (.iload 12, 2) := by decide +kernel
theorem dX12_parted_215 : decode cX12_parted 215 = .ok (.iload 4, 2) := by decide +kernel
theorem dX12_parted_217 : decode cX12_parted 217 = .ok (.if_icmp .ne 15, 3) := by decide +kernel
theorem dX12_parted_220 : decode cX12_parted 220 = .ok (.iload 5, 2) := by decide +kernel
theorem dX12_parted_222 : decode cX12_parted 222 = .ok (.ifCond .ne 8, 3) := by decide +kernel
theorem dX12_parted_225 : decode cX12_parted 225 = .ok (.lload 14, 2) := by decide +kernel
theorem dX12_parted_227 : decode cX12_parted 227 = .ok (.goto 4, 3) := by decide +kernel
theorem dX12_parted_230 : decode cX12_parted 230 = .ok (.lconst 1, 1) := by decide +kernel
theorem dX12_parted_231 : decode cX12_parted 231 = .ok (.lreturn, 1) := by decide +kernel
theorem dX12_parted_232 : decode cX12_parted 232 = .ok (.aload_n 0, 1) := by decide +kernel
theorem dX12_parted_233 : decode cX12_parted 233 = .ok (.lload 14, 2) := by decide +kernel
theorem dX12_parted_235 : decode cX12_parted 235 = .ok (.lconst 1, 1) := by decide +kernel
theorem dX12_parted_236 : decode cX12_parted 236 = .ok (.aload_n 0, 1) := by decide +kernel
theorem dX12_parted_237 : decode cX12_parted 237 = .ok (.getfield 22, 3) := by decide +kernel
theorem dX12_parted_240 : decode cX12_parted 240 = .ok (.iload 13, 2) := by decide +kernel
theorem dX12_parted_242 : decode cX12_parted 242 = .ok (.laload, 1) := by decide +kernel
theorem dX12_parted_243 : decode cX12_parted 243 = .ok (.aload_n 0, 1) := by decide +kernel
theorem dX12_parted_244 : decode cX12_parted 244 = .ok (.getfield 26, 3) := by decide +kernel
theorem dX12_parted_247 : decode cX12_parted 247 = .ok (.iload 13, 2) := by decide +kernel
theorem dX12_parted_249 : decode cX12_parted 249 = .ok (.laload, 1) := by decide +kernel
theorem dX12_parted_250 : decode cX12_parted 250 = .ok (.invokevirtual 153, 3) := by decide +kernel
theorem dX12_parted_253 : decode cX12_parted 253 = .ok (.aload_n 0, 1) := by decide +kernel
theorem dX12_parted_254 : decode cX12_parted 254 = .ok (.getfield 133, 3) := by decide +kernel
theorem dX12_parted_257 : decode cX12_parted 257 = .ok (.ifCond .ne 20, 3) := by decide +kernel
theorem dX12_parted_260 : decode cX12_parted 260 = .ok (.aload_n 0, 1) := by decide +kernel
theorem dX12_parted_261 : decode cX12_parted 261 = .ok (.lload 8, 2) := by decide +kernel
theorem dX12_parted_263 : decode cX12_parted 263 = .ok (.lload 10, 2) := by decide +kernel
theorem dX12_parted_265 : decode cX12_parted 265 = .ok (.aload_n 0, 1) := by decide +kernel
theorem dX12_parted_266 : decode cX12_parted 266 = .ok (.getfield 143, 3) := by decide +kernel
theorem dX12_parted_269 : decode cX12_parted 269 = .ok (.aload_n 0, 1) := by decide +kernel
theorem dX12_parted_270 : decode cX12_parted 270 = .ok (.getfield 147, 3) := by decide +kernel
theorem dX12_parted_273 : decode cX12_parted 273 = .ok (.iconst (-1), 1) := by decide +kernel
theorem dX12_parted_274 : decode cX12_parted 274 = .ok (.invokevirtual 329, 3) := by decide +kernel
theorem dX12_parted_277 : decode cX12_parted 277 = .ok (.aload_n 0, 1) := by decide +kernel
theorem dX12_parted_278 : decode cX12_parted 278 = .ok (.getfield 133, 3) := by decide +kernel
theorem dX12_parted_281 : decode cX12_parted 281 = .ok (.ifCond .eq 7, 3) := by decide +kernel
theorem dX12_parted_284 : decode cX12_parted 284 = .ok (.ldc2_w 137, 3) := by decide +kernel
theorem dX12_parted_287 : decode cX12_parted 287 = .ok (.lreturn, 1) := by decide +kernel
theorem dX12_parted_288 : decode cX12_parted 288 = .ok (.aload_n 0, 1) := by decide +kernel
theorem dX12_parted_289 : decode cX12_parted 289 = .ok (.getfield 143, 3) := by decide +kernel
theorem dX12_parted_292 : decode cX12_parted 292 = .ok (.lstore 8, 2) := by decide +kernel
theorem dX12_parted_294 : decode cX12_parted 294 = .ok (.aload_n 0, 1) := by decide +kernel
theorem dX12_parted_295 : decode cX12_parted 295 = .ok (.getfield 147, 3) := by decide +kernel
theorem dX12_parted_298 : decode cX12_parted 298 = .ok (.lstore 10, 2) := by decide +kernel
theorem dX12_parted_300 : decode cX12_parted 300 = .ok (.iinc 12 1, 3) := by decide +kernel
theorem dX12_parted_303 : decode cX12_parted 303 = .ok (.goto (-173), 3) := by decide +kernel
theorem dX12_parted_306 : decode cX12_parted 306 = .ok (.ldc2_w 137, 3) := by decide +kernel
theorem dX12_parted_309 : decode cX12_parted 309 = .ok (.lreturn, 1) := by decide +kernel
theorem dX12_claim_0 : decode cX12_claim 0 = .ok (.aload_n 0, 1) := by decide +kernel
theorem dX12_claim_1 : decode cX12_claim 1 = .ok (.iload_n 1, 1) := by decide +kernel
theorem dX12_claim_2 : decode cX12_claim 2 = .ok (.invokevirtual 283, 3) := by decide +kernel
theorem dX12_claim_5 : decode cX12_claim 5 = .ok (.ifCond .eq 16, 3) := by decide +kernel
theorem dX12_claim_8 : decode cX12_claim 8 = .ok (.aload_n 0, 1) := by decide +kernel
theorem dX12_claim_9 : decode cX12_claim 9 = .ok (.iload_n 2, 1) := by decide +kernel
theorem dX12_claim_10 : decode cX12_claim 10 = .ok (.invokevirtual 283, 3) := by decide +kernel
theorem dX12_claim_13 : decode cX12_claim 13 = .ok (.ifCond .eq 8, 3) := by decide +kernel
theorem dX12_claim_16 : decode cX12_claim 16 = .ok (.iload_n 1, 1) := by decide +kernel
theorem dX12_claim_17 : decode cX12_claim 17 = .ok (.iload_n 2, 1) := by decide +kernel
theorem dX12_claim_18 : decode cX12_claim 18 = .ok (.if_icmp .ne 5, 3) := by decide +kernel
theorem dX12_claim_21 : decode cX12_claim 21 = .ok (.iconst (-1), 1) := by decide +kernel
theorem dX12_claim_22 : decode cX12_claim 22 = .ok (.ireturn, 1) := by decide +kernel
theorem dX12_claim_23 : decode cX12_claim 23 = .ok (.iload_n 3, 1) := by decide +kernel
theorem dX12_claim_24 : decode cX12_claim 24 = .ok (.i2l, 1) := by decide +kernel
theorem dX12_claim_25 : decode cX12_claim 25 = .ok (.lconst 1, 1) := by decide +kernel
theorem dX12_claim_26 : decode cX12_claim 26 = .ok (.ldc2_w 307, 3) := by decide +kernel
theorem dX12_claim_29 : decode cX12_claim 29 = .ok (.invokestatic 161, 3) := by decide +kernel
theorem dX12_claim_32 : decode cX12_claim 32 = .ok (.ifCond .eq 16, 3) := by decide +kernel
theorem dX12_claim_35 : decode cX12_claim 35 = .ok (.iload 4, 2) := by decide +kernel
theorem dX12_claim_37 : decode cX12_claim 37 = .ok (.i2l, 1) := by decide +kernel
theorem dX12_claim_38 : decode cX12_claim 38 = .ok (.lconst 1, 1) := by decide +kernel
theorem dX12_claim_39 : decode cX12_claim 39 = .ok (.ldc2_w 307, 3) := by decide +kernel
theorem dX12_claim_42 : decode cX12_claim 42 = .ok (.invokestatic 161, 3) := by decide +kernel
theorem dX12_claim_45 : decode cX12_claim 45 = .ok (.ifCond .ne 6, 3) := by decide +kernel
theorem dX12_claim_48 : decode cX12_claim 48 = .ok (.bipush (-2), 2) := by decide +kernel
theorem dX12_claim_50 : decode cX12_claim 50 = .ok (.ireturn, 1) := by decide +kernel
theorem dX12_claim_51 : decode cX12_claim 51 = .ok (.aload_n 0, 1) := by decide +kernel
theorem dX12_claim_52 : decode cX12_claim 52 = .ok (.getfield 275, 3) := by decide +kernel
theorem dX12_claim_55 : decode cX12_claim 55 = .ok (.bipush 16, 2) := by decide +kernel
theorem dX12_claim_57 : decode cX12_claim 57 = .ok (.if_icmp .ne 6, 3) := by decide +kernel
theorem dX12_claim_60 : decode cX12_claim 60 = .ok (.bipush (-4), 2) := by decide +kernel
theorem dX12_claim_62 : decode cX12_claim 62 = .ok (.ireturn, 1) := by decide +kernel
theorem dX12_claim_63 : decode cX12_claim 63 = .ok (.aload_n 0, 1) := by decide +kernel
theorem dX12_claim_64 : decode cX12_claim 64 = .ok (.getfield 35, 3) := by decide +kernel
theorem dX12_claim_67 : decode cX12_claim 67 = .ok (.iconst 4, 1) := by decide +kernel
theorem dX12_claim_68 : decode cX12_claim 68 = .ok (.aload_n 0, 1) := by decide +kernel
theorem dX12_claim_69 : decode cX12_claim 69 = .ok (.getfield 275, 3) := by decide +kernel
theorem dX12_claim_72 : decode cX12_claim 72 = .ok (.imul, 1) := by decide +kernel
theorem dX12_claim_73 : decode cX12_claim 73 = .ok (.iload_n 1, 1) := by decide +kernel
theorem dX12_claim_74 : decode cX12_claim 74 = .ok (.iastore, 1) := by decide +kernel
theorem dX12_claim_75 : decode cX12_claim 75 = .ok (.aload_n 0, 1) := by decide +kernel
theorem dX12_claim_76 : decode cX12_claim 76 = .ok (.getfield 35, 3) := by decide +kernel
theorem dX12_claim_79 : decode cX12_claim 79 = .ok (.iconst 4, 1) := by decide +kernel
theorem dX12_claim_80 : decode cX12_claim 80 = .ok (.aload_n 0, 1) := by decide +kernel
theorem dX12_claim_81 : decode cX12_claim 81 = .ok (.getfield 275, 3) := by decide +kernel
theorem dX12_claim_84 : decode cX12_claim 84 = .ok (.imul, 1) := by decide +kernel
theorem dX12_claim_85 : decode cX12_claim 85 = .ok (.iconst 1, 1) := by decide +kernel
theorem dX12_claim_86 : decode cX12_claim 86 = .ok (.iadd, 1) := by decide +kernel
theorem dX12_claim_87 : decode cX12_claim 87 = .ok (.iload_n 2, 1) := by decide +kernel
theorem dX12_claim_88 : decode cX12_claim 88 = .ok (.iastore, 1) := by decide +kernel
theorem dX12_claim_89 : decode cX12_claim 89 = .ok (.aload_n 0, 1) := by decide +kernel
theorem dX12_claim_90 : decode cX12_claim 90 = .ok (.getfield 35, 3) := by decide +kernel
theorem dX12_claim_93 : decode cX12_claim 93 = .ok (.iconst 4, 1) := by decide +kernel
theorem dX12_claim_94 : decode cX12_claim 94 = .ok (.aload_n 0, 1) := by decide +kernel
theorem dX12_claim_95 : decode cX12_claim 95 = .ok (.getfield 275, 3) := by decide +kernel
theorem dX12_claim_98 : decode cX12_claim 98 = .ok (.imul, 1) := by decide +kernel
theorem dX12_claim_99 : decode cX12_claim 99 = .ok (.iconst 2, 1) := by decide +kernel
theorem dX12_claim_100 : decode cX12_claim 100 = .ok (.iadd, 1) := by decide +kernel
theorem dX12_claim_101 : decode cX12_claim 101 = .ok (.iload_n 3, 1) := by decide +kernel
theorem dX12_claim_102 : decode cX12_claim 102 = .ok (.iastore, 1) := by decide +kernel
theorem dX12_claim_103 : decode cX12_claim 103 = .ok (.aload_n 0, 1) := by decide +kernel
theorem dX12_claim_104 : decode cX12_claim 104 = .ok (.getfield 35, 3) := by decide +kernel
theorem dX12_claim_107 : decode cX12_claim 107 = .ok (.iconst 4, 1) := by decide +kernel
theorem dX12_claim_108 : decode cX12_claim 108 = .ok (.aload_n 0, 1) := by decide +kernel
theorem dX12_claim_109 : decode cX12_claim 109 = .ok (.getfield 275, 3) := by decide +kernel
theorem dX12_claim_112 : decode cX12_claim 112 = .ok (.imul, 1) := by decide +kernel
theorem dX12_claim_113 : decode cX12_claim 113 = .ok (.iconst 3, 1) := by decide +kernel
theorem dX12_claim_114 : decode cX12_claim 114 = .ok (.iadd, 1) := by decide +kernel
theorem dX12_claim_115 : decode cX12_claim 115 = .ok (.iload 4, 2) := by decide +kernel
theorem dX12_claim_117 : decode cX12_claim 117 = .ok (.iastore, 1) := by decide +kernel
theorem dX12_claim_118 : decode cX12_claim 118 = .ok (.aload_n 0, 1) := by decide +kernel
theorem dX12_claim_119 : decode cX12_claim 119 = .ok (.dup, 1) := by decide +kernel
theorem dX12_claim_120 : decode cX12_claim 120 = .ok (.getfield 275, 3) := by decide +kernel
theorem dX12_claim_123 : decode cX12_claim 123 = .ok (.iconst 1, 1) := by decide +kernel
theorem dX12_claim_124 : decode cX12_claim 124 = .ok (.iadd, 1) := by decide +kernel
theorem dX12_claim_125 : decode cX12_claim 125 = .ok (.putfield 275, 3) := by decide +kernel
theorem dX12_claim_128 : decode cX12_claim 128 = .ok (.aload_n 0, 1) := by decide +kernel
theorem dX12_claim_129 : decode cX12_claim 129 = .ok (.getfield 275, 3) := by decide +kernel
theorem dX12_claim_132 : decode cX12_claim 132 = .ok (.ireturn, 1) := by decide +kernel
theorem dX12_unclaim_0 : decode cX12_unclaim 0 = .ok (.iload_n 1, 1) := by decide +kernel
theorem dX12_unclaim_1 : decode cX12_unclaim 1 = .ok (.i2l, 1) := by decide +kernel
theorem dX12_unclaim_2 : decode cX12_unclaim 2 = .ok (.lconst 0, 1) := by decide +kernel
theorem dX12_unclaim_3 : decode cX12_unclaim 3 = .ok (.aload_n 0, 1) := by decide +kernel
theorem dX12_unclaim_4 : decode cX12_unclaim 4 = .ok (.getfield 275, 3) := by decide +kernel
theorem dX12_unclaim_7 : decode cX12_unclaim 7 = .ok (.iconst 1, 1) := by decide +kernel
theorem dX12_unclaim_8 : decode cX12_unclaim 8 = .ok (.isub, 1) := by decide +kernel
theorem dX12_unclaim_9 : decode cX12_unclaim 9 = .ok (.i2l, 1) := by decide +kernel
theorem dX12_unclaim_10 : decode cX12_unclaim 10 = .ok (.invokestatic 161, 3) := by decide +kernel
theorem dX12_unclaim_13 : decode cX12_unclaim 13 = .ok (.ifCond .ne 5, 3) := by decide +kernel
theorem dX12_unclaim_16 : decode cX12_unclaim 16 = .ok (.iconst (-1), 1) := by decide +kernel
theorem dX12_unclaim_17 : decode cX12_unclaim 17 = .ok (.ireturn, 1) := by decide +kernel
theorem dX12_unclaim_18 : decode cX12_unclaim 18 = .ok (.aload_n 0, 1) := by decide +kernel
theorem dX12_unclaim_19 : decode cX12_unclaim 19 = .ok (.dup, 1) := by decide +kernel
theorem dX12_unclaim_20 : decode cX12_unclaim 20 = .ok (.getfield 275, 3) := by decide +kernel
theorem dX12_unclaim_23 : decode cX12_unclaim 23 = .ok (.iconst 1, 1) := by decide +kernel
theorem dX12_unclaim_24 : decode cX12_unclaim 24 = .ok (.isub, 1) := by decide +kernel
theorem dX12_unclaim_25 : decode cX12_unclaim 25 = .ok (.putfield 275, 3) := by decide +kernel
theorem dX12_unclaim_28 : decode cX12_unclaim 28 = .ok (.iconst 4, 1) := by decide +kernel
theorem dX12_unclaim_29 : decode cX12_unclaim 29 = .ok (.iload_n 1, 1) := by decide +kernel
theorem dX12_unclaim_30 : decode cX12_unclaim 30 = .ok (.imul, 1) := by decide +kernel
theorem dX12_unclaim_31 : decode cX12_unclaim 31 = .ok (.istore_n 2, 1) := by decide +kernel
theorem dX12_unclaim_32 : decode cX12_unclaim 32 = .ok (.iload_n 2, 1) := by decide +kernel
theorem dX12_unclaim_33 : decode cX12_unclaim 33 = .ok (.iconst 4, 1) := by decide +kernel
theorem dX12_unclaim_34 : decode cX12_unclaim 34 = .ok (.aload_n 0, 1) := by decide +kernel
theorem dX12_unclaim_35 : decode cX12_unclaim 35 = .ok (.getfield 275, 3) := by decide +kernel
theorem dX12_unclaim_38 : decode cX12_unclaim 38 = .ok (.imul, 1) := by decide +kernel
theorem dX12_unclaim_39 : decode cX12_unclaim 39 = .ok (.if_icmp .ge 23, 3) := by decide +kernel
theorem dX12_unclaim_42 : decode cX12_unclaim 42 = .ok (.aload_n 0, 1) := by decide +kernel
theorem dX12_unclaim_43 : decode cX12_unclaim 43 = .ok (.getfield 35, 3) := by decide +kernel
theorem dX12_unclaim_46 : decode cX12_unclaim 46 = .ok (.iload_n 2, 1) := by decide +kernel
theorem dX12_unclaim_47 : decode cX12_unclaim 47 = .ok (.aload_n 0, 1) := by decide +kernel
theorem dX12_unclaim_48 : decode cX12_unclaim 48 = .ok (.getfield 35, 3) := by decide +kernel
theorem dX12_unclaim_51 : decode cX12_unclaim 51 = .ok (.iload_n 2, 1) := by decide +kernel
theorem dX12_unclaim_52 : decode cX12_unclaim 52 = .ok (.iconst 4, 1) := by decide +kernel
theorem dX12_unclaim_53 : decode cX12_unclaim 53 = .ok (.iadd, 1) := by decide +kernel
theorem dX12_unclaim_54 : decode cX12_unclaim 54 = .ok (.iaload, 1) := by decide +kernel
theorem dX12_unclaim_55 : decode cX12_unclaim 55 = .ok (.iastore, 1) := by decide +kernel
theorem dX12_unclaim_56 : decode cX12_unclaim 56 = .ok (.iinc 2 1, 3) := by decide +kernel
theorem dX12_unclaim_59 : decode cX12_unclaim 59 = .ok (.goto (-27), 3) := by decide +kernel
theorem dX12_unclaim_62 : decode cX12_unclaim 62 = .ok (.aload_n 0, 1) := by decide +kernel
theorem dX12_unclaim_63 : decode cX12_unclaim 63 = .ok (.getfield 275, 3) := by decide +kernel
theorem dX12_unclaim_66 : decode cX12_unclaim 66 = .ok (.ireturn, 1) := by decide +kernel
theorem dX12_areBound_0 : decode cX12_areBound 0 = .ok (.iconst 0, 1) := by decide +kernel
theorem dX12_areBound_1 : decode cX12_areBound 1 = .ok (.istore 4, 2) := by decide +kernel
theorem dX12_areBound_3 : decode cX12_areBound 3 = .ok (.iload 4, 2) := by decide +kernel
theorem dX12_areBound_5 : decode cX12_areBound 5 = .ok (.bipush 20, 2) := by decide +kernel
theorem dX12_areBound_7 : decode cX12_areBound 7 = .ok (.if_icmp .ge 17, 3) := by decide +kernel
theorem dX12_areBound_10 : decode cX12_areBound 10 = .ok (.aload_n 0, 1) := by decide +kernel
theorem dX12_areBound_11 : decode cX12_areBound 11 = .ok (.getfield 101, 3) := by decide +kernel
theorem dX12_areBound_14 : decode cX12_areBound 14 = .ok (.iload 4, 2) := by decide +kernel
theorem dX12_areBound_16 : decode cX12_areBound 16 = .ok (.iconst (-1), 1) := by decide +kernel
theorem dX12_areBound_17 : decode cX12_areBound 17 = .ok (.iastore, 1) := by decide +kernel
theorem dX12_areBound_18 : decode cX12_areBound 18 = .ok (.iinc 4 1, 3) := by decide +kernel
theorem dX12_areBound_21 : decode cX12_areBound 21 = .ok (.goto (-18), 3) := by decide +kernel
theorem dX12_areBound_24 : decode cX12_areBound 24 = .ok (.aload_n 0, 1) := by decide +kernel
theorem dX12_areBound_25 : decode cX12_areBound 25 = .ok (.getfield 101, 3) := by decide +kernel
theorem dX12_areBound_28 : decode cX12_areBound 28 = .ok (.iload_n 2, 1) := by decide +kernel
theorem dX12_areBound_29 : decode cX12_areBound 29 = .ok (.bipush 16, 2) := by decide +kernel
theorem dX12_areBound_31 : decode cX12_areBound 31 = .ok (.iastore, 1) := by decide +kernel
theorem dX12_areBound_32 : decode cX12_areBound 32 = .ok (.iconst 1, 1) := by decide +kernel
theorem dX12_areBound_33 : decode cX12_areBound 33 = .ok (.istore 4, 2) := by decide +kernel
theorem dX12_areBound_35 : decode cX12_areBound 35 = .ok (.iload 4, 2) := by decide +kernel
theorem dX12_areBound_37 : decode cX12_areBound 37 = .ok (.ifCond .eq 128, 3) := by decide +kernel
theorem dX12_areBound_40 : decode cX12_areBound 40 = .ok (.iconst 0, 1) := by decide +kernel
theorem dX12_areBound_41 : decode cX12_areBound 41 = .ok (.istore 4, 2) := by decide +kernel
theorem dX12_areBound_43 : decode cX12_areBound 43 = .ok (.iconst 0, 1) := by decide +kernel
theorem dX12_areBound_44 : decode cX12_areBound 44 = .ok (.istore 5, 2) := by decide +kernel
theorem dX12_areBound_46 : decode cX12_areBound 46 = .ok (.iload 5, 2) := by decide +kernel
theorem dX12_areBound_48 : decode cX12_areBound 48 = .ok (.iload_n 3, 1) := by decide +kernel
theorem dX12_areBound_49 : decode cX12_areBound 49 = .ok (.if_icmp .ge 113, 3) := by decide +kernel
theorem dX12_areBound_52 : decode cX12_areBound 52 = .ok (.aload_n 0, 1) := by decide +kernel
theorem dX12_areBound_53 : decode cX12_areBound 53 = .ok (.getfield 35, 3) := by decide +kernel
theorem dX12_areBound_56 : decode cX12_areBound 56 = .ok (.iconst 4, 1) := by decide +kernel
theorem dX12_areBound_57 : decode cX12_areBound 57 = .ok (.iload 5, 2) := by decide +kernel
theorem dX12_areBound_59 : decode cX12_areBound 59 = .ok (.imul, 1) := by decide +kernel
theorem dX12_areBound_60 : decode cX12_areBound 60 = .ok (.iaload, 1) := by decide +kernel
theorem dX12_areBound_61 : decode cX12_areBound 61 = .ok (.istore 6, 2) := by decide +kernel
theorem dX12_areBound_63 : decode cX12_areBound 63 = .ok (.aload_n 0, 1) := by decide +kernel
theorem dX12_areBound_64 : decode cX12_areBound 64 = .ok (.getfield 35, 3) := by decide +kernel
theorem dX12_areBound_67 : decode cX12_areBound 67 = .ok (.iconst 4, 1) := by decide +kernel
theorem dX12_areBound_68 : decode cX12_areBound 68 = .ok (.iload 5, 2) := by decide +kernel
theorem dX12_areBound_70 : decode cX12_areBound 70 = .ok (.imul, 1) := by decide +kernel
theorem dX12_areBound_71 : decode cX12_areBound 71 = .ok (.iconst 1, 1) := by decide +kernel
theorem dX12_areBound_72 : decode cX12_areBound 72 = .ok (.iadd, 1) := by decide +kernel
theorem dX12_areBound_73 : decode cX12_areBound 73 = .ok (.iaload, 1) := by decide +kernel
theorem dX12_areBound_74 : decode cX12_areBound 74 = .ok (.istore 7, 2) := by decide +kernel
theorem dX12_areBound_76 : decode cX12_areBound 76 = .ok (.aload_n 0, 1) := by decide +kernel
theorem dX12_areBound_77 : decode cX12_areBound 77 = .ok (.getfield 98, 3) := by decide +kernel
theorem dX12_areBound_80 : decode cX12_areBound 80 = .ok (.iload 5, 2) := by decide +kernel
theorem dX12_areBound_82 : decode cX12_areBound 82 = .ok (.iaload, 1) := by decide +kernel
theorem dX12_areBound_83 : decode cX12_areBound 83 = .ok (.ifCond .ne 73, 3) := by decide +kernel
theorem dX12_areBound_86 : decode cX12_areBound 86 = .ok (.aload_n 0, 1) := by decide +kernel
theorem dX12_areBound_87 : decode cX12_areBound 87 = .ok (.getfield 101, 3) := by decide +kernel
theorem dX12_areBound_90 : decode cX12_areBound 90 = .ok (.iload 6, 2) := by decide +kernel
theorem dX12_areBound_92 : decode cX12_areBound 92 = .ok (.iaload, 1) := by decide +kernel
theorem dX12_areBound_93 : decode cX12_areBound 93 = .ok (.ifCond .ge 7, 3) := by decide +kernel
theorem dX12_areBound_96 : decode cX12_areBound 96 = .ok (.iconst 1, 1) := by decide +kernel
theorem dX12_areBound_97 : decode cX12_areBound 97 = .ok (.goto 4, 3) := by decide +kernel
theorem dX12_areBound_100 : decode cX12_areBound 100 = .ok (.iconst 0, 1) := by decide +kernel
theorem dX12_areBound_101 : decode cX12_areBound 101 = .ok (.aload_n 0, 1) := by decide +kernel
theorem dX12_areBound_102 : decode cX12_areBound 102 = .ok (.getfield 101, 3) := by decide +kernel
theorem dX12_areBound_105 : decode cX12_areBound 105 = .ok (.iload 7, 2) := by decide +kernel
theorem dX12_areBound_107 : decode cX12_areBound 107 = .ok (.iaload, 1) := by decide +kernel
theorem dX12_areBound_108 : decode cX12_areBound 108 = .ok (.ifCond .ge 7, 3) := by decide +kernel
theorem dX12_areBound_111 : decode cX12_areBound 111 = .ok (.iconst 1, 1) := by decide +kernel
theorem dX12_areBound_112 : decode cX12_areBound 112 = .ok (.goto 4, 3) := by decide +kernel
theorem dX12_areBound_115 : decode cX12_areBound 115 = .ok (.iconst 0, 1) := by decide +kernel
theorem dX12_areBound_116 : decode cX12_areBound 116 = .ok (.if_icmp .ne 6, 3) := by decide +kernel
theorem dX12_areBound_119 : decode cX12_areBound 119 = .ok (.goto 37, 3) := by decide +kernel
theorem dX12_areBound_122 : decode cX12_areBound 122 = .ok (.aload_n 0, 1) := by decide +kernel
theorem dX12_areBound_123 : decode cX12_areBound 123 = .ok (.getfield 101, 3) := by decide +kernel
theorem dX12_areBound_126 : decode cX12_areBound 126 = .ok (.iload 6, 2) := by decide +kernel
theorem dX12_areBound_128 : decode cX12_areBound 128 = .ok (.iaload, 1) := by decide +kernel
theorem dX12_areBound_129 : decode cX12_areBound 129 = .ok (.ifCond .ge 15, 3) := by decide +kernel
theorem dX12_areBound_132 : decode cX12_areBound 132 = .ok (.aload_n 0, 1) := by decide +kernel
theorem dX12_areBound_133 : decode cX12_areBound 133 = .ok (.getfield 101, 3) := by decide +kernel
theorem dX12_areBound_136 : decode cX12_areBound 136 = .ok (.iload 6, 2) := by decide +kernel
theorem dX12_areBound_138 : decode cX12_areBound 138 = .ok (.iload 5, 2) := by decide +kernel
theorem dX12_areBound_140 : decode cX12_areBound 140 = .ok (.iastore, 1) := by decide +kernel
theorem dX12_areBound_141 : decode cX12_areBound 141 = .ok (.goto 12, 3) := by decide +kernel
theorem dX12_areBound_144 : decode cX12_areBound 144 = .ok (.aload_n 0, 1) := by decide +kernel
theorem dX12_areBound_145 : decode cX12_areBound 145 = .ok (.getfield 101, 3) := by decide +kernel
theorem dX12_areBound_148 : decode cX12_areBound 148 = .ok (.iload 7, 2) := by decide +kernel
theorem dX12_areBound_150 : decode cX12_areBound 150 = .ok (.iload 5, 2) := by decide +kernel
theorem dX12_areBound_152 : decode cX12_areBound 152 = .ok (.iastore, 1) := by decide +kernel
theorem dX12_areBound_153 : decode cX12_areBound 153 = .ok (.iconst 1, 1) := by decide +kernel
theorem dX12_areBound_154 : decode cX12_areBound 154 = .ok (.istore 4, 2) := by decide +kernel
theorem dX12_areBound_156 : decode cX12_areBound 156 = .ok (.iinc 5 1, 3) := by decide +kernel
theorem dX12_areBound_159 : decode cX12_areBound 159 = .ok (.goto (-113), 3) := by decide +kernel
theorem dX12_areBound_162 : decode cX12_areBound 162 = .ok (.goto (-127), 3) := by decide +kernel
theorem dX12_areBound_165 : decode cX12_areBound 165 = .ok (.aload_n 0, 1) := by decide +kernel
theorem dX12_areBound_166 : decode cX12_areBound 166 = .ok (.getfield 101, 3) := by decide +kernel
theorem dX12_areBound_169 : decode cX12_areBound 169 = .ok (.iload_n 1, 1) := by decide +kernel
theorem dX12_areBound_170 : decode cX12_areBound 170 = .ok (.iaload, 1) := by decide +kernel
theorem dX12_areBound_171 : decode cX12_areBound 171 = .ok (.ifCond .lt 7, 3) := by decide +kernel
theorem dX12_areBound_174 : decode cX12_areBound 174 = .ok (.iconst 1, 1) := by decide +kernel
theorem dX12_areBound_175 : decode cX12_areBound 175 = .ok (.goto 4, 3) := by decide +kernel
theorem dX12_areBound_178 : decode cX12_areBound 178 = .ok (.iconst 0, 1) := by decide +kernel
theorem dX12_areBound_179 : decode cX12_areBound 179 = .ok (.ireturn, 1) := by decide +kernel
theorem dX12_goes_0 : decode cX12_goes 0 = .ok (.aload_n 0, 1) := by decide +kernel
theorem dX12_goes_1 : decode cX12_goes 1 = .ok (.iconst 0, 1) := by decide +kernel
theorem dX12_goes_2 : decode cX12_goes 2 = .ok (.putfield 133, 3) := by decide +kernel
theorem dX12_goes_5 : decode cX12_goes 5 = .ok (.aload_n 0, 1) := by decide +kernel
theorem dX12_goes_6 : decode cX12_goes 6 = .ok (.lconst 1, 1) := by decide +kernel
theorem dX12_goes_7 : decode cX12_goes 7 = .ok (.putfield 143, 3) := by decide +kernel
theorem dX12_goes_10 : decode cX12_goes 10 = .ok (.aload_n 0, 1) := by decide +kernel
theorem dX12_goes_11 : decode cX12_goes 11 = .ok (.lconst 1, 1) := by decide +kernel
theorem dX12_goes_12 : decode cX12_goes 12 = .ok (.putfield 147, 3) := by decide +kernel
theorem dX12_goes_15 : decode cX12_goes 15 = .ok (.iload_n 1, 1) := by decide +kernel
theorem dX12_goes_16 : decode cX12_goes 16 = .ok (.istore_n 3, 1) := by decide +kernel
theorem dX12_goes_17 : decode cX12_goes 17 = .ok (.iload_n 3, 1) := by decide +kernel
theorem dX12_goes_18 : decode cX12_goes 18 = .ok (.iload_n 2, 1) := by decide +kernel
theorem dX12_goes_19 : decode cX12_goes 19 = .ok (.if_icmp .eq 144, 3) := by decide +kernel
theorem dX12_goes_22 : decode cX12_goes 22 = .ok (.aload_n 0, 1) := by decide +kernel
theorem dX12_goes_23 : decode cX12_goes 23 = .ok (.getfield 133, 3) := by decide +kernel
theorem dX12_goes_26 : decode cX12_goes 26 = .ok (.ifCond .ne 137, 3) := by decide +kernel
theorem dX12_goes_29 : decode cX12_goes 29 = .ok (.aload_n 0, 1) := by decide +kernel
theorem dX12_goes_30 : decode cX12_goes 30 = .ok (.getfield 101, 3) := by decide +kernel
theorem dX12_goes_33 : decode cX12_goes 33 = .ok (.iload_n 3, 1) := by decide +kernel
theorem dX12_goes_34 : decode cX12_goes 34 = .ok (.iaload, 1) := by decide +kernel
theorem dX12_goes_35 : decode cX12_goes 35 = .ok (.istore 4, 2) := by decide +kernel
theorem dX12_goes_37 : decode cX12_goes 37 = .ok (.aload_n 0, 1) := by decide +kernel
theorem dX12_goes_38 : decode cX12_goes 38 = .ok (.getfield 35, 3) := by decide +kernel
theorem dX12_goes_41 : decode cX12_goes 41 = .ok (.iconst 4, 1) := by decide +kernel
theorem dX12_goes_42 : decode cX12_goes 42 = .ok (.iload 4, 2) := by decide +kernel
theorem dX12_goes_44 : decode cX12_goes 44 = .ok (.imul, 1) := by decide +kernel
theorem dX12_goes_45 : decode cX12_goes 45 = .ok (.iaload, 1) := by decide +kernel
theorem dX12_goes_46 : decode cX12_goes 46 = .ok (.iload_n 3, 1) := by decide +kernel
theorem dX12_goes_47 : decode cX12_goes 47 = .ok (.if_icmp .ne 7, 3) := by decide +kernel
theorem dX12_goes_50 : decode cX12_goes 50 = .ok (.iconst 1, 1) := by decide +kernel
theorem dX12_goes_51 : decode cX12_goes 51 = .ok (.goto 4, 3) := by decide +kernel
theorem dX12_goes_54 : decode cX12_goes 54 = .ok (.iconst 0, 1) := by decide +kernel
theorem dX12_goes_55 : decode cX12_goes 55 = .ok (.istore 5, 2) := by decide +kernel
theorem dX12_goes_57 : decode cX12_goes 57 = .ok (.aload_n 0, 1) := by decide +kernel
theorem dX12_goes_58 : decode cX12_goes 58 = .ok (.getfield 143, 3) := by decide +kernel
theorem dX12_goes_61 : decode cX12_goes 61 = .ok (.lstore 6, 2) := by decide +kernel
theorem dX12_goes_63 : decode cX12_goes 63 = .ok (.aload_n 0, 1) := by decide +kernel
theorem dX12_goes_64 : decode cX12_goes 64 = .ok (.getfield 147, 3) := by decide +kernel
theorem dX12_goes_67 : decode cX12_goes 67 = .ok (.lstore 8, 2) := by decide +kernel
theorem dX12_goes_69 : decode cX12_goes 69 = .ok (.aload_n 0, 1) := by decide +kernel
theorem dX12_goes_70 : decode cX12_goes 70 = .ok (.aload_n 0, 1) := by decide +kernel
theorem dX12_goes_71 : decode cX12_goes 71 = .ok (.getfield 35, 3) := by decide +kernel
theorem dX12_goes_74 : decode cX12_goes 74 = .ok (.iconst 4, 1) := by decide +kernel
theorem dX12_goes_75 : decode cX12_goes 75 = .ok (.iload 4, 2) := by decide +kernel
theorem dX12_goes_77 : decode cX12_goes 77 = .ok (.imul, 1) := by decide +kernel
theorem dX12_goes_78 : decode cX12_goes 78 = .ok (.iload 5, 2) := by decide +kernel
theorem dX12_goes_80 : decode cX12_goes 80 = .ok (.ifCond .eq 7, 3) := by decide +kernel
theorem dX12_goes_83 : decode cX12_goes 83 = .ok (.iconst 2, 1) := by decide +kernel
theorem dX12_goes_84 : decode cX12_goes 84 = .ok (.goto 4, 3) := by decide +kernel
theorem dX12_goes_87 : decode cX12_goes 87 = .ok (.iconst 3, 1) := by decide +kernel
theorem dX12_goes_88 : decode cX12_goes 88 = .ok (.iadd, 1) := by decide +kernel
theorem dX12_goes_89 : decode cX12_goes 89 = .ok (.iaload, 1) := by decide +kernel
theorem dX12_goes_90 : decode cX12_goes 90 = .ok (.i2l, 1) := by decide +kernel
theorem dX12_goes_91 : decode cX12_goes 91 = .ok (.aload_n 0, 1) := by decide +kernel
theorem dX12_goes_92 : decode cX12_goes 92 = .ok (.getfield 35, 3) := by decide +kernel
theorem dX12_goes_95 : decode cX12_goes 95 = .ok (.iconst 4, 1) := by decide +kernel
theorem dX12_goes_96 : decode cX12_goes 96 = .ok (.iload 4, 2) := by decide +kernel
theorem dX12_goes_98 : decode cX12_goes 98 = .ok (.imul, 1) := by decide +kernel
theorem dX12_goes_99 : decode cX12_goes 99 = .ok (.iload 5, 2) := by decide +kernel
theorem dX12_goes_101 : decode cX12_goes 101 = .ok (.ifCond .eq 7, 3) := by decide +kernel
theorem dX12_goes_104 : decode cX12_goes 104 = .ok (.iconst 3, 1) := by decide +kernel
theorem dX12_goes_105 : decode cX12_goes 105 = .ok (.goto 4, 3) := by decide +kernel
theorem dX12_goes_108 : decode cX12_goes 108 = .ok (.iconst 2, 1) := by decide +kernel
theorem dX12_goes_109 : decode cX12_goes 109 = .ok (.iadd, 1) := by decide +kernel
theorem dX12_goes_110 : decode cX12_goes 110 = .ok (.iaload, 1) := by decide +kernel
theorem dX12_goes_111 : decode cX12_goes 111 = .ok (.i2l, 1) := by decide +kernel
theorem dX12_goes_112 : decode cX12_goes 112 = .ok (.invokevirtual 157, 3) := by decide +kernel
theorem dX12_goes_115 : decode cX12_goes 115 = .ok (.aload_n 0, 1) := by decide +kernel
theorem dX12_goes_116 : decode cX12_goes 116 = .ok (.lload 6, 2) := by decide +kernel
theorem dX12_goes_118 : decode cX12_goes 118 = .ok (.lload 8, 2) := by decide +kernel
theorem dX12_goes_120 : decode cX12_goes 120 = .ok (.aload_n 0, 1) := by decide +kernel
theorem dX12_goes_121 : decode cX12_goes 121 = .ok (.getfield 143, 3) := by decide +kernel
theorem dX12_goes_124 : decode cX12_goes 124 = .ok (.aload_n 0, 1) := by decide +kernel
theorem dX12_goes_125 : decode cX12_goes 125 = .ok (.getfield 147, 3) := by decide +kernel
theorem dX12_goes_128 : decode cX12_goes 128 = .ok (.invokevirtual 153, 3) := by decide +kernel
theorem dX12_goes_131 : decode cX12_goes 131 = .ok (.iload 5, 2) := by decide +kernel
theorem dX12_goes_133 : decode cX12_goes 133 = .ok (.ifCond .eq 17, 3) := by decide +kernel
theorem dX12_goes_136 : decode cX12_goes 136 = .ok (.aload_n 0, 1) := by decide +kernel
theorem dX12_goes_137 : decode cX12_goes 137 = .ok (.getfield 35, 3) := by decide +kernel
theorem dX12_goes_140 : decode cX12_goes 140 = .ok (.iconst 4, 1) := by decide +kernel
theorem dX12_goes_141 : decode cX12_goes 141 = .ok (.iload 4, 2) := by decide +kernel
theorem dX12_goes_143 : decode cX12_goes 143 = .ok (.imul, 1) := by decide +kernel
theorem dX12_goes_144 : decode cX12_goes 144 = .ok (.iconst 1, 1) := by decide +kernel
theorem dX12_goes_145 : decode cX12_goes 145 = .ok (.iadd, 1) := by decide +kernel
theorem dX12_goes_146 : decode cX12_goes 146 = .ok (.iaload, 1) := by decide +kernel
theorem dX12_goes_147 : decode cX12_goes 147 = .ok (.goto 12, 3) := by decide +kernel
theorem dX12_goes_150 : decode cX12_goes 150 = .ok (.aload_n 0, 1) := by decide +kernel
theorem dX12_goes_151 : decode cX12_goes 151 = .ok (.getfield 35, 3) := by decide +kernel
theorem dX12_goes_154 : decode cX12_goes 154 = .ok (.iconst 4, 1) := by decide +kernel
theorem dX12_goes_155 : decode cX12_goes 155 = .ok (.iload 4, 2) := by decide +kernel
theorem dX12_goes_157 : decode cX12_goes 157 = .ok (.imul, 1) := by decide +kernel
theorem dX12_goes_158 : decode cX12_goes 158 = .ok (.iaload, 1) := by decide +kernel
theorem dX12_goes_159 : decode cX12_goes 159 = .ok (.istore_n 3, 1) := by decide +kernel
theorem dX12_goes_160 : decode cX12_goes 160 = .ok (.goto (-143), 3) := by decide +kernel
theorem dX12_goes_163 : decode cX12_goes 163 = .ok (.return_, 1) := by decide +kernel
theorem dX12_tells_0 : decode cX12_tells 0 = .ok (.iconst 0, 1) := by decide +kernel
theorem dX12_tells_1 : decode cX12_tells 1 = .ok (.istore_n 1, 1) := by decide +kernel
theorem dX12_tells_2 : decode cX12_tells 2 = .ok (.iload_n 1, 1) := by decide +kernel
theorem dX12_tells_3 : decode cX12_tells 3 = .ok (.aload_n 0, 1) := by decide +kernel
theorem dX12_tells_4 : decode cX12_tells 4 = .ok (.getfield 275, 3) := by decide +kernel
theorem dX12_tells_7 : decode cX12_tells 7 = .ok (.if_icmp .ge 136, 3) := by decide +kernel
theorem dX12_tells_10 : decode cX12_tells 10 = .ok (.aload_n 0, 1) := by decide +kernel
theorem dX12_tells_11 : decode cX12_tells 11 = .ok (.getfield 35, 3) := by decide +kernel
theorem dX12_tells_14 : decode cX12_tells 14 = .ok (.iconst 4, 1) := by decide +kernel
theorem dX12_tells_15 : decode cX12_tells 15 = .ok (.iload_n 1, 1) := by decide +kernel
theorem dX12_tells_16 : decode cX12_tells 16 = .ok (.imul, 1) := by decide +kernel
theorem dX12_tells_17 : decode cX12_tells 17 = .ok (.iaload, 1) := by decide +kernel
theorem dX12_tells_18 : decode cX12_tells 18 = .ok (.istore_n 2, 1) := by decide +kernel
theorem dX12_tells_19 : decode cX12_tells 19 = .ok (.aload_n 0, 1) := by decide +kernel
theorem dX12_tells_20 : decode cX12_tells 20 = .ok (.getfield 35, 3) := by decide +kernel
theorem dX12_tells_23 : decode cX12_tells 23 = .ok (.iconst 4, 1) := by decide +kernel
theorem dX12_tells_24 : decode cX12_tells 24 = .ok (.iload_n 1, 1) := by decide +kernel
theorem dX12_tells_25 : decode cX12_tells 25 = .ok (.imul, 1) := by decide +kernel
theorem dX12_tells_26 : decode cX12_tells 26 = .ok (.iconst 1, 1) := by decide +kernel
theorem dX12_tells_27 : decode cX12_tells 27 = .ok (.iadd, 1) := by decide +kernel
theorem dX12_tells_28 : decode cX12_tells 28 = .ok (.iaload, 1) := by decide +kernel
theorem dX12_tells_29 : decode cX12_tells 29 = .ok (.istore_n 3, 1) := by decide +kernel
theorem dX12_tells_30 : decode cX12_tells 30 = .ok (.aload_n 0, 1) := by decide +kernel
theorem dX12_tells_31 : decode cX12_tells 31 = .ok (.iload_n 2, 1) := by decide +kernel
theorem dX12_tells_32 : decode cX12_tells 32 = .ok (.iload_n 3, 1) := by decide +kernel
theorem dX12_tells_33 : decode cX12_tells 33 = .ok (.iload_n 1, 1) := by decide +kernel
theorem dX12_tells_34 : decode cX12_tells 34 = .ok (.invokevirtual 440, 3) := by decide +kernel
theorem dX12_tells_37 : decode cX12_tells 37 = .ok (.ifCond .ne 13, 3) := by decide +kernel
theorem dX12_tells_40 : decode cX12_tells 40 = .ok (.aload_n 0, 1) := by decide +kernel
theorem dX12_tells_41 : decode cX12_tells 41 = .ok (.getfield 98, 3) := by decide +kernel
theorem dX12_tells_44 : decode cX12_tells 44 = .ok (.iload_n 1, 1) := by decide +kernel
theorem dX12_tells_45 : decode cX12_tells 45 = .ok (.iconst 0, 1) := by decide +kernel
theorem dX12_tells_46 : decode cX12_tells 46 = .ok (.iastore, 1) := by decide +kernel
theorem dX12_tells_47 : decode cX12_tells 47 = .ok (.goto 90, 3) := by decide +kernel
theorem dX12_tells_50 : decode cX12_tells 50 = .ok (.aload_n 0, 1) := by decide +kernel
theorem dX12_tells_51 : decode cX12_tells 51 = .ok (.iload_n 2, 1) := by decide +kernel
theorem dX12_tells_52 : decode cX12_tells 52 = .ok (.iload_n 3, 1) := by decide +kernel
theorem dX12_tells_53 : decode cX12_tells 53 = .ok (.invokevirtual 444, 3) := by decide +kernel
theorem dX12_tells_56 : decode cX12_tells 56 = .ok (.aload_n 0, 1) := by decide +kernel
theorem dX12_tells_57 : decode cX12_tells 57 = .ok (.getfield 143, 3) := by decide +kernel
theorem dX12_tells_60 : decode cX12_tells 60 = .ok (.lstore 4, 2) := by decide +kernel
theorem dX12_tells_62 : decode cX12_tells 62 = .ok (.aload_n 0, 1) := by decide +kernel
theorem dX12_tells_63 : decode cX12_tells 63 = .ok (.getfield 147, 3) := by decide +kernel
theorem dX12_tells_66 : decode cX12_tells 66 = .ok (.lstore 6, 2) := by decide +kernel
theorem dX12_tells_68 : decode cX12_tells 68 = .ok (.aload_n 0, 1) := by decide +kernel
theorem dX12_tells_69 : decode cX12_tells 69 = .ok (.aload_n 0, 1) := by decide +kernel
theorem dX12_tells_70 : decode cX12_tells 70 = .ok (.getfield 35, 3) := by decide +kernel
theorem dX12_tells_73 : decode cX12_tells 73 = .ok (.iconst 4, 1) := by decide +kernel
theorem dX12_tells_74 : decode cX12_tells 74 = .ok (.iload_n 1, 1) := by decide +kernel
theorem dX12_tells_75 : decode cX12_tells 75 = .ok (.imul, 1) := by decide +kernel
theorem dX12_tells_76 : decode cX12_tells 76 = .ok (.iconst 2, 1) := by decide +kernel
theorem dX12_tells_77 : decode cX12_tells 77 = .ok (.iadd, 1) := by decide +kernel
theorem dX12_tells_78 : decode cX12_tells 78 = .ok (.iaload, 1) := by decide +kernel
theorem dX12_tells_79 : decode cX12_tells 79 = .ok (.i2l, 1) := by decide +kernel
theorem dX12_tells_80 : decode cX12_tells 80 = .ok (.aload_n 0, 1) := by decide +kernel
theorem dX12_tells_81 : decode cX12_tells 81 = .ok (.getfield 35, 3) := by decide +kernel
theorem dX12_tells_84 : decode cX12_tells 84 = .ok (.iconst 4, 1) := by decide +kernel
theorem dX12_tells_85 : decode cX12_tells 85 = .ok (.iload_n 1, 1) := by decide +kernel
theorem dX12_tells_86 : decode cX12_tells 86 = .ok (.imul, 1) := by decide +kernel
theorem dX12_tells_87 : decode cX12_tells 87 = .ok (.iconst 3, 1) := by decide +kernel
theorem dX12_tells_88 : decode cX12_tells 88 = .ok (.iadd, 1) := by decide +kernel
theorem dX12_tells_89 : decode cX12_tells 89 = .ok (.iaload, 1) := by decide +kernel
theorem dX12_tells_90 : decode cX12_tells 90 = .ok (.i2l, 1) := by decide +kernel
theorem dX12_tells_91 : decode cX12_tells 91 = .ok (.invokevirtual 157, 3) := by decide +kernel
theorem dX12_tells_94 : decode cX12_tells 94 = .ok (.aload_n 0, 1) := by decide +kernel
theorem dX12_tells_95 : decode cX12_tells 95 = .ok (.getfield 98, 3) := by decide +kernel
theorem dX12_tells_98 : decode cX12_tells 98 = .ok (.iload_n 1, 1) := by decide +kernel
theorem dX12_tells_99 : decode cX12_tells 99 = .ok (.aload_n 0, 1) := by decide +kernel
theorem dX12_tells_100 : decode cX12_tells 100 = .ok (.getfield 133, 3) := by decide +kernel
theorem dX12_tells_103 : decode cX12_tells 103 = .ok (.ifCond .eq 8, 3) := by decide +kernel
theorem dX12_tells_106 : decode cX12_tells 106 = .ok (.bipush (-15), 2) := by decide +kernel
theorem dX12_tells_108 : decode cX12_tells 108 = .ok (.goto 28, 3) := by decide +kernel
theorem dX12_tells_111 : decode cX12_tells 111 = .ok (.lload 4, 2) := by decide +kernel
theorem dX12_tells_113 : decode cX12_tells 113 = .ok (.aload_n 0, 1) := by decide +kernel
theorem dX12_tells_114 : decode cX12_tells 114 = .ok (.getfield 143, 3) := by decide +kernel
theorem dX12_tells_117 : decode cX12_tells 117 = .ok (.lcmp, 1) := by decide +kernel
theorem dX12_tells_118 : decode cX12_tells 118 = .ok (.ifCond .ne 17, 3) := by decide +kernel
theorem dX12_tells_121 : decode cX12_tells 121 = .ok (.lload 6, 2) := by decide +kernel
theorem dX12_tells_123 : decode cX12_tells 123 = .ok (.aload_n 0, 1) := by decide +kernel
theorem dX12_tells_124 : decode cX12_tells 124 = .ok (.getfield 147, 3) := by decide +kernel
theorem dX12_tells_127 : decode cX12_tells 127 = .ok (.lcmp, 1) := by decide +kernel
theorem dX12_tells_128 : decode cX12_tells 128 = .ok (.ifCond .ne 7, 3) := by decide +kernel
theorem dX12_tells_131 : decode cX12_tells 131 = .ok (.iconst 1, 1) := by decide +kernel
theorem dX12_tells_132 : decode cX12_tells 132 = .ok (.goto 4, 3) := by decide +kernel
theorem dX12_tells_135 : decode cX12_tells 135 = .ok (.iconst 2, 1) := by decide +kernel
theorem dX12_tells_136 : decode cX12_tells 136 = .ok (.iastore, 1) := by decide +kernel
theorem dX12_tells_137 : decode cX12_tells 137 = .ok (.iinc 1 1, 3) := by decide +kernel
theorem dX12_tells_140 : decode cX12_tells 140 = .ok (.goto (-138), 3) := by decide +kernel
theorem dX12_tells_143 : decode cX12_tells 143 = .ok (.return_, 1) := by decide +kernel
theorem dX12_isTrue_0 : decode cX12_isTrue 0 = .ok (.aload_n 0, 1) := by decide +kernel
theorem dX12_isTrue_1 : decode cX12_isTrue 1 = .ok (.getfield 35, 3) := by decide +kernel
theorem dX12_isTrue_4 : decode cX12_isTrue 4 = .ok (.iconst 4, 1) := by decide +kernel
theorem dX12_isTrue_5 : decode cX12_isTrue 5 = .ok (.iload_n 1, 1) := by decide +kernel
theorem dX12_isTrue_6 : decode cX12_isTrue 6 = .ok (.imul, 1) := by decide +kernel
theorem dX12_isTrue_7 : decode cX12_isTrue 7 = .ok (.iaload, 1) := by decide +kernel
theorem dX12_isTrue_8 : decode cX12_isTrue 8 = .ok (.istore_n 2, 1) := by decide +kernel
theorem dX12_isTrue_9 : decode cX12_isTrue 9 = .ok (.aload_n 0, 1) := by decide +kernel
theorem dX12_isTrue_10 : decode cX12_isTrue 10 = .ok (.getfield 35, 3) := by decide +kernel
theorem dX12_isTrue_13 : decode cX12_isTrue 13 = .ok (.iconst 4, 1) := by decide +kernel
theorem dX12_isTrue_14 : decode cX12_isTrue 14 = .ok (.iload_n 1, 1) := by decide +kernel
theorem dX12_isTrue_15 : decode cX12_isTrue 15 = .ok (.imul, 1) := by decide +kernel
theorem dX12_isTrue_16 : decode cX12_isTrue 16 = .ok (.iconst 1, 1) := by decide +kernel
theorem dX12_isTrue_17 : decode cX12_isTrue 17 = .ok (.iadd, 1) := by decide +kernel
theorem dX12_isTrue_18 : decode cX12_isTrue 18 = .ok (.iaload, 1) := by decide +kernel
theorem dX12_isTrue_19 : decode cX12_isTrue 19 = .ok (.istore_n 3, 1) := by decide +kernel
theorem dX12_isTrue_20 : decode cX12_isTrue 20 = .ok (.aload_n 0, 1) := by decide +kernel
theorem dX12_isTrue_21 : decode cX12_isTrue 21 = .ok (.iload_n 2, 1) := by decide +kernel
theorem dX12_isTrue_22 : decode cX12_isTrue 22 = .ok (.iload_n 3, 1) := by decide +kernel
theorem dX12_isTrue_23 : decode cX12_isTrue 23 = .ok (.invokevirtual 295, 3) := by decide +kernel
theorem dX12_isTrue_26 : decode cX12_isTrue 26 = .ok (.ifCond .eq 19, 3) := by decide +kernel
theorem dX12_isTrue_29 : decode cX12_isTrue 29 = .ok (.aload_n 0, 1) := by decide +kernel
theorem dX12_isTrue_30 : decode cX12_isTrue 30 = .ok (.iload_n 2, 1) := by decide +kernel
theorem dX12_isTrue_31 : decode cX12_isTrue 31 = .ok (.invokevirtual 247, 3) := by decide +kernel
theorem dX12_isTrue_34 : decode cX12_isTrue 34 = .ok (.ifCond .ne 11, 3) := by decide +kernel
theorem dX12_isTrue_37 : decode cX12_isTrue 37 = .ok (.aload_n 0, 1) := by decide +kernel
theorem dX12_isTrue_38 : decode cX12_isTrue 38 = .ok (.iload_n 3, 1) := by decide +kernel
theorem dX12_isTrue_39 : decode cX12_isTrue 39 = .ok (.invokevirtual 247, 3) := by decide +kernel
theorem dX12_isTrue_42 : decode cX12_isTrue 42 = .ok (.ifCond .eq 5, 3) := by decide +kernel
theorem dX12_isTrue_45 : decode cX12_isTrue 45 = .ok (.iconst 0, 1) := by decide +kernel
theorem dX12_isTrue_46 : decode cX12_isTrue 46 = .ok (.ireturn, 1) := by decide +kernel
theorem dX12_isTrue_47 : decode cX12_isTrue 47 = .ok (.aload_n 0, 1) := by decide +kernel
theorem dX12_isTrue_48 : decode cX12_isTrue 48 = .ok (.iconst 0, 1) := by decide +kernel
theorem dX12_isTrue_49 : decode cX12_isTrue 49 = .ok (.putfield 133, 3) := by decide +kernel
theorem dX12_isTrue_52 : decode cX12_isTrue 52 = .ok (.aload_n 0, 1) := by decide +kernel
theorem dX12_isTrue_53 : decode cX12_isTrue 53 = .ok (.aload_n 0, 1) := by decide +kernel
theorem dX12_isTrue_54 : decode cX12_isTrue 54 = .ok (.getfield 35, 3) := by decide +kernel
theorem dX12_isTrue_57 : decode cX12_isTrue 57 = .ok (.iconst 4, 1) := by decide +kernel
theorem dX12_isTrue_58 : decode cX12_isTrue 58 = .ok (.iload_n 1, 1) := by decide +kernel
theorem dX12_isTrue_59 : decode cX12_isTrue 59 = .ok (.imul, 1) := by decide +kernel
theorem dX12_isTrue_60 : decode cX12_isTrue 60 = .ok (.iconst 2, 1) := by decide +kernel
theorem dX12_isTrue_61 : decode cX12_isTrue 61 = .ok (.iadd, 1) := by decide +kernel
theorem dX12_isTrue_62 : decode cX12_isTrue 62 = .ok (.iaload, 1) := by decide +kernel
theorem dX12_isTrue_63 : decode cX12_isTrue 63 = .ok (.i2l, 1) := by decide +kernel
theorem dX12_isTrue_64 : decode cX12_isTrue 64 = .ok (.aload_n 0, 1) := by decide +kernel
theorem dX12_isTrue_65 : decode cX12_isTrue 65 = .ok (.getfield 35, 3) := by decide +kernel
theorem dX12_isTrue_68 : decode cX12_isTrue 68 = .ok (.iconst 4, 1) := by decide +kernel
theorem dX12_isTrue_69 : decode cX12_isTrue 69 = .ok (.iload_n 1, 1) := by decide +kernel
theorem dX12_isTrue_70 : decode cX12_isTrue 70 = .ok (.imul, 1) := by decide +kernel
theorem dX12_isTrue_71 : decode cX12_isTrue 71 = .ok (.iconst 3, 1) := by decide +kernel
theorem dX12_isTrue_72 : decode cX12_isTrue 72 = .ok (.iadd, 1) := by decide +kernel
theorem dX12_isTrue_73 : decode cX12_isTrue 73 = .ok (.iaload, 1) := by decide +kernel
theorem dX12_isTrue_74 : decode cX12_isTrue 74 = .ok (.i2l, 1) := by decide +kernel
theorem dX12_isTrue_75 : decode cX12_isTrue 75 = .ok (.invokevirtual 157, 3) := by decide +kernel
theorem dX12_isTrue_78 : decode cX12_isTrue 78 = .ok (.aload_n 0, 1) := by decide +kernel
theorem dX12_isTrue_79 : decode cX12_isTrue 79 = .ok (.aload_n 0, 1) := by decide +kernel
theorem dX12_isTrue_80 : decode cX12_isTrue 80 = .ok (.getfield 143, 3) := by decide +kernel
theorem dX12_isTrue_83 : decode cX12_isTrue 83 = .ok (.aload_n 0, 1) := by decide +kernel
theorem dX12_isTrue_84 : decode cX12_isTrue 84 = .ok (.getfield 147, 3) := by decide +kernel
theorem dX12_isTrue_87 : decode cX12_isTrue 87 = .ok (.aload_n 0, 1) := by decide +kernel
theorem dX12_isTrue_88 : decode cX12_isTrue 88 = .ok (.getfield 22, 3) := by decide +kernel
theorem dX12_isTrue_91 : decode cX12_isTrue 91 = .ok (.iload_n 3, 1) := by decide +kernel
theorem dX12_isTrue_92 : decode cX12_isTrue 92 = .ok (.laload, 1) := by decide +kernel
theorem dX12_isTrue_93 : decode cX12_isTrue 93 = .ok (.aload_n 0, 1) := by decide +kernel
theorem dX12_isTrue_94 : decode cX12_isTrue 94 = .ok (.getfield 26, 3) := by decide +kernel
theorem dX12_isTrue_97 : decode cX12_isTrue 97 = .ok (.iload_n 3, 1) := by decide +kernel
theorem dX12_isTrue_98 : decode cX12_isTrue 98 = .ok (.laload, 1) := by decide +kernel
theorem dX12_isTrue_99 : decode cX12_isTrue 99 = .ok (.invokevirtual 153, 3) := by decide +kernel
theorem dX12_isTrue_102 : decode cX12_isTrue 102 = .ok (.aload_n 0, 1) := by decide +kernel
theorem dX12_isTrue_103 : decode cX12_isTrue 103 = .ok (.getfield 133, 3) := by decide +kernel
theorem dX12_isTrue_106 : decode cX12_isTrue 106 = .ok (.ifCond .eq 6, 3) := by decide +kernel
theorem dX12_isTrue_109 : decode cX12_isTrue 109 = .ok (.bipush (-15), 2) := by decide +kernel
theorem dX12_isTrue_111 : decode cX12_isTrue 111 = .ok (.ireturn, 1) := by decide +kernel
theorem dX12_isTrue_112 : decode cX12_isTrue 112 = .ok (.aload_n 0, 1) := by decide +kernel
theorem dX12_isTrue_113 : decode cX12_isTrue 113 = .ok (.getfield 143, 3) := by decide +kernel
theorem dX12_isTrue_116 : decode cX12_isTrue 116 = .ok (.aload_n 0, 1) := by decide +kernel
theorem dX12_isTrue_117 : decode cX12_isTrue 117 = .ok (.getfield 22, 3) := by decide +kernel
theorem dX12_isTrue_120 : decode cX12_isTrue 120 = .ok (.iload_n 2, 1) := by decide +kernel
theorem dX12_isTrue_121 : decode cX12_isTrue 121 = .ok (.laload, 1) := by decide +kernel
theorem dX12_isTrue_122 : decode cX12_isTrue 122 = .ok (.lcmp, 1) := by decide +kernel
theorem dX12_isTrue_123 : decode cX12_isTrue 123 = .ok (.ifCond .ne 21, 3) := by decide +kernel
theorem dX12_isTrue_126 : decode cX12_isTrue 126 = .ok (.aload_n 0, 1) := by decide +kernel
theorem dX12_isTrue_127 : decode cX12_isTrue 127 = .ok (.getfield 147, 3) := by decide +kernel
theorem dX12_isTrue_130 : decode cX12_isTrue 130 = .ok (.aload_n 0, 1) := by decide +kernel
theorem dX12_isTrue_131 : decode cX12_isTrue 131 = .ok (.getfield 26, 3) := by decide +kernel
theorem dX12_isTrue_134 : decode cX12_isTrue 134 = .ok (.iload_n 2, 1) := by decide +kernel
theorem dX12_isTrue_135 : decode cX12_isTrue 135 = .ok (.laload, 1) := by decide +kernel
theorem dX12_isTrue_136 : decode cX12_isTrue 136 = .ok (.lcmp, 1) := by decide +kernel
theorem dX12_isTrue_137 : decode cX12_isTrue 137 = .ok (.ifCond .ne 7, 3) := by decide +kernel
theorem dX12_isTrue_140 : decode cX12_isTrue 140 = .ok (.iconst 1, 1) := by decide +kernel
theorem dX12_isTrue_141 : decode cX12_isTrue 141 = .ok (.goto 4, 3) := by decide +kernel
theorem dX12_isTrue_144 : decode cX12_isTrue 144 = .ok (.iconst 0, 1) := by decide +kernel
theorem dX12_isTrue_145 : decode cX12_isTrue 145 = .ok (.ireturn, 1) := by decide +kernel
theorem dX12_claimOf_0 : decode cX12_claimOf 0 = .ok (.iload_n 1, 1) := by decide +kernel
theorem dX12_claimOf_1 : decode cX12_claimOf 1 = .ok (.i2l, 1) := by decide +kernel
theorem dX12_claimOf_2 : decode cX12_claimOf 2 = .ok (.lconst 0, 1) := by decide +kernel
theorem dX12_claimOf_3 : decode cX12_claimOf 3 = .ok (.aload_n 0, 1) := by decide +kernel
theorem dX12_claimOf_4 : decode cX12_claimOf 4 = .ok (.getfield 275, 3) := by decide +kernel
theorem dX12_claimOf_7 : decode cX12_claimOf 7 = .ok (.iconst 1, 1) := by decide +kernel
theorem dX12_claimOf_8 : decode cX12_claimOf 8 = .ok (.isub, 1) := by decide +kernel
theorem dX12_claimOf_9 : decode cX12_claimOf 9 = .ok (.i2l, 1) := by decide +kernel
theorem dX12_claimOf_10 : decode cX12_claimOf 10 = .ok (.invokestatic 161, 3) := by decide +kernel
theorem dX12_claimOf_13 : decode cX12_claimOf 13 = .ok (.ifCond .eq 15, 3) := by decide +kernel
theorem dX12_claimOf_16 : decode cX12_claimOf 16 = .ok (.iload_n 2, 1) := by decide +kernel
theorem dX12_claimOf_17 : decode cX12_claimOf 17 = .ok (.i2l, 1) := by decide +kernel
theorem dX12_claimOf_18 : decode cX12_claimOf 18 = .ok (.lconst 0, 1) := by decide +kernel
theorem dX12_claimOf_19 : decode cX12_claimOf 19 = .ok (.ldc2_w 447, 3) := by decide +kernel
theorem dX12_claimOf_22 : decode cX12_claimOf 22 = .ok (.invokestatic 161, 3) := by decide +kernel
theorem dX12_claimOf_25 : decode cX12_claimOf 25 = .ok (.ifCond .ne 5, 3) := by decide +kernel
theorem dX12_claimOf_28 : decode cX12_claimOf 28 = .ok (.iconst (-1), 1) := by decide +kernel
theorem dX12_claimOf_29 : decode cX12_claimOf 29 = .ok (.ireturn, 1) := by decide +kernel
theorem dX12_claimOf_30 : decode cX12_claimOf 30 = .ok (.iload_n 2, 1) := by decide +kernel
theorem dX12_claimOf_31 : decode cX12_claimOf 31 = .ok (.iconst 4, 1) := by decide +kernel
theorem dX12_claimOf_32 : decode cX12_claimOf 32 = .ok (.if_icmp .ge 14, 3) := by decide +kernel
theorem dX12_claimOf_35 : decode cX12_claimOf 35 = .ok (.aload_n 0, 1) := by decide +kernel
theorem dX12_claimOf_36 : decode cX12_claimOf 36 = .ok (.getfield 35, 3) := by decide +kernel
theorem dX12_claimOf_39 : decode cX12_claimOf 39 = .ok (.iconst 4, 1) := by decide +kernel
theorem dX12_claimOf_40 : decode cX12_claimOf 40 = .ok (.iload_n 1, 1) := by decide +kernel
theorem dX12_claimOf_41 : decode cX12_claimOf 41 = .ok (.imul, 1) := by decide +kernel
theorem dX12_claimOf_42 : decode cX12_claimOf 42 = .ok (.iload_n 2, 1) := by decide +kernel
theorem dX12_claimOf_43 : decode cX12_claimOf 43 = .ok (.iadd, 1) := by decide +kernel
theorem dX12_claimOf_44 : decode cX12_claimOf 44 = .ok (.iaload, 1) := by decide +kernel
theorem dX12_claimOf_45 : decode cX12_claimOf 45 = .ok (.ireturn, 1) := by decide +kernel
theorem dX12_claimOf_46 : decode cX12_claimOf 46 = .ok (.iload_n 2, 1) := by decide +kernel
theorem dX12_claimOf_47 : decode cX12_claimOf 47 = .ok (.iconst 5, 1) := by decide +kernel
theorem dX12_claimOf_48 : decode cX12_claimOf 48 = .ok (.if_icmp .ne 9, 3) := by decide +kernel
theorem dX12_claimOf_51 : decode cX12_claimOf 51 = .ok (.aload_n 0, 1) := by decide +kernel
theorem dX12_claimOf_52 : decode cX12_claimOf 52 = .ok (.iload_n 1, 1) := by decide +kernel
theorem dX12_claimOf_53 : decode cX12_claimOf 53 = .ok (.invokevirtual 449, 3) := by decide +kernel
theorem dX12_claimOf_56 : decode cX12_claimOf 56 = .ok (.ireturn, 1) := by decide +kernel
theorem dX12_claimOf_57 : decode cX12_claimOf 57 = .ok (.aload_n 0, 1) := by decide +kernel
theorem dX12_claimOf_58 : decode cX12_claimOf 58 = .ok (.invokevirtual 452, 3) := by decide +kernel
theorem dX12_claimOf_61 : decode cX12_claimOf 61 = .ok (.aload_n 0, 1) := by decide +kernel
theorem dX12_claimOf_62 : decode cX12_claimOf 62 = .ok (.getfield 98, 3) := by decide +kernel
theorem dX12_claimOf_65 : decode cX12_claimOf 65 = .ok (.iload_n 1, 1) := by decide +kernel
theorem dX12_claimOf_66 : decode cX12_claimOf 66 = .ok (.iaload, 1) := by decide +kernel
theorem dX12_claimOf_67 : decode cX12_claimOf 67 = .ok (.bipush (-15), 2) := by decide +kernel
theorem dX12_claimOf_69 : decode cX12_claimOf 69 = .ok (.if_icmp .ne 8, 3) := by decide +kernel
theorem dX12_claimOf_72 : decode cX12_claimOf 72 = .ok (.bipush (-15), 2) := by decide +kernel
theorem dX12_claimOf_74 : decode cX12_claimOf 74 = .ok (.goto 18, 3) := by decide +kernel
theorem dX12_claimOf_77 : decode cX12_claimOf 77 = .ok (.aload_n 0, 1) := by decide +kernel
theorem dX12_claimOf_78 : decode cX12_claimOf 78 = .ok (.getfield 98, 3) := by decide +kernel
theorem dX12_claimOf_81 : decode cX12_claimOf 81 = .ok (.iload_n 1, 1) := by decide +kernel
theorem dX12_claimOf_82 : decode cX12_claimOf 82 = .ok (.iaload, 1) := by decide +kernel
theorem dX12_claimOf_83 : decode cX12_claimOf 83 = .ok (.iconst 2, 1) := by decide +kernel
theorem dX12_claimOf_84 : decode cX12_claimOf 84 = .ok (.if_icmp .ne 7, 3) := by decide +kernel
theorem dX12_claimOf_87 : decode cX12_claimOf 87 = .ok (.iconst 1, 1) := by decide +kernel
theorem dX12_claimOf_88 : decode cX12_claimOf 88 = .ok (.goto 4, 3) := by decide +kernel
theorem dX12_claimOf_91 : decode cX12_claimOf 91 = .ok (.iconst 0, 1) := by decide +kernel
theorem dX12_claimOf_92 : decode cX12_claimOf 92 = .ok (.ireturn, 1) := by decide +kernel
theorem dX12_tolds_0 : decode cX12_tolds 0 = .ok (.iconst 0, 1) := by decide +kernel
theorem dX12_tolds_1 : decode cX12_tolds 1 = .ok (.istore_n 2, 1) := by decide +kernel
theorem dX12_tolds_2 : decode cX12_tolds 2 = .ok (.iconst 0, 1) := by decide +kernel
theorem dX12_tolds_3 : decode cX12_tolds 3 = .ok (.istore_n 3, 1) := by decide +kernel
theorem dX12_tolds_4 : decode cX12_tolds 4 = .ok (.iload_n 3, 1) := by decide +kernel
theorem dX12_tolds_5 : decode cX12_tolds 5 = .ok (.aload_n 0, 1) := by decide +kernel
theorem dX12_tolds_6 : decode cX12_tolds 6 = .ok (.getfield 275, 3) := by decide +kernel
theorem dX12_tolds_9 : decode cX12_tolds 9 = .ok (.if_icmp .ge 27, 3) := by decide +kernel
theorem dX12_tolds_12 : decode cX12_tolds 12 = .ok (.iload_n 2, 1) := by decide +kernel
theorem dX12_tolds_13 : decode cX12_tolds 13 = .ok (.aload_n 0, 1) := by decide +kernel
theorem dX12_tolds_14 : decode cX12_tolds 14 = .ok (.getfield 98, 3) := by decide +kernel
theorem dX12_tolds_17 : decode cX12_tolds 17 = .ok (.iload_n 3, 1) := by decide +kernel
theorem dX12_tolds_18 : decode cX12_tolds 18 = .ok (.iaload, 1) := by decide +kernel
theorem dX12_tolds_19 : decode cX12_tolds 19 = .ok (.iload_n 1, 1) := by decide +kernel
theorem dX12_tolds_20 : decode cX12_tolds 20 = .ok (.if_icmp .ne 7, 3) := by decide +kernel
theorem dX12_tolds_23 : decode cX12_tolds 23 = .ok (.iconst 1, 1) := by decide +kernel
theorem dX12_tolds_24 : decode cX12_tolds 24 = .ok (.goto 4, 3) := by decide +kernel
theorem dX12_tolds_27 : decode cX12_tolds 27 = .ok (.iconst 0, 1) := by decide +kernel
theorem dX12_tolds_28 : decode cX12_tolds 28 = .ok (.iadd, 1) := by decide +kernel
theorem dX12_tolds_29 : decode cX12_tolds 29 = .ok (.istore_n 2, 1) := by decide +kernel
theorem dX12_tolds_30 : decode cX12_tolds 30 = .ok (.iinc 3 1, 3) := by decide +kernel
theorem dX12_tolds_33 : decode cX12_tolds 33 = .ok (.goto (-29), 3) := by decide +kernel
theorem dX12_tolds_36 : decode cX12_tolds 36 = .ok (.iload_n 2, 1) := by decide +kernel
theorem dX12_tolds_37 : decode cX12_tolds 37 = .ok (.ireturn, 1) := by decide +kernel
theorem dX12_trues_0 : decode cX12_trues 0 = .ok (.iconst 0, 1) := by decide +kernel
theorem dX12_trues_1 : decode cX12_trues 1 = .ok (.istore_n 1, 1) := by decide +kernel
theorem dX12_trues_2 : decode cX12_trues 2 = .ok (.iconst 0, 1) := by decide +kernel
theorem dX12_trues_3 : decode cX12_trues 3 = .ok (.istore_n 2, 1) := by decide +kernel
theorem dX12_trues_4 : decode cX12_trues 4 = .ok (.iload_n 2, 1) := by decide +kernel
theorem dX12_trues_5 : decode cX12_trues 5 = .ok (.aload_n 0, 1) := by decide +kernel
theorem dX12_trues_6 : decode cX12_trues 6 = .ok (.getfield 275, 3) := by decide +kernel
theorem dX12_trues_9 : decode cX12_trues 9 = .ok (.if_icmp .ge 28, 3) := by decide +kernel
theorem dX12_trues_12 : decode cX12_trues 12 = .ok (.aload_n 0, 1) := by decide +kernel
theorem dX12_trues_13 : decode cX12_trues 13 = .ok (.iload_n 2, 1) := by decide +kernel
theorem dX12_trues_14 : decode cX12_trues 14 = .ok (.invokevirtual 449, 3) := by decide +kernel
theorem dX12_trues_17 : decode cX12_trues 17 = .ok (.istore_n 3, 1) := by decide +kernel
theorem dX12_trues_18 : decode cX12_trues 18 = .ok (.iload_n 3, 1) := by decide +kernel
theorem dX12_trues_19 : decode cX12_trues 19 = .ok (.bipush (-15), 2) := by decide +kernel
theorem dX12_trues_21 : decode cX12_trues 21 = .ok (.if_icmp .ne 6, 3) := by decide +kernel
theorem dX12_trues_24 : decode cX12_trues 24 = .ok (.bipush (-15), 2) := by decide +kernel
theorem dX12_trues_26 : decode cX12_trues 26 = .ok (.ireturn, 1) := by decide +kernel
theorem dX12_trues_27 : decode cX12_trues 27 = .ok (.iload_n 1, 1) := by decide +kernel
theorem dX12_trues_28 : decode cX12_trues 28 = .ok (.iload_n 3, 1) := by decide +kernel
theorem dX12_trues_29 : decode cX12_trues 29 = .ok (.iadd, 1) := by decide +kernel
theorem dX12_trues_30 : decode cX12_trues 30 = .ok (.istore_n 1, 1) := by decide +kernel
theorem dX12_trues_31 : decode cX12_trues 31 = .ok (.iinc 2 1, 3) := by decide +kernel
theorem dX12_trues_34 : decode cX12_trues 34 = .ok (.goto (-30), 3) := by decide +kernel
theorem dX12_trues_37 : decode cX12_trues 37 = .ok (.iload_n 1, 1) := by decide +kernel
theorem dX12_trues_38 : decode cX12_trues 38 = .ok (.ireturn, 1) := by decide +kernel
theorem dX12_rings_0 : decode cX12_rings 0 = .ok (.iload_n 1, 1) := by decide +kernel
theorem dX12_rings_1 : decode cX12_rings 1 = .ok (.i2l, 1) := by decide +kernel
theorem dX12_rings_2 : decode cX12_rings 2 = .ok (.lconst 0, 1) := by decide +kernel
theorem dX12_rings_3 : decode cX12_rings 3 = .ok (.ldc2_w 455, 3) := by decide +kernel
theorem dX12_rings_6 : decode cX12_rings 6 = .ok (.invokestatic 161, 3) := by decide +kernel
theorem dX12_rings_9 : decode cX12_rings 9 = .ok (.ifCond .ne 5, 3) := by decide +kernel
theorem dX12_rings_12 : decode cX12_rings 12 = .ok (.iconst (-1), 1) := by decide +kernel
theorem dX12_rings_13 : decode cX12_rings 13 = .ok (.ireturn, 1) := by decide +kernel
theorem dX12_rings_14 : decode cX12_rings 14 = .ok (.iload_n 1, 1) := by decide +kernel
theorem dX12_rings_15 : decode cX12_rings 15 = .ok (.iconst 2, 1) := by decide +kernel
theorem dX12_rings_16 : decode cX12_rings 16 = .ok (.if_icmp .ne 8, 3) := by decide +kernel
theorem dX12_rings_19 : decode cX12_rings 19 = .ok (.aload_n 0, 1) := by decide +kernel
theorem dX12_rings_20 : decode cX12_rings 20 = .ok (.invokevirtual 457, 3) := by decide +kernel
theorem dX12_rings_23 : decode cX12_rings 23 = .ok (.ireturn, 1) := by decide +kernel
theorem dX12_rings_24 : decode cX12_rings 24 = .ok (.aload_n 0, 1) := by decide +kernel
theorem dX12_rings_25 : decode cX12_rings 25 = .ok (.invokevirtual 452, 3) := by decide +kernel
theorem dX12_rings_28 : decode cX12_rings 28 = .ok (.iload_n 1, 1) := by decide +kernel
theorem dX12_rings_29 : decode cX12_rings 29 = .ok (.iconst 3, 1) := by decide +kernel
theorem dX12_rings_30 : decode cX12_rings 30 = .ok (.if_icmp .ne 14, 3) := by decide +kernel
theorem dX12_rings_33 : decode cX12_rings 33 = .ok (.aload_n 0, 1) := by decide +kernel
theorem dX12_rings_34 : decode cX12_rings 34 = .ok (.getfield 11, 3) := by decide +kernel
theorem dX12_rings_37 : decode cX12_rings 37 = .ok (.aload_n 0, 1) := by decide +kernel
theorem dX12_rings_38 : decode cX12_rings 38 = .ok (.iconst 0, 1) := by decide +kernel
theorem dX12_rings_39 : decode cX12_rings 39 = .ok (.invokevirtual 460, 3) := by decide +kernel
theorem dX12_rings_42 : decode cX12_rings 42 = .ok (.isub, 1) := by decide +kernel
theorem dX12_rings_43 : decode cX12_rings 43 = .ok (.ireturn, 1) := by decide +kernel
theorem dX12_rings_44 : decode cX12_rings 44 = .ok (.aload_n 0, 1) := by decide +kernel
theorem dX12_rings_45 : decode cX12_rings 45 = .ok (.bipush (-15), 2) := by decide +kernel
theorem dX12_rings_47 : decode cX12_rings 47 = .ok (.invokevirtual 460, 3) := by decide +kernel
theorem dX12_rings_50 : decode cX12_rings 50 = .ok (.ifCond .le 8, 3) := by decide +kernel
theorem dX12_rings_53 : decode cX12_rings 53 = .ok (.bipush (-15), 2) := by decide +kernel
theorem dX12_rings_55 : decode cX12_rings 55 = .ok (.goto 16, 3) := by decide +kernel
theorem dX12_rings_58 : decode cX12_rings 58 = .ok (.aload_n 0, 1) := by decide +kernel
theorem dX12_rings_59 : decode cX12_rings 59 = .ok (.iload_n 1, 1) := by decide +kernel
theorem dX12_rings_60 : decode cX12_rings 60 = .ok (.ifCond .ne 7, 3) := by decide +kernel
theorem dX12_rings_63 : decode cX12_rings 63 = .ok (.iconst 2, 1) := by decide +kernel
theorem dX12_rings_64 : decode cX12_rings 64 = .ok (.goto 4, 3) := by decide +kernel
theorem dX12_rings_67 : decode cX12_rings 67 = .ok (.iconst 1, 1) := by decide +kernel
theorem dX12_rings_68 : decode cX12_rings 68 = .ok (.invokevirtual 460, 3) := by decide +kernel
theorem dX12_rings_71 : decode cX12_rings 71 = .ok (.ireturn, 1) := by decide +kernel
theorem dX12_by__0 : decode cX12_by_ 0 = .ok (.aload_n 0, 1) := by decide +kernel
theorem dX12_by__1 : decode cX12_by_ 1 = .ok (.iload_n 1, 1) := by decide +kernel
theorem dX12_by__2 : decode cX12_by_ 2 = .ok (.invokevirtual 283, 3) := by decide +kernel
theorem dX12_by__5 : decode cX12_by_ 5 = .ok (.ifCond .eq 18, 3) := by decide +kernel
theorem dX12_by__8 : decode cX12_by_ 8 = .ok (.aload_n 0, 1) := by decide +kernel
theorem dX12_by__9 : decode cX12_by_ 9 = .ok (.iload_n 2, 1) := by decide +kernel
theorem dX12_by__10 : decode cX12_by_ 10 = .ok (.invokevirtual 283, 3) := by decide +kernel
theorem dX12_by__13 : decode cX12_by_ 13 = .ok (.ifCond .eq 10, 3) := by decide +kernel
theorem dX12_by__16 : decode cX12_by_ 16 = .ok (.iload_n 3, 1) := by decide +kernel
theorem dX12_by__17 : decode cX12_by_ 17 = .ok (.invokestatic 288, 3) := by decide +kernel
theorem dX12_by__20 : decode cX12_by_ 20 = .ok (.ifCond .ne 7, 3) := by decide +kernel
theorem dX12_by__23 : decode cX12_by_ 23 = .ok (.ldc2_w 137, 3) := by decide +kernel
theorem dX12_by__26 : decode cX12_by_ 26 = .ok (.lreturn, 1) := by decide +kernel
theorem dX12_by__27 : decode cX12_by_ 27 = .ok (.aload_n 0, 1) := by decide +kernel
theorem dX12_by__28 : decode cX12_by_ 28 = .ok (.invokevirtual 452, 3) := by decide +kernel
theorem dX12_by__31 : decode cX12_by_ 31 = .ok (.aload_n 0, 1) := by decide +kernel
theorem dX12_by__32 : decode cX12_by_ 32 = .ok (.iload_n 1, 1) := by decide +kernel
theorem dX12_by__33 : decode cX12_by_ 33 = .ok (.iload_n 2, 1) := by decide +kernel
theorem dX12_by__34 : decode cX12_by_ 34 = .ok (.aload_n 0, 1) := by decide +kernel
theorem dX12_by__35 : decode cX12_by_ 35 = .ok (.getfield 275, 3) := by decide +kernel
theorem dX12_by__38 : decode cX12_by_ 38 = .ok (.invokevirtual 440, 3) := by decide +kernel
theorem dX12_by__41 : decode cX12_by_ 41 = .ok (.ifCond .ne 7, 3) := by decide +kernel
theorem dX12_by__44 : decode cX12_by_ 44 = .ok (.ldc2_w 137, 3) := by decide +kernel
theorem dX12_by__47 : decode cX12_by_ 47 = .ok (.lreturn, 1) := by decide +kernel
theorem dX12_by__48 : decode cX12_by_ 48 = .ok (.aload_n 0, 1) := by decide +kernel
theorem dX12_by__49 : decode cX12_by_ 49 = .ok (.iload_n 1, 1) := by decide +kernel
theorem dX12_by__50 : decode cX12_by_ 50 = .ok (.iload_n 2, 1) := by decide +kernel
theorem dX12_by__51 : decode cX12_by_ 51 = .ok (.invokevirtual 444, 3) := by decide +kernel
theorem dX12_by__54 : decode cX12_by_ 54 = .ok (.aload_n 0, 1) := by decide +kernel
theorem dX12_by__55 : decode cX12_by_ 55 = .ok (.iload_n 3, 1) := by decide +kernel
theorem dX12_by__56 : decode cX12_by_ 56 = .ok (.invokevirtual 299, 3) := by decide +kernel
theorem dX12_by__59 : decode cX12_by_ 59 = .ok (.lreturn, 1) := by decide +kernel
theorem dX12_isTrack_0 : decode cX12_isTrack 0 = .ok (.iload_n 0, 1) := by decide +kernel
theorem dX12_isTrack_1 : decode cX12_isTrack 1 = .ok (.i2l, 1) := by decide +kernel
theorem dX12_isTrack_2 : decode cX12_isTrack 2 = .ok (.lconst 0, 1) := by decide +kernel
theorem dX12_isTrack_3 : decode cX12_isTrack 3 = .ok (.ldc2_w 455, 3) := by decide +kernel
theorem dX12_isTrack_6 : decode cX12_isTrack 6 = .ok (.invokestatic 161, 3) := by decide +kernel
theorem dX12_isTrack_9 : decode cX12_isTrack 9 = .ok (.ireturn, 1) := by decide +kernel
theorem dX12_track_0 : decode cX12_track 0 = .ok (.iload_n 1, 1) := by decide +kernel
theorem dX12_track_1 : decode cX12_track 1 = .ok (.invokestatic 463, 3) := by decide +kernel
theorem dX12_track_4 : decode cX12_track 4 = .ok (.ifCond .ne 5, 3) := by decide +kernel
theorem dX12_track_7 : decode cX12_track 7 = .ok (.iconst (-1), 1) := by decide +kernel
theorem dX12_track_8 : decode cX12_track 8 = .ok (.ireturn, 1) := by decide +kernel
theorem dX12_track_9 : decode cX12_track 9 = .ok (.iload_n 2, 1) := by decide +kernel
theorem dX12_track_10 : decode cX12_track 10 = .ok (.i2l, 1) := by decide +kernel
theorem dX12_track_11 : decode cX12_track 11 = .ok (.ldc2_w 286, 3) := by decide +kernel
theorem dX12_track_14 : decode cX12_track 14 = .ok (.lconst 1, 1) := by decide +kernel
theorem dX12_track_15 : decode cX12_track 15 = .ok (.invokestatic 161, 3) := by decide +kernel
theorem dX12_track_18 : decode cX12_track 18 = .ok (.ifCond .eq 19, 3) := by decide +kernel
theorem dX12_track_21 : decode cX12_track 21 = .ok (.iload_n 2, 1) := by decide +kernel
theorem dX12_track_22 : decode cX12_track 22 = .ok (.ifCond .lt 18, 3) := by decide +kernel
theorem dX12_track_25 : decode cX12_track 25 = .ok (.iload_n 3, 1) := by decide +kernel
theorem dX12_track_26 : decode cX12_track 26 = .ok (.i2l, 1) := by decide +kernel
theorem dX12_track_27 : decode cX12_track 27 = .ok (.lconst 0, 1) := by decide +kernel
theorem dX12_track_28 : decode cX12_track 28 = .ok (.ldc2_w 466, 3) := by decide +kernel
theorem dX12_track_31 : decode cX12_track 31 = .ok (.invokestatic 161, 3) := by decide +kernel
theorem dX12_track_34 : decode cX12_track 34 = .ok (.ifCond .ne 6, 3) := by decide +kernel
theorem dX12_track_37 : decode cX12_track 37 = .ok (.bipush (-2), 2) := by decide +kernel
theorem dX12_track_39 : decode cX12_track 39 = .ok (.ireturn, 1) := by decide +kernel
theorem dX12_track_40 : decode cX12_track 40 = .ok (.aload_n 0, 1) := by decide +kernel
theorem dX12_track_41 : decode cX12_track 41 = .ok (.getfield 107, 3) := by decide +kernel
theorem dX12_track_44 : decode cX12_track 44 = .ok (.iload_n 1, 1) := by decide +kernel
theorem dX12_track_45 : decode cX12_track 45 = .ok (.iload_n 2, 1) := by decide +kernel
theorem dX12_track_46 : decode cX12_track 46 = .ok (.iastore, 1) := by decide +kernel
theorem dX12_track_47 : decode cX12_track 47 = .ok (.aload_n 0, 1) := by decide +kernel
theorem dX12_track_48 : decode cX12_track 48 = .ok (.getfield 110, 3) := by decide +kernel
theorem dX12_track_51 : decode cX12_track 51 = .ok (.iload_n 1, 1) := by decide +kernel
theorem dX12_track_52 : decode cX12_track 52 = .ok (.iload_n 2, 1) := by decide +kernel
theorem dX12_track_53 : decode cX12_track 53 = .ok (.ifCond .ge 7, 3) := by decide +kernel
theorem dX12_track_56 : decode cX12_track 56 = .ok (.iconst 0, 1) := by decide +kernel
theorem dX12_track_57 : decode cX12_track 57 = .ok (.goto 4, 3) := by decide +kernel
theorem dX12_track_60 : decode cX12_track 60 = .ok (.iload_n 3, 1) := by decide +kernel
theorem dX12_track_61 : decode cX12_track 61 = .ok (.iastore, 1) := by decide +kernel
theorem dX12_track_62 : decode cX12_track 62 = .ok (.bipush 30, 2) := by decide +kernel
theorem dX12_track_64 : decode cX12_track 64 = .ok (.iload_n 1, 1) := by decide +kernel
theorem dX12_track_65 : decode cX12_track 65 = .ok (.imul, 1) := by decide +kernel
theorem dX12_track_66 : decode cX12_track 66 = .ok (.istore 4, 2) := by decide +kernel
theorem dX12_track_68 : decode cX12_track 68 = .ok (.iload 4, 2) := by decide +kernel
theorem dX12_track_70 : decode cX12_track 70 = .ok (.bipush 30, 2) := by decide +kernel
theorem dX12_track_72 : decode cX12_track 72 = .ok (.iload_n 1, 1) := by decide +kernel
theorem dX12_track_73 : decode cX12_track 73 = .ok (.imul, 1) := by decide +kernel
theorem dX12_track_74 : decode cX12_track 74 = .ok (.bipush 30, 2) := by decide +kernel
theorem dX12_track_76 : decode cX12_track 76 = .ok (.iadd, 1) := by decide +kernel
theorem dX12_track_77 : decode cX12_track 77 = .ok (.if_icmp .ge 25, 3) := by decide +kernel
theorem dX12_track_80 : decode cX12_track 80 = .ok (.aload_n 0, 1) := by decide +kernel
theorem dX12_track_81 : decode cX12_track 81 = .ok (.getfield 113, 3) := by decide +kernel
theorem dX12_track_84 : decode cX12_track 84 = .ok (.iload 4, 2) := by decide +kernel
theorem dX12_track_86 : decode cX12_track 86 = .ok (.fconst 0, 1) := by decide +kernel
theorem dX12_track_87 : decode cX12_track 87 = .ok (.fastore, 1) := by decide +kernel
theorem dX12_track_88 : decode cX12_track 88 = .ok (.aload_n 0, 1) := by decide +kernel
theorem dX12_track_89 : decode cX12_track 89 = .ok (.getfield 117, 3) := by decide +kernel
theorem dX12_track_92 : decode cX12_track 92 = .ok (.iload 4, 2) := by decide +kernel
theorem dX12_track_94 : decode cX12_track 94 = .ok (.dconst 0, 1) := by decide +kernel
theorem dX12_track_95 : decode cX12_track 95 = .ok (.dastore, 1) := by decide +kernel
theorem dX12_track_96 : decode cX12_track 96 = .ok (.iinc 4 1, 3) := by decide +kernel
theorem dX12_track_99 : decode cX12_track 99 = .ok (.goto (-31), 3) := by decide +kernel
theorem dX12_track_102 : decode cX12_track 102 = .ok (.iconst 1, 1) := by decide +kernel
theorem dX12_track_103 : decode cX12_track 103 = .ok (.ireturn, 1) := by decide +kernel
theorem dX12_barred_0 : decode cX12_barred 0 = .ok (.iload_n 1, 1) := by decide +kernel
theorem dX12_barred_1 : decode cX12_barred 1 = .ok (.invokestatic 463, 3) := by decide +kernel
theorem dX12_barred_4 : decode cX12_barred 4 = .ok (.ifCond .ne 5, 3) := by decide +kernel
theorem dX12_barred_7 : decode cX12_barred 7 = .ok (.iconst (-1), 1) := by decide +kernel
theorem dX12_barred_8 : decode cX12_barred 8 = .ok (.ireturn, 1) := by decide +kernel
theorem dX12_barred_9 : decode cX12_barred 9 = .ok (.aload_n 0, 1) := by decide +kernel
theorem dX12_barred_10 : decode cX12_barred 10 = .ok (.getfield 107, 3) := by decide +kernel
theorem dX12_barred_13 : decode cX12_barred 13 = .ok (.iload_n 1, 1) := by decide +kernel
theorem dX12_barred_14 : decode cX12_barred 14 = .ok (.iaload, 1) := by decide +kernel
theorem dX12_barred_15 : decode cX12_barred 15 = .ok (.ifCond .ge 6, 3) := by decide +kernel
theorem dX12_barred_18 : decode cX12_barred 18 = .ok (.bipush (-6), 2) := by decide +kernel
theorem dX12_barred_20 : decode cX12_barred 20 = .ok (.ireturn, 1) := by decide +kernel
theorem dX12_barred_21 : decode cX12_barred 21 = .ok (.iload_n 2, 1) := by decide +kernel
theorem dX12_barred_22 : decode cX12_barred 22 = .ok (.i2l, 1) := by decide +kernel
theorem dX12_barred_23 : decode cX12_barred 23 = .ok (.lconst 0, 1) := by decide +kernel
theorem dX12_barred_24 : decode cX12_barred 24 = .ok (.aload_n 0, 1) := by decide +kernel
theorem dX12_barred_25 : decode cX12_barred 25 = .ok (.getfield 110, 3) := by decide +kernel
theorem dX12_barred_28 : decode cX12_barred 28 = .ok (.iload_n 1, 1) := by decide +kernel
theorem dX12_barred_29 : decode cX12_barred 29 = .ok (.iaload, 1) := by decide +kernel
theorem dX12_barred_30 : decode cX12_barred 30 = .ok (.iconst 1, 1) := by decide +kernel
theorem dX12_barred_31 : decode cX12_barred 31 = .ok (.isub, 1) := by decide +kernel
theorem dX12_barred_32 : decode cX12_barred 32 = .ok (.i2l, 1) := by decide +kernel
theorem dX12_barred_33 : decode cX12_barred 33 = .ok (.invokestatic 161, 3) := by decide +kernel
theorem dX12_barred_36 : decode cX12_barred 36 = .ok (.ifCond .eq 7, 3) := by decide +kernel
theorem dX12_barred_39 : decode cX12_barred 39 = .ok (.iconst 0, 1) := by decide +kernel
theorem dX12_barred_40 : decode cX12_barred 40 = .ok (.goto 5, 3) := by decide +kernel
theorem dX12_barred_43 : decode cX12_barred 43 = .ok (.bipush (-7), 2) := by decide +kernel
theorem dX12_barred_45 : decode cX12_barred 45 = .ok (.ireturn, 1) := by decide +kernel
theorem dX12_put_0 : decode cX12_put 0 = .ok (.aload_n 0, 1) := by decide +kernel
theorem dX12_put_1 : decode cX12_put 1 = .ok (.iload_n 1, 1) := by decide +kernel
theorem dX12_put_2 : decode cX12_put 2 = .ok (.iload_n 2, 1) := by decide +kernel
theorem dX12_put_3 : decode cX12_put 3 = .ok (.invokevirtual 468, 3) := by decide +kernel
theorem dX12_put_6 : decode cX12_put 6 = .ok (.istore 4, 2) := by decide +kernel
theorem dX12_put_8 : decode cX12_put 8 = .ok (.iload 4, 2) := by decide +kernel
theorem dX12_put_10 : decode cX12_put 10 = .ok (.ifCond .eq 6, 3) := by decide +kernel
theorem dX12_put_13 : decode cX12_put 13 = .ok (.iload 4, 2) := by decide +kernel
theorem dX12_put_15 : decode cX12_put 15 = .ok (.ireturn, 1) := by decide +kernel
theorem dX12_put_16 : decode cX12_put 16 = .ok (.aload_n 0, 1) := by decide +kernel
theorem dX12_put_17 : decode cX12_put 17 = .ok (.getfield 107, 3) := by decide +kernel
theorem dX12_put_20 : decode cX12_put 20 = .ok (.iload_n 1, 1) := by decide +kernel
theorem dX12_put_21 : decode cX12_put 21 = .ok (.iaload, 1) := by decide +kernel
theorem dX12_put_22 : decode cX12_put 22 = .ok (.ifCond .ne 23, 3) := by decide +kernel
theorem dX12_put_25 : decode cX12_put 25 = .ok (.aload_n 0, 1) := by decide +kernel
theorem dX12_put_26 : decode cX12_put 26 = .ok (.getfield 113, 3) := by decide +kernel
theorem dX12_put_29 : decode cX12_put 29 = .ok (.bipush 30, 2) := by decide +kernel
theorem dX12_put_31 : decode cX12_put 31 = .ok (.iload_n 1, 1) := by decide +kernel
theorem dX12_put_32 : decode cX12_put 32 = .ok (.imul, 1) := by decide +kernel
theorem dX12_put_33 : decode cX12_put 33 = .ok (.iload_n 2, 1) := by decide +kernel
theorem dX12_put_34 : decode cX12_put 34 = .ok (.iadd, 1) := by decide +kernel
theorem dX12_put_35 : decode cX12_put 35 = .ok (.iload_n 3, 1) := by decide +kernel
theorem dX12_put_36 : decode cX12_put 36 = .ok (.i2f, 1) := by decide +kernel
theorem dX12_put_37 : decode cX12_put 37 = .ok (.ldc_w 471, 3) := by decide +kernel
theorem dX12_put_40 : decode cX12_put 40 = .ok (.fdiv, 1) := by decide +kernel
theorem dX12_put_41 : decode cX12_put 41 = .ok (.fastore, 1) := by decide +kernel
theorem dX12_put_42 : decode cX12_put 42 = .ok (.goto 20, 3) := by decide +kernel
theorem dX12_put_45 : decode cX12_put 45 = .ok (.aload_n 0, 1) := by decide +kernel
theorem dX12_put_46 : decode cX12_put 46 = .ok (.getfield 117, 3) := by decide +kernel
theorem dX12_put_49 : decode cX12_put 49 = .ok (.bipush 30, 2) := by decide +kernel
theorem dX12_put_51 : decode cX12_put 51 = .ok (.iload_n 1, 1) := by decide +kernel
theorem dX12_put_52 : decode cX12_put 52 = .ok (.imul, 1) := by decide +kernel
theorem dX12_put_53 : decode cX12_put 53 = .ok (.iload_n 2, 1) := by decide +kernel
theorem dX12_put_54 : decode cX12_put 54 = .ok (.iadd, 1) := by decide +kernel
theorem dX12_put_55 : decode cX12_put 55 = .ok (.iload_n 3, 1) := by decide +kernel
theorem dX12_put_56 : decode cX12_put 56 = .ok (.i2d, 1) := by decide +kernel
theorem dX12_put_57 : decode cX12_put 57 = .ok (.ldc2_w 472, 3) := by decide +kernel
theorem dX12_put_60 : decode cX12_put 60 = .ok (.ddiv, 1) := by decide +kernel
theorem dX12_put_61 : decode cX12_put 61 = .ok (.dastore, 1) := by decide +kernel
theorem dX12_put_62 : decode cX12_put 62 = .ok (.iconst 1, 1) := by decide +kernel
theorem dX12_put_63 : decode cX12_put 63 = .ok (.ireturn, 1) := by decide +kernel
theorem dX12_putBits_0 : decode cX12_putBits 0 = .ok (.aload_n 0, 1) := by decide +kernel
theorem dX12_putBits_1 : decode cX12_putBits 1 = .ok (.iload_n 1, 1) := by decide +kernel
theorem dX12_putBits_2 : decode cX12_putBits 2 = .ok (.iload_n 2, 1) := by decide +kernel
theorem dX12_putBits_3 : decode cX12_putBits 3 = .ok (.invokevirtual 468, 3) := by decide +kernel
theorem dX12_putBits_6 : decode cX12_putBits 6 = .ok (.istore 5, 2) := by decide +kernel
theorem dX12_putBits_8 : decode cX12_putBits 8 = .ok (.iload 5, 2) := by decide +kernel
theorem dX12_putBits_10 : decode cX12_putBits 10 = .ok (.ifCond .eq 6, 3) := by decide +kernel
theorem dX12_putBits_13 : decode cX12_putBits 13 = .ok (.iload 5, 2) := by decide +kernel
theorem dX12_putBits_15 : decode cX12_putBits 15 = .ok (.ireturn, 1) := by decide +kernel
theorem dX12_putBits_16 : decode cX12_putBits 16 = .ok (.aload_n 0, 1) := by decide +kernel
theorem dX12_putBits_17 : decode cX12_putBits 17 = .ok (.getfield 107, 3) := by decide +kernel
theorem dX12_putBits_20 : decode cX12_putBits 20 = .ok (.iload_n 1, 1) := by decide +kernel
theorem dX12_putBits_21 : decode cX12_putBits 21 = .ok (.iaload, 1) := by decide +kernel
theorem dX12_putBits_22 : decode cX12_putBits 22 = .ok (.ifCond .ne 22, 3) := by decide +kernel
theorem dX12_putBits_25 : decode cX12_putBits 25 = .ok (.aload_n 0, 1) := by decide +kernel
theorem dX12_putBits_26 : decode cX12_putBits 26 = .ok (.getfield 113, 3) := by decide +kernel
theorem dX12_putBits_29 : decode cX12_putBits 29 = .ok (.bipush 30, 2) := by decide +kernel
theorem dX12_putBits_31 : decode cX12_putBits 31 = .ok (.iload_n 1, 1) := by decide +kernel
theorem dX12_putBits_32 : decode cX12_putBits 32 = .ok (.imul, 1) := by decide +kernel
theorem dX12_putBits_33 : decode cX12_putBits 33 = .ok (.iload_n 2, 1) := by decide +kernel
theorem dX12_putBits_34 : decode cX12_putBits 34 = .ok (.iadd, 1) := by decide +kernel
theorem dX12_putBits_35 : decode cX12_putBits 35 = .ok (.lload_n 3, 1) := by decide +kernel
theorem dX12_putBits_36 : decode cX12_putBits 36 = .ok (.l2i, 1) := by decide +kernel
theorem dX12_putBits_37 : decode cX12_putBits 37 = .ok (.invokestatic 474, 3) := by decide +kernel
theorem dX12_putBits_40 : decode cX12_putBits 40 = .ok (.fastore, 1) := by decide +kernel
theorem dX12_putBits_41 : decode cX12_putBits 41 = .ok (.goto 18, 3) := by decide +kernel
theorem dX12_putBits_44 : decode cX12_putBits 44 = .ok (.aload_n 0, 1) := by decide +kernel
theorem dX12_putBits_45 : decode cX12_putBits 45 = .ok (.getfield 117, 3) := by decide +kernel
theorem dX12_putBits_48 : decode cX12_putBits 48 = .ok (.bipush 30, 2) := by decide +kernel
theorem dX12_putBits_50 : decode cX12_putBits 50 = .ok (.iload_n 1, 1) := by decide +kernel
theorem dX12_putBits_51 : decode cX12_putBits 51 = .ok (.imul, 1) := by decide +kernel
theorem dX12_putBits_52 : decode cX12_putBits 52 = .ok (.iload_n 2, 1) := by decide +kernel
theorem dX12_putBits_53 : decode cX12_putBits 53 = .ok (.iadd, 1) := by decide +kernel
theorem dX12_putBits_54 : decode cX12_putBits 54 = .ok (.lload_n 3, 1) := by decide +kernel
theorem dX12_putBits_55 : decode cX12_putBits 55 = .ok (.invokestatic 478, 3) := by decide +kernel
theorem dX12_putBits_58 : decode cX12_putBits 58 = .ok (.dastore, 1) := by decide +kernel
theorem dX12_putBits_59 : decode cX12_putBits 59 = .ok (.iconst 1, 1) := by decide +kernel
theorem dX12_putBits_60 : decode cX12_putBits 60 = .ok (.ireturn, 1) := by decide +kernel
theorem dX12_item_0 : decode cX12_item 0 = .ok (.aload_n 0, 1) := by decide +kernel
theorem dX12_item_1 : decode cX12_item 1 = .ok (.iload_n 1, 1) := by decide +kernel
theorem dX12_item_2 : decode cX12_item 2 = .ok (.iload_n 2, 1) := by decide +kernel
theorem dX12_item_3 : decode cX12_item 3 = .ok (.invokevirtual 468, 3) := by decide +kernel
theorem dX12_item_6 : decode cX12_item 6 = .ok (.ifCond .eq 7, 3) := by decide +kernel
theorem dX12_item_9 : decode cX12_item 9 = .ok (.ldc2_w 137, 3) := by decide +kernel
theorem dX12_item_12 : decode cX12_item 12 = .ok (.lreturn, 1) := by decide +kernel
theorem dX12_item_13 : decode cX12_item 13 = .ok (.aload_n 0, 1) := by decide +kernel
theorem dX12_item_14 : decode cX12_item 14 = .ok (.getfield 107, 3) := by decide +kernel
theorem dX12_item_17 : decode cX12_item 17 = .ok (.iload_n 1, 1) := by decide +kernel
theorem dX12_item_18 : decode cX12_item 18 = .ok (.iaload, 1) := by decide +kernel
theorem dX12_item_19 : decode cX12_item 19 = .ok (.ifCond .ne 21, 3) := by decide +kernel
theorem dX12_item_22 : decode cX12_item 22 = .ok (.aload_n 0, 1) := by decide +kernel
theorem dX12_item_23 : decode cX12_item 23 = .ok (.getfield 113, 3) := by decide +kernel
theorem dX12_item_26 : decode cX12_item 26 = .ok (.bipush 30, 2) := by decide +kernel
theorem dX12_item_28 : decode cX12_item 28 = .ok (.iload_n 1, 1) := by decide +kernel
theorem dX12_item_29 : decode cX12_item 29 = .ok (.imul, 1) := by decide +kernel
theorem dX12_item_30 : decode cX12_item 30 = .ok (.iload_n 2, 1) := by decide +kernel
theorem dX12_item_31 : decode cX12_item 31 = .ok (.iadd, 1) := by decide +kernel
theorem dX12_item_32 : decode cX12_item 32 = .ok (.faload, 1) := by decide +kernel
theorem dX12_item_33 : decode cX12_item 33 = .ok (.invokestatic 431, 3) := by decide +kernel
theorem dX12_item_36 : decode cX12_item 36 = .ok (.i2l, 1) := by decide +kernel
theorem dX12_item_37 : decode cX12_item 37 = .ok (.goto 17, 3) := by decide +kernel
theorem dX12_item_40 : decode cX12_item 40 = .ok (.aload_n 0, 1) := by decide +kernel
theorem dX12_item_41 : decode cX12_item 41 = .ok (.getfield 117, 3) := by decide +kernel
theorem dX12_item_44 : decode cX12_item 44 = .ok (.bipush 30, 2) := by decide +kernel
theorem dX12_item_46 : decode cX12_item 46 = .ok (.iload_n 1, 1) := by decide +kernel
theorem dX12_item_47 : decode cX12_item 47 = .ok (.imul, 1) := by decide +kernel
theorem dX12_item_48 : decode cX12_item 48 = .ok (.iload_n 2, 1) := by decide +kernel
theorem dX12_item_49 : decode cX12_item 49 = .ok (.iadd, 1) := by decide +kernel
theorem dX12_item_50 : decode cX12_item 50 = .ok (.daload, 1) := by decide +kernel
theorem dX12_item_51 : decode cX12_item 51 = .ok (.invokestatic 425, 3) := by decide +kernel
theorem dX12_item_54 : decode cX12_item 54 = .ok (.lreturn, 1) := by decide +kernel
theorem dX12_changed_0 : decode cX12_changed 0 = .ok (.fload_n 1, 1) := by decide +kernel
theorem dX12_changed_1 : decode cX12_changed 1 = .ok (.aload_n 0, 1) := by decide +kernel
theorem dX12_changed_2 : decode cX12_changed 2 = .ok (.getfield 22, 3) := by decide +kernel
theorem dX12_changed_5 : decode cX12_changed 5 = .ok (.iload_n 2, 1) := by decide +kernel
theorem dX12_changed_6 : decode cX12_changed 6 = .ok (.laload, 1) := by decide +kernel
theorem dX12_changed_7 : decode cX12_changed 7 = .ok (.l2f, 1) := by decide +kernel
theorem dX12_changed_8 : decode cX12_changed 8 = .ok (.fmul, 1) := by decide +kernel
theorem dX12_changed_9 : decode cX12_changed 9 = .ok (.fstore 4, 2) := by decide +kernel
theorem dX12_changed_11 : decode cX12_changed 11 = .ok (.fload 4, 2) := by decide +kernel
theorem dX12_changed_13 : decode cX12_changed 13 = .ok (.aload_n 0, 1) := by decide +kernel
theorem dX12_changed_14 : decode cX12_changed 14 = .ok (.getfield 26, 3) := by decide +kernel
theorem dX12_changed_17 : decode cX12_changed 17 = .ok (.iload_n 2, 1) := by decide +kernel
theorem dX12_changed_18 : decode cX12_changed 18 = .ok (.laload, 1) := by decide +kernel
theorem dX12_changed_19 : decode cX12_changed 19 = .ok (.l2f, 1) := by decide +kernel
theorem dX12_changed_20 : decode cX12_changed 20 = .ok (.fdiv, 1) := by decide +kernel
theorem dX12_changed_21 : decode cX12_changed 21 = .ok (.fstore 4, 2) := by decide +kernel
theorem dX12_changed_23 : decode cX12_changed 23 = .ok (.fload 4, 2) := by decide +kernel
theorem dX12_changed_25 : decode cX12_changed 25 = .ok (.aload_n 0, 1) := by decide +kernel
theorem dX12_changed_26 : decode cX12_changed 26 = .ok (.getfield 29, 3) := by decide +kernel
theorem dX12_changed_29 : decode cX12_changed 29 = .ok (.iload_n 2, 1) := by decide +kernel
theorem dX12_changed_30 : decode cX12_changed 30 = .ok (.laload, 1) := by decide +kernel
theorem dX12_changed_31 : decode cX12_changed 31 = .ok (.l2f, 1) := by decide +kernel
theorem dX12_changed_32 : decode cX12_changed 32 = .ok (.aload_n 0, 1) := by decide +kernel
theorem dX12_changed_33 : decode cX12_changed 33 = .ok (.getfield 32, 3) := by decide +kernel
theorem dX12_changed_36 : decode cX12_changed 36 = .ok (.iload_n 2, 1) := by decide +kernel
theorem dX12_changed_37 : decode cX12_changed 37 = .ok (.laload, 1) := by decide +kernel
theorem dX12_changed_38 : decode cX12_changed 38 = .ok (.l2f, 1) := by decide +kernel
theorem dX12_changed_39 : decode cX12_changed 39 = .ok (.fdiv, 1) := by decide +kernel
theorem dX12_changed_40 : decode cX12_changed 40 = .ok (.fadd, 1) := by decide +kernel
theorem dX12_changed_41 : decode cX12_changed 41 = .ok (.fstore 4, 2) := by decide +kernel
theorem dX12_changed_43 : decode cX12_changed 43 = .ok (.fload 4, 2) := by decide +kernel
theorem dX12_changed_45 : decode cX12_changed 45 = .ok (.aload_n 0, 1) := by decide +kernel
theorem dX12_changed_46 : decode cX12_changed 46 = .ok (.getfield 29, 3) := by decide +kernel
theorem dX12_changed_49 : decode cX12_changed 49 = .ok (.iload_n 3, 1) := by decide +kernel
theorem dX12_changed_50 : decode cX12_changed 50 = .ok (.laload, 1) := by decide +kernel
theorem dX12_changed_51 : decode cX12_changed 51 = .ok (.l2f, 1) := by decide +kernel
theorem dX12_changed_52 : decode cX12_changed 52 = .ok (.aload_n 0, 1) := by decide +kernel
theorem dX12_changed_53 : decode cX12_changed 53 = .ok (.getfield 32, 3) := by decide +kernel
theorem dX12_changed_56 : decode cX12_changed 56 = .ok (.iload_n 3, 1) := by decide +kernel
theorem dX12_changed_57 : decode cX12_changed 57 = .ok (.laload, 1) := by decide +kernel
theorem dX12_changed_58 : decode cX12_changed 58 = .ok (.l2f, 1) := by decide +kernel
theorem dX12_changed_59 : decode cX12_changed 59 = .ok (.fdiv, 1) := by decide +kernel
theorem dX12_changed_60 : decode cX12_changed 60 = .ok (.fsub, 1) := by decide +kernel
theorem dX12_changed_61 : decode cX12_changed 61 = .ok (.fstore 4, 2) := by decide +kernel
theorem dX12_changed_63 : decode cX12_changed 63 = .ok (.fload 4, 2) := by decide +kernel
theorem dX12_changed_65 : decode cX12_changed 65 = .ok (.aload_n 0, 1) := by decide +kernel
theorem dX12_changed_66 : decode cX12_changed 66 = .ok (.getfield 26, 3) := by decide +kernel
theorem dX12_changed_69 : decode cX12_changed 69 = .ok (.iload_n 3, 1) := by decide +kernel
theorem dX12_changed_70 : decode cX12_changed 70 = .ok (.laload, 1) := by decide +kernel
theorem dX12_changed_71 : decode cX12_changed 71 = .ok (.l2f, 1) := by decide +kernel
theorem dX12_changed_72 : decode cX12_changed 72 = .ok (.fmul, 1) := by decide +kernel
theorem dX12_changed_73 : decode cX12_changed 73 = .ok (.fstore 4, 2) := by decide +kernel
theorem dX12_changed_75 : decode cX12_changed 75 = .ok (.fload 4, 2) := by decide +kernel
theorem dX12_changed_77 : decode cX12_changed 77 = .ok (.aload_n 0, 1) := by decide +kernel
theorem dX12_changed_78 : decode cX12_changed 78 = .ok (.getfield 22, 3) := by decide +kernel
theorem dX12_changed_81 : decode cX12_changed 81 = .ok (.iload_n 3, 1) := by decide +kernel
theorem dX12_changed_82 : decode cX12_changed 82 = .ok (.laload, 1) := by decide +kernel
theorem dX12_changed_83 : decode cX12_changed 83 = .ok (.l2f, 1) := by decide +kernel
theorem dX12_changed_84 : decode cX12_changed 84 = .ok (.fdiv, 1) := by decide +kernel
theorem dX12_changed_85 : decode cX12_changed 85 = .ok (.freturn, 1) := by decide +kernel
theorem dX12_changedWide_0 : decode cX12_changedWide 0 = .ok (.dload_n 1, 1) := by decide +kernel
theorem dX12_changedWide_1 : decode cX12_changedWide 1 = .ok (.aload_n 0, 1) := by decide +kernel
theorem dX12_changedWide_2 : decode cX12_changedWide 2 = .ok (.getfield 22, 3) := by decide +kernel
theorem dX12_changedWide_5 : decode cX12_changedWide 5 = .ok (.iload_n 3, 1) := by decide +kernel
theorem dX12_changedWide_6 : decode cX12_changedWide 6 = .ok (.laload, 1) := by decide +kernel
theorem dX12_changedWide_7 : decode cX12_changedWide 7 = .ok (.l2d, 1) := by decide +kernel
theorem dX12_changedWide_8 : decode cX12_changedWide 8 = .ok (.dmul, 1) := by decide +kernel
theorem dX12_changedWide_9 : decode cX12_changedWide 9 = .ok (.dstore 5, 2) := by decide +kernel
theorem dX12_changedWide_11 : decode cX12_changedWide 11 = .ok (.dload 5, 2) := by decide +kernel
theorem dX12_changedWide_13 : decode cX12_changedWide 13 = .ok (.aload_n 0, 1) := by decide +kernel
theorem dX12_changedWide_14 : decode cX12_changedWide 14 = .ok (.getfield 26, 3) := by decide +kernel
theorem dX12_changedWide_17 : decode cX12_changedWide 17 = .ok (.iload_n 3, 1) := by decide +kernel
theorem dX12_changedWide_18 : decode cX12_changedWide 18 = .ok (.laload, 1) := by decide +kernel
theorem dX12_changedWide_19 : decode cX12_changedWide 19 = .ok (.l2d, 1) := by decide +kernel
theorem dX12_changedWide_20 : decode cX12_changedWide 20 = .ok (.ddiv, 1) := by decide +kernel
theorem dX12_changedWide_21 : decode cX12_changedWide 21 = .ok (.dstore 5, 2) := by decide +kernel
theorem dX12_changedWide_23 : decode cX12_changedWide 23 = .ok (.dload 5, 2) := by decide +kernel
theorem dX12_changedWide_25 : decode cX12_changedWide 25 = .ok (.aload_n 0, 1) := by decide +kernel
theorem dX12_changedWide_26 : decode cX12_changedWide 26 = .ok (.getfield 29, 3) := by decide +kernel
theorem dX12_changedWide_29 : decode cX12_changedWide 29 = .ok (.iload_n 3, 1) := by decide +kernel
theorem dX12_changedWide_30 : decode cX12_changedWide 30 = .ok (.laload, 1) := by decide +kernel
theorem dX12_changedWide_31 : decode cX12_changedWide 31 = .ok (.l2d, 1) := by decide +kernel
theorem dX12_changedWide_32 : decode cX12_changedWide 32 = .ok (.aload_n 0, 1) := by decide +kernel
theorem dX12_changedWide_33 : decode cX12_changedWide 33 = .ok (.getfield 32, 3) := by decide +kernel
theorem dX12_changedWide_36 : decode cX12_changedWide 36 = .ok (.iload_n 3, 1) := by decide +kernel
theorem dX12_changedWide_37 : decode cX12_changedWide 37 = .ok (.laload, 1) := by decide +kernel
theorem dX12_changedWide_38 : decode cX12_changedWide 38 = .ok (.l2d, 1) := by decide +kernel
theorem dX12_changedWide_39 : decode cX12_changedWide 39 = .ok (.ddiv, 1) := by decide +kernel
theorem dX12_changedWide_40 : decode cX12_changedWide 40 = .ok (.dadd, 1) := by decide +kernel
theorem dX12_changedWide_41 : decode cX12_changedWide 41 = .ok (.dstore 5, 2) := by decide +kernel
theorem dX12_changedWide_43 : decode cX12_changedWide 43 = .ok (.dload 5, 2) := by decide +kernel
theorem dX12_changedWide_45 : decode cX12_changedWide 45 = .ok (.aload_n 0, 1) := by decide +kernel
theorem dX12_changedWide_46 : decode cX12_changedWide 46 = .ok (.getfield 29, 3) := by decide +kernel
theorem dX12_changedWide_49 : decode cX12_changedWide 49 = .ok (.iload 4, 2) := by decide +kernel
theorem dX12_changedWide_51 : decode cX12_changedWide 51 = .ok (.laload, 1) := by decide +kernel
theorem dX12_changedWide_52 : decode cX12_changedWide 52 = .ok (.l2d, 1) := by decide +kernel
theorem dX12_changedWide_53 : decode cX12_changedWide 53 = .ok (.aload_n 0, 1) := by decide +kernel
theorem dX12_changedWide_54 : decode cX12_changedWide 54 = .ok (.getfield 32, 3) := by decide +kernel
theorem dX12_changedWide_57 : decode cX12_changedWide 57 = .ok (.iload 4, 2) := by decide +kernel
theorem dX12_changedWide_59 : decode cX12_changedWide 59 = .ok (.laload, 1) := by decide +kernel
theorem dX12_changedWide_60 : decode cX12_changedWide 60 = .ok (.l2d, 1) := by decide +kernel
theorem dX12_changedWide_61 : decode cX12_changedWide 61 = .ok (.ddiv, 1) := by decide +kernel
theorem dX12_changedWide_62 : decode cX12_changedWide 62 = .ok (.dsub, 1) := by decide +kernel
theorem dX12_changedWide_63 : decode cX12_changedWide 63 = .ok (.dstore 5, 2) := by decide +kernel
theorem dX12_changedWide_65 : decode cX12_changedWide 65 = .ok (.dload 5, 2) := by decide +kernel
theorem dX12_changedWide_67 : decode cX12_changedWide 67 = .ok (.aload_n 0, 1) := by decide +kernel
theorem dX12_changedWide_68 : decode cX12_changedWide 68 = .ok (.getfield 26, 3) := by decide +kernel
theorem dX12_changedWide_71 : decode cX12_changedWide 71 = .ok (.iload 4, 2) := by decide +kernel
theorem dX12_changedWide_73 : decode cX12_changedWide 73 = .ok (.laload, 1) := by decide +kernel
theorem dX12_changedWide_74 : decode cX12_changedWide 74 = .ok (.l2d, 1) := by decide +kernel
theorem dX12_changedWide_75 : decode cX12_changedWide 75 = .ok (.dmul, 1) := by decide +kernel
theorem dX12_changedWide_76 : decode cX12_changedWide 76 = .ok (.dstore 5, 2) := by decide +kernel
theorem dX12_changedWide_78 : decode cX12_changedWide 78 = .ok (.dload 5, 2) := by decide +kernel
theorem dX12_changedWide_80 : decode cX12_changedWide 80 = .ok (.aload_n 0, 1) := by decide +kernel
theorem dX12_changedWide_81 : decode cX12_changedWide 81 = .ok (.getfield 22, 3) := by decide +kernel
theorem dX12_changedWide_84 : decode cX12_changedWide 84 = .ok (.iload 4, 2) := by decide +kernel
theorem dX12_changedWide_86 : decode cX12_changedWide 86 = .ok (.laload, 1) := by decide +kernel
theorem dX12_changedWide_87 : decode cX12_changedWide 87 = .ok (.l2d, 1) := by decide +kernel
theorem dX12_changedWide_88 : decode cX12_changedWide 88 = .ok (.ddiv, 1) := by decide +kernel
theorem dX12_changedWide_89 : decode cX12_changedWide 89 = .ok (.dreturn, 1) := by decide +kernel
theorem dX12_change_0 : decode cX12_change 0 = .ok (.iload_n 1, 1) := by decide +kernel
theorem dX12_change_1 : decode cX12_change 1 = .ok (.invokestatic 463, 3) := by decide +kernel
theorem dX12_change_4 : decode cX12_change 4 = .ok (.ifCond .eq 19, 3) := by decide +kernel
theorem dX12_change_7 : decode cX12_change 7 = .ok (.aload_n 0, 1) := by decide +kernel
theorem dX12_change_8 : decode cX12_change 8 = .ok (.iload_n 2, 1) := by decide +kernel
theorem dX12_change_9 : decode cX12_change 9 = .ok (.invokevirtual 283, 3) := by decide +kernel
theorem dX12_change_12 : decode cX12_change 12 = .ok (.ifCond .eq 11, 3) := by decide +kernel
theorem dX12_change_15 : decode cX12_change 15 = .ok (.aload_n 0, 1) := by decide +kernel
theorem dX12_change_16 : decode cX12_change 16 = .ok (.iload_n 3, 1) := by decide +kernel
theorem dX12_change_17 : decode cX12_change 17 = .ok (.invokevirtual 283, 3) := by decide +kernel
theorem dX12_change_20 : decode cX12_change 20 = .ok (.ifCond .ne 5, 3) := by decide +kernel
theorem dX12_change_23 : decode cX12_change 23 = .ok (.iconst (-1), 1) := by decide +kernel
theorem dX12_change_24 : decode cX12_change 24 = .ok (.ireturn, 1) := by decide +kernel
theorem dX12_change_25 : decode cX12_change 25 = .ok (.aload_n 0, 1) := by decide +kernel
theorem dX12_change_26 : decode cX12_change 26 = .ok (.getfield 107, 3) := by decide +kernel
theorem dX12_change_29 : decode cX12_change 29 = .ok (.iload_n 1, 1) := by decide +kernel
theorem dX12_change_30 : decode cX12_change 30 = .ok (.iaload, 1) := by decide +kernel
theorem dX12_change_31 : decode cX12_change 31 = .ok (.ifCond .ge 6, 3) := by decide +kernel
theorem dX12_change_34 : decode cX12_change 34 = .ok (.bipush (-6), 2) := by decide +kernel
theorem dX12_change_36 : decode cX12_change 36 = .ok (.ireturn, 1) := by decide +kernel
theorem dX12_change_37 : decode cX12_change 37 = .ok (.aload_n 0, 1) := by decide +kernel
theorem dX12_change_38 : decode cX12_change 38 = .ok (.iload_n 2, 1) := by decide +kernel
theorem dX12_change_39 : decode cX12_change 39 = .ok (.iload_n 3, 1) := by decide +kernel
theorem dX12_change_40 : decode cX12_change 40 = .ok (.invokevirtual 295, 3) := by decide +kernel
theorem dX12_change_43 : decode cX12_change 43 = .ok (.ifCond .ne 6, 3) := by decide +kernel
theorem dX12_change_46 : decode cX12_change 46 = .ok (.bipush (-13), 2) := by decide +kernel
theorem dX12_change_48 : decode cX12_change 48 = .ok (.ireturn, 1) := by decide +kernel
theorem dX12_change_49 : decode cX12_change 49 = .ok (.bipush 30, 2) := by decide +kernel
theorem dX12_change_51 : decode cX12_change 51 = .ok (.iload_n 1, 1) := by decide +kernel
theorem dX12_change_52 : decode cX12_change 52 = .ok (.imul, 1) := by decide +kernel
theorem dX12_change_53 : decode cX12_change 53 = .ok (.istore 4, 2) := by decide +kernel
theorem dX12_change_55 : decode cX12_change 55 = .ok (.iload 4, 2) := by decide +kernel
theorem dX12_change_57 : decode cX12_change 57 = .ok (.bipush 30, 2) := by decide +kernel
theorem dX12_change_59 : decode cX12_change 59 = .ok (.iload_n 1, 1) := by decide +kernel
theorem dX12_change_60 : decode cX12_change 60 = .ok (.imul, 1) := by decide +kernel
theorem dX12_change_61 : decode cX12_change 61 = .ok (.aload_n 0, 1) := by decide +kernel
theorem dX12_change_62 : decode cX12_change 62 = .ok (.getfield 110, 3) := by decide +kernel
theorem dX12_change_65 : decode cX12_change 65 = .ok (.iload_n 1, 1) := by decide +kernel
theorem dX12_change_66 : decode cX12_change 66 = .ok (.iaload, 1) := by decide +kernel
theorem dX12_change_67 : decode cX12_change 67 = .ok (.iadd, 1) := by decide +kernel
theorem dX12_change_68 : decode cX12_change 68 = .ok (.if_icmp .ge 61, 3) := by decide +kernel
theorem dX12_change_71 : decode cX12_change 71 = .ok (.aload_n 0, 1) := by decide +kernel
theorem dX12_change_72 : decode cX12_change 72 = .ok (.getfield 107, 3) := by decide +kernel
theorem dX12_change_75 : decode cX12_change 75 = .ok (.iload_n 1, 1) := by decide +kernel
theorem dX12_change_76 : decode cX12_change 76 = .ok (.iaload, 1) := by decide +kernel
theorem dX12_change_77 : decode cX12_change 77 = .ok (.ifCond .ne 26, 3) := by decide +kernel
theorem dX12_change_80 : decode cX12_change 80 = .ok (.aload_n 0, 1) := by decide +kernel
theorem dX12_change_81 : decode cX12_change 81 = .ok (.getfield 113, 3) := by decide +kernel
theorem dX12_change_84 : decode cX12_change 84 = .ok (.iload 4, 2) := by decide +kernel
theorem dX12_change_86 : decode cX12_change 86 = .ok (.aload_n 0, 1) := by decide +kernel
theorem dX12_change_87 : decode cX12_change 87 = .ok (.aload_n 0, 1) := by decide +kernel
theorem dX12_change_88 : decode cX12_change 88 = .ok (.getfield 113, 3) := by decide +kernel
theorem dX12_change_91 : decode cX12_change 91 = .ok (.iload 4, 2) := by decide +kernel
theorem dX12_change_93 : decode cX12_change 93 = .ok (.faload, 1) := by decide +kernel
theorem dX12_change_94 : decode cX12_change 94 = .ok (.iload_n 2, 1) := by decide +kernel
theorem dX12_change_95 : decode cX12_change 95 = .ok (.iload_n 3, 1) := by decide +kernel
theorem dX12_change_96 : decode cX12_change 96 = .ok (.invokevirtual 482, 3) := by decide +kernel
theorem dX12_change_99 : decode cX12_change 99 = .ok (.fastore, 1) := by decide +kernel
theorem dX12_change_100 : decode cX12_change 100 = .ok (.goto 23, 3) := by decide +kernel
theorem dX12_change_103 : decode cX12_change 103 = .ok (.aload_n 0, 1) := by decide +kernel
theorem dX12_change_104 : decode cX12_change 104 = .ok (.getfield 117, 3) := by decide +kernel
theorem dX12_change_107 : decode cX12_change 107 = .ok (.iload 4, 2) := by decide +kernel
theorem dX12_change_109 : decode cX12_change 109 = .ok (.aload_n 0, 1) := by decide +kernel
theorem dX12_change_110 : decode cX12_change 110 = .ok (.aload_n 0, 1) := by decide +kernel
theorem dX12_change_111 : decode cX12_change 111 = .ok (.getfield 117, 3) := by decide +kernel
theorem dX12_change_114 : decode cX12_change 114 = .ok (.iload 4, 2) := by decide +kernel
theorem dX12_change_116 : decode cX12_change 116 = .ok (.daload, 1) := by decide +kernel
theorem dX12_change_117 : decode cX12_change 117 = .ok (.iload_n 2, 1) := by decide +kernel
theorem dX12_change_118 : decode cX12_change 118 = .ok (.iload_n 3, 1) := by decide +kernel
theorem dX12_change_119 : decode cX12_change 119 = .ok (.invokevirtual 486, 3) := by decide +kernel
theorem dX12_change_122 : decode cX12_change 122 = .ok (.dastore, 1) := by decide +kernel
theorem dX12_change_123 : decode cX12_change 123 = .ok (.iinc 4 1, 3) := by decide +kernel
theorem dX12_change_126 : decode cX12_change 126 = .ok (.goto (-71), 3) := by decide +kernel
theorem dX12_change_129 : decode cX12_change 129 = .ok (.aload_n 0, 1) := by decide +kernel
theorem dX12_change_130 : decode cX12_change 130 = .ok (.getfield 110, 3) := by decide +kernel
theorem dX12_change_133 : decode cX12_change 133 = .ok (.iload_n 1, 1) := by decide +kernel
theorem dX12_change_134 : decode cX12_change 134 = .ok (.iaload, 1) := by decide +kernel
theorem dX12_change_135 : decode cX12_change 135 = .ok (.ireturn, 1) := by decide +kernel
theorem dX12_added__0 : decode cX12_added_ 0 = .ok (.iload_n 1, 1) := by decide +kernel
theorem dX12_added__1 : decode cX12_added_ 1 = .ok (.invokestatic 463, 3) := by decide +kernel
theorem dX12_added__4 : decode cX12_added_ 4 = .ok (.ifCond .eq 12, 3) := by decide +kernel
theorem dX12_added__7 : decode cX12_added_ 7 = .ok (.aload_n 0, 1) := by decide +kernel
theorem dX12_added__8 : decode cX12_added_ 8 = .ok (.getfield 107, 3) := by decide +kernel
theorem dX12_added__11 : decode cX12_added_ 11 = .ok (.iload_n 1, 1) := by decide +kernel
theorem dX12_added__12 : decode cX12_added_ 12 = .ok (.iaload, 1) := by decide +kernel
theorem dX12_added__13 : decode cX12_added_ 13 = .ok (.ifCond .ge 7, 3) := by decide +kernel
theorem dX12_added__16 : decode cX12_added_ 16 = .ok (.ldc2_w 137, 3) := by decide +kernel
theorem dX12_added__19 : decode cX12_added_ 19 = .ok (.lreturn, 1) := by decide +kernel
theorem dX12_added__20 : decode cX12_added_ 20 = .ok (.fconst 0, 1) := by decide +kernel
theorem dX12_added__21 : decode cX12_added_ 21 = .ok (.fstore_n 2, 1) := by decide +kernel
theorem dX12_added__22 : decode cX12_added_ 22 = .ok (.dconst 0, 1) := by decide +kernel
theorem dX12_added__23 : decode cX12_added_ 23 = .ok (.dstore_n 3, 1) := by decide +kernel
theorem dX12_added__24 : decode cX12_added_ 24 = .ok (.bipush 30, 2) := by decide +kernel
theorem dX12_added__26 : decode cX12_added_ 26 = .ok (.iload_n 1, 1) := by decide +kernel
theorem dX12_added__27 : decode cX12_added_ 27 = .ok (.imul, 1) := by decide +kernel
theorem dX12_added__28 : decode cX12_added_ 28 = .ok (.istore 5, 2) := by decide +kernel
theorem dX12_added__30 : decode cX12_added_ 30 = .ok (.iload 5, 2) := by decide +kernel
theorem dX12_added__32 : decode cX12_added_ 32 = .ok (.bipush 30, 2) := by decide +kernel
theorem dX12_added__34 : decode cX12_added_ 34 = .ok (.iload_n 1, 1) := by decide +kernel
theorem dX12_added__35 : decode cX12_added_ 35 = .ok (.imul, 1) := by decide +kernel
theorem dX12_added__36 : decode cX12_added_ 36 = .ok (.aload_n 0, 1) := by decide +kernel
theorem dX12_added__37 : decode cX12_added_ 37 = .ok (.getfield 110, 3) := by decide +kernel
theorem dX12_added__40 : decode cX12_added_ 40 = .ok (.iload_n 1, 1) := by decide +kernel
theorem dX12_added__41 : decode cX12_added_ 41 = .ok (.iaload, 1) := by decide +kernel
theorem dX12_added__42 : decode cX12_added_ 42 = .ok (.iadd, 1) := by decide +kernel
theorem dX12_added__43 : decode cX12_added_ 43 = .ok (.if_icmp .ge 29, 3) := by decide +kernel
theorem dX12_added__46 : decode cX12_added_ 46 = .ok (.fload_n 2, 1) := by decide +kernel
theorem dX12_added__47 : decode cX12_added_ 47 = .ok (.aload_n 0, 1) := by decide +kernel
theorem dX12_added__48 : decode cX12_added_ 48 = .ok (.getfield 113, 3) := by decide +kernel
theorem dX12_added__51 : decode cX12_added_ 51 = .ok (.iload 5, 2) := by decide +kernel
theorem dX12_added__53 : decode cX12_added_ 53 = .ok (.faload, 1) := by decide +kernel
theorem dX12_added__54 : decode cX12_added_ 54 = .ok (.fadd, 1) := by decide +kernel
theorem dX12_added__55 : decode cX12_added_ 55 = .ok (.fstore_n 2, 1) := by decide +kernel
theorem dX12_added__56 : decode cX12_added_ 56 = .ok (.dload_n 3, 1) := by decide +kernel
theorem dX12_added__57 : decode cX12_added_ 57 = .ok (.aload_n 0, 1) := by decide +kernel
theorem dX12_added__58 : decode cX12_added_ 58 = .ok (.getfield 117, 3) := by decide +kernel
theorem dX12_added__61 : decode cX12_added_ 61 = .ok (.iload 5, 2) := by decide +kernel
theorem dX12_added__63 : decode cX12_added_ 63 = .ok (.daload, 1) := by decide +kernel
theorem dX12_added__64 : decode cX12_added_ 64 = .ok (.dadd, 1) := by decide +kernel
theorem dX12_added__65 : decode cX12_added_ 65 = .ok (.dstore_n 3, 1) := by decide +kernel
theorem dX12_added__66 : decode cX12_added_ 66 = .ok (.iinc 5 1, 3) := by decide +kernel
theorem dX12_added__69 : decode cX12_added_ 69 = .ok (.goto (-39), 3) := by decide +kernel
theorem dX12_added__72 : decode cX12_added_ 72 = .ok (.aload_n 0, 1) := by decide +kernel
theorem dX12_added__73 : decode cX12_added_ 73 = .ok (.getfield 107, 3) := by decide +kernel
theorem dX12_added__76 : decode cX12_added_ 76 = .ok (.iload_n 1, 1) := by decide +kernel
theorem dX12_added__77 : decode cX12_added_ 77 = .ok (.iaload, 1) := by decide +kernel
theorem dX12_added__78 : decode cX12_added_ 78 = .ok (.ifCond .ne 11, 3) := by decide +kernel
theorem dX12_added__81 : decode cX12_added_ 81 = .ok (.fload_n 2, 1) := by decide +kernel
theorem dX12_added__82 : decode cX12_added_ 82 = .ok (.invokestatic 431, 3) := by decide +kernel
theorem dX12_added__85 : decode cX12_added_ 85 = .ok (.i2l, 1) := by decide +kernel
theorem dX12_added__86 : decode cX12_added_ 86 = .ok (.goto 7, 3) := by decide +kernel
theorem dX12_added__89 : decode cX12_added_ 89 = .ok (.dload_n 3, 1) := by decide +kernel
theorem dX12_added__90 : decode cX12_added_ 90 = .ok (.invokestatic 425, 3) := by decide +kernel
theorem dX12_added__93 : decode cX12_added_ 93 = .ok (.lreturn, 1) := by decide +kernel
theorem dX12_cast_0 : decode cX12_cast 0 = .ok (.iload_n 3, 1) := by decide +kernel
theorem dX12_cast_1 : decode cX12_cast 1 = .ok (.i2l, 1) := by decide +kernel
theorem dX12_cast_2 : decode cX12_cast 2 = .ok (.lconst 0, 1) := by decide +kernel
theorem dX12_cast_3 : decode cX12_cast 3 = .ok (.ldc2_w 455, 3) := by decide +kernel
theorem dX12_cast_6 : decode cX12_cast 6 = .ok (.invokestatic 161, 3) := by decide +kernel
theorem dX12_cast_9 : decode cX12_cast 9 = .ok (.ifCond .eq 12, 3) := by decide +kernel
theorem dX12_cast_12 : decode cX12_cast 12 = .ok (.aload_n 0, 1) := by decide +kernel
theorem dX12_cast_13 : decode cX12_cast 13 = .ok (.iload_n 1, 1) := by decide +kernel
theorem dX12_cast_14 : decode cX12_cast 14 = .ok (.iload_n 2, 1) := by decide +kernel
theorem dX12_cast_15 : decode cX12_cast 15 = .ok (.invokevirtual 468, 3) := by decide +kernel
theorem dX12_cast_18 : decode cX12_cast 18 = .ok (.ifCond .eq 7, 3) := by decide +kernel
theorem dX12_cast_21 : decode cX12_cast 21 = .ok (.ldc2_w 137, 3) := by decide +kernel
theorem dX12_cast_24 : decode cX12_cast 24 = .ok (.lreturn, 1) := by decide +kernel
theorem dX12_cast_25 : decode cX12_cast 25 = .ok (.aload_n 0, 1) := by decide +kernel
theorem dX12_cast_26 : decode cX12_cast 26 = .ok (.getfield 113, 3) := by decide +kernel
theorem dX12_cast_29 : decode cX12_cast 29 = .ok (.bipush 30, 2) := by decide +kernel
theorem dX12_cast_31 : decode cX12_cast 31 = .ok (.iload_n 1, 1) := by decide +kernel
theorem dX12_cast_32 : decode cX12_cast 32 = .ok (.imul, 1) := by decide +kernel
theorem dX12_cast_33 : decode cX12_cast 33 = .ok (.iload_n 2, 1) := by decide +kernel
theorem dX12_cast_34 : decode cX12_cast 34 = .ok (.iadd, 1) := by decide +kernel
theorem dX12_cast_35 : decode cX12_cast 35 = .ok (.faload, 1) := by decide +kernel
theorem dX12_cast_36 : decode cX12_cast 36 = .ok (.fstore 4, 2) := by decide +kernel
theorem dX12_cast_38 : decode cX12_cast 38 = .ok (.aload_n 0, 1) := by decide +kernel
theorem dX12_cast_39 : decode cX12_cast 39 = .ok (.getfield 117, 3) := by decide +kernel
theorem dX12_cast_42 : decode cX12_cast 42 = .ok (.bipush 30, 2) := by decide +kernel
theorem dX12_cast_44 : decode cX12_cast 44 = .ok (.iload_n 1, 1) := by decide +kernel
theorem dX12_cast_45 : decode cX12_cast 45 = .ok (.imul, 1) := by decide +kernel
theorem dX12_cast_46 : decode cX12_cast 46 = .ok (.iload_n 2, 1) := by decide +kernel
theorem dX12_cast_47 : decode cX12_cast 47 = .ok (.iadd, 1) := by decide +kernel
theorem dX12_cast_48 : decode cX12_cast 48 = .ok (.daload, 1) := by decide +kernel
theorem dX12_cast_49 : decode cX12_cast 49 = .ok (.dstore 5, 2) := by decide +kernel
theorem dX12_cast_51 : decode cX12_cast 51 = .ok (.aload_n 0, 1) := by decide +kernel
theorem dX12_cast_52 : decode cX12_cast 52 = .ok (.getfield 107, 3) := by decide +kernel
theorem dX12_cast_55 : decode cX12_cast 55 = .ok (.iload_n 1, 1) := by decide +kernel
theorem dX12_cast_56 : decode cX12_cast 56 = .ok (.iaload, 1) := by decide +kernel
theorem dX12_cast_57 : decode cX12_cast 57 = .ok (.ifCond .ne 7, 3) := by decide +kernel
theorem dX12_cast_60 : decode cX12_cast 60 = .ok (.iconst 1, 1) := by decide +kernel
theorem dX12_cast_61 : decode cX12_cast 61 = .ok (.goto 4, 3) := by decide +kernel
theorem dX12_cast_64 : decode cX12_cast 64 = .ok (.iconst 0, 1) := by decide +kernel
theorem dX12_cast_65 : decode cX12_cast 65 = .ok (.istore 7, 2) := by decide +kernel
theorem dX12_cast_67 : decode cX12_cast 67 = .ok (.iload_n 3, 1) := by decide +kernel
theorem dX12_cast_68 : decode cX12_cast 68 = .ok (.iconst 3, 1) := by decide +kernel
theorem dX12_cast_69 : decode cX12_cast 69 = .ok (.if_icmp .ne 18, 3) := by decide +kernel
theorem dX12_cast_72 : decode cX12_cast 72 = .ok (.iload 7, 2) := by decide +kernel
theorem dX12_cast_74 : decode cX12_cast 74 = .ok (.ifCond .eq 9, 3) := by decide +kernel
theorem dX12_cast_77 : decode cX12_cast 77 = .ok (.fload 4, 2) := by decide +kernel
theorem dX12_cast_79 : decode cX12_cast 79 = .ok (.f2l, 1) := by decide +kernel
theorem dX12_cast_80 : decode cX12_cast 80 = .ok (.goto 6, 3) := by decide +kernel
theorem dX12_cast_83 : decode cX12_cast 83 = .ok (.dload 5, 2) := by decide +kernel
theorem dX12_cast_85 : decode cX12_cast 85 = .ok (.d2l, 1) := by decide +kernel
theorem dX12_cast_86 : decode cX12_cast 86 = .ok (.lreturn, 1) := by decide +kernel
theorem dX12_cast_87 : decode cX12_cast 87 = .ok (.iload 7, 2) := by decide +kernel
theorem dX12_cast_89 : decode cX12_cast 89 = .ok (.ifCond .eq 9, 3) := by decide +kernel
theorem dX12_cast_92 : decode cX12_cast 92 = .ok (.fload 4, 2) := by decide +kernel
theorem dX12_cast_94 : decode cX12_cast 94 = .ok (.f2i, 1) := by decide +kernel
theorem dX12_cast_95 : decode cX12_cast 95 = .ok (.goto 6, 3) := by decide +kernel
theorem dX12_cast_98 : decode cX12_cast 98 = .ok (.dload 5, 2) := by decide +kernel
theorem dX12_cast_100 : decode cX12_cast 100 = .ok (.d2i, 1) := by decide +kernel
theorem dX12_cast_101 : decode cX12_cast 101 = .ok (.istore 8, 2) := by decide +kernel
theorem dX12_cast_103 : decode cX12_cast 103 = .ok (.iload_n 3, 1) := by decide +kernel
theorem dX12_cast_104 : decode cX12_cast 104 = .ok (.ifCond .ne 9, 3) := by decide +kernel
theorem dX12_cast_107 : decode cX12_cast 107 = .ok (.iload 8, 2) := by decide +kernel
theorem dX12_cast_109 : decode cX12_cast 109 = .ok (.i2l, 1) := by decide +kernel
theorem dX12_cast_110 : decode cX12_cast 110 = .ok (.goto 19, 3) := by decide +kernel
theorem dX12_cast_113 : decode cX12_cast 113 = .ok (.iload_n 3, 1) := by decide +kernel
theorem dX12_cast_114 : decode cX12_cast 114 = .ok (.iconst 1, 1) := by decide +kernel
theorem dX12_cast_115 : decode cX12_cast 115 = .ok (.if_icmp .ne 10, 3) := by decide +kernel
theorem dX12_cast_118 : decode cX12_cast 118 = .ok (.iload 8, 2) := by decide +kernel
theorem dX12_cast_120 : decode cX12_cast 120 = .ok (.i2b, 1) := by decide +kernel
theorem dX12_cast_121 : decode cX12_cast 121 = .ok (.i2l, 1) := by decide +kernel
theorem dX12_cast_122 : decode cX12_cast 122 = .ok (.goto 7, 3) := by decide +kernel
theorem dX12_cast_125 : decode cX12_cast 125 = .ok (.iload 8, 2) := by decide +kernel
theorem dX12_cast_127 : decode cX12_cast 127 = .ok (.i2s, 1) := by decide +kernel
theorem dX12_cast_128 : decode cX12_cast 128 = .ok (.i2l, 1) := by decide +kernel
theorem dX12_cast_129 : decode cX12_cast 129 = .ok (.lreturn, 1) := by decide +kernel
theorem dX12_twin_0 : decode cX12_twin 0 = .ok (.iload_n 1, 1) := by decide +kernel
theorem dX12_twin_1 : decode cX12_twin 1 = .ok (.invokestatic 463, 3) := by decide +kernel
theorem dX12_twin_4 : decode cX12_twin 4 = .ok (.ifCond .eq 10, 3) := by decide +kernel
theorem dX12_twin_7 : decode cX12_twin 7 = .ok (.iload_n 2, 1) := by decide +kernel
theorem dX12_twin_8 : decode cX12_twin 8 = .ok (.invokestatic 463, 3) := by decide +kernel
theorem dX12_twin_11 : decode cX12_twin 11 = .ok (.ifCond .ne 5, 3) := by decide +kernel
theorem dX12_twin_14 : decode cX12_twin 14 = .ok (.iconst (-1), 1) := by decide +kernel
theorem dX12_twin_15 : decode cX12_twin 15 = .ok (.ireturn, 1) := by decide +kernel
theorem dX12_twin_16 : decode cX12_twin 16 = .ok (.aload_n 0, 1) := by decide +kernel
theorem dX12_twin_17 : decode cX12_twin 17 = .ok (.getfield 107, 3) := by decide +kernel
theorem dX12_twin_20 : decode cX12_twin 20 = .ok (.iload_n 2, 1) := by decide +kernel
theorem dX12_twin_21 : decode cX12_twin 21 = .ok (.iaload, 1) := by decide +kernel
theorem dX12_twin_22 : decode cX12_twin 22 = .ok (.ifCond .ge 6, 3) := by decide +kernel
theorem dX12_twin_25 : decode cX12_twin 25 = .ok (.bipush (-6), 2) := by decide +kernel
theorem dX12_twin_27 : decode cX12_twin 27 = .ok (.ireturn, 1) := by decide +kernel
theorem dX12_twin_28 : decode cX12_twin 28 = .ok (.aload_n 0, 1) := by decide +kernel
theorem dX12_twin_29 : decode cX12_twin 29 = .ok (.getfield 107, 3) := by decide +kernel
theorem dX12_twin_32 : decode cX12_twin 32 = .ok (.iload_n 1, 1) := by decide +kernel
theorem dX12_twin_33 : decode cX12_twin 33 = .ok (.aload_n 0, 1) := by decide +kernel
theorem dX12_twin_34 : decode cX12_twin 34 = .ok (.getfield 107, 3) := by decide +kernel
theorem dX12_twin_37 : decode cX12_twin 37 = .ok (.iload_n 2, 1) := by decide +kernel
theorem dX12_twin_38 : decode cX12_twin 38 = .ok (.iaload, 1) := by decide +kernel
theorem dX12_twin_39 : decode cX12_twin 39 = .ok (.iastore, 1) := by decide +kernel
theorem dX12_twin_40 : decode cX12_twin 40 = .ok (.aload_n 0, 1) := by decide +kernel
theorem dX12_twin_41 : decode cX12_twin 41 = .ok (.getfield 110, 3) := by decide +kernel
theorem dX12_twin_44 : decode cX12_twin 44 = .ok (.iload_n 1, 1) := by decide +kernel
theorem dX12_twin_45 : decode cX12_twin 45 = .ok (.aload_n 0, 1) := by decide +kernel
theorem dX12_twin_46 : decode cX12_twin 46 = .ok (.getfield 110, 3) := by decide +kernel
theorem dX12_twin_49 : decode cX12_twin 49 = .ok (.iload_n 2, 1) := by decide +kernel
theorem dX12_twin_50 : decode cX12_twin 50 = .ok (.iaload, 1) := by decide +kernel
theorem dX12_twin_51 : decode cX12_twin 51 = .ok (.iastore, 1) := by decide +kernel
theorem dX12_twin_52 : decode cX12_twin 52 = .ok (.iconst 0, 1) := by decide +kernel
theorem dX12_twin_53 : decode cX12_twin 53 = .ok (.istore_n 3, 1) := by decide +kernel
theorem dX12_twin_54 : decode cX12_twin 54 = .ok (.iload_n 3, 1) := by decide +kernel
theorem dX12_twin_55 : decode cX12_twin 55 = .ok (.bipush 30, 2) := by decide +kernel
theorem dX12_twin_57 : decode cX12_twin 57 = .ok (.if_icmp .ge 53, 3) := by decide +kernel
theorem dX12_twin_60 : decode cX12_twin 60 = .ok (.aload_n 0, 1) := by decide +kernel
theorem dX12_twin_61 : decode cX12_twin 61 = .ok (.getfield 113, 3) := by decide +kernel
theorem dX12_twin_64 : decode cX12_twin 64 = .ok (.bipush 30, 2) := by decide +kernel
theorem dX12_twin_66 : decode cX12_twin 66 = .ok (.iload_n 1, 1) := by decide +kernel
theorem dX12_twin_67 : decode cX12_twin 67 = .ok (.imul, 1) := by decide +kernel
theorem dX12_twin_68 : decode cX12_twin 68 = .ok (.iload_n 3, 1) := by decide +kernel
theorem dX12_twin_69 : decode cX12_twin 69 = .ok (.iadd, 1) := by decide +kernel
theorem dX12_twin_70 : decode cX12_twin 70 = .ok (.aload_n 0, 1) := by decide +kernel
theorem dX12_twin_71 : decode cX12_twin 71 = .ok (.getfield 113, 3) := by decide +kernel
theorem dX12_twin_74 : decode cX12_twin 74 = .ok (.bipush 30, 2) := by decide +kernel
theorem dX12_twin_76 : decode cX12_twin 76 = .ok (.iload_n 2, 1) := by decide +kernel
theorem dX12_twin_77 : decode cX12_twin 77 = .ok (.imul, 1) := by decide +kernel
theorem dX12_twin_78 : decode cX12_twin 78 = .ok (.iload_n 3, 1) := by decide +kernel
theorem dX12_twin_79 : decode cX12_twin 79 = .ok (.iadd, 1) := by decide +kernel
theorem dX12_twin_80 : decode cX12_twin 80 = .ok (.faload, 1) := by decide +kernel
theorem dX12_twin_81 : decode cX12_twin 81 = .ok (.fastore, 1) := by decide +kernel
theorem dX12_twin_82 : decode cX12_twin 82 = .ok (.aload_n 0, 1) := by decide +kernel
theorem dX12_twin_83 : decode cX12_twin 83 = .ok (.getfield 117, 3) := by decide +kernel
theorem dX12_twin_86 : decode cX12_twin 86 = .ok (.bipush 30, 2) := by decide +kernel
theorem dX12_twin_88 : decode cX12_twin 88 = .ok (.iload_n 1, 1) := by decide +kernel
theorem dX12_twin_89 : decode cX12_twin 89 = .ok (.imul, 1) := by decide +kernel
theorem dX12_twin_90 : decode cX12_twin 90 = .ok (.iload_n 3, 1) := by decide +kernel
theorem dX12_twin_91 : decode cX12_twin 91 = .ok (.iadd, 1) := by decide +kernel
theorem dX12_twin_92 : decode cX12_twin 92 = .ok (.aload_n 0, 1) := by decide +kernel
theorem dX12_twin_93 : decode cX12_twin 93 = .ok (.getfield 117, 3) := by decide +kernel
theorem dX12_twin_96 : decode cX12_twin 96 = .ok (.bipush 30, 2) := by decide +kernel
theorem dX12_twin_98 : decode cX12_twin 98 = .ok (.iload_n 2, 1) := by decide +kernel
theorem dX12_twin_99 : decode cX12_twin 99 = .ok (.imul, 1) := by decide +kernel
theorem dX12_twin_100 : decode cX12_twin 100 = .ok (.iload_n 3, 1) := by decide +kernel
theorem dX12_twin_101 : decode cX12_twin 101 = .ok (.iadd, 1) := by decide +kernel
theorem dX12_twin_102 : decode cX12_twin 102 = .ok (.daload, 1) := by decide +kernel
theorem dX12_twin_103 : decode cX12_twin 103 = .ok (.dastore, 1) := by decide +kernel
theorem dX12_twin_104 : decode cX12_twin 104 = .ok (.iinc 3 1, 3) := by decide +kernel
theorem dX12_twin_107 : decode cX12_twin 107 = .ok (.goto (-53), 3) := by decide +kernel
theorem dX12_twin_110 : decode cX12_twin 110 = .ok (.aload_n 0, 1) := by decide +kernel
theorem dX12_twin_111 : decode cX12_twin 111 = .ok (.getfield 110, 3) := by decide +kernel
theorem dX12_twin_114 : decode cX12_twin 114 = .ok (.iload_n 1, 1) := by decide +kernel
theorem dX12_twin_115 : decode cX12_twin 115 = .ok (.iaload, 1) := by decide +kernel
theorem dX12_twin_116 : decode cX12_twin 116 = .ok (.ireturn, 1) := by decide +kernel
theorem dX12_isRack_0 : decode cX12_isRack 0 = .ok (.iload_n 0, 1) := by decide +kernel
theorem dX12_isRack_1 : decode cX12_isRack 1 = .ok (.i2l, 1) := by decide +kernel
theorem dX12_isRack_2 : decode cX12_isRack 2 = .ok (.lconst 0, 1) := by decide +kernel
theorem dX12_isRack_3 : decode cX12_isRack 3 = .ok (.ldc2_w 490, 3) := by decide +kernel
theorem dX12_isRack_6 : decode cX12_isRack 6 = .ok (.invokestatic 161, 3) := by decide +kernel
theorem dX12_isRack_9 : decode cX12_isRack 9 = .ok (.ireturn, 1) := by decide +kernel
theorem dX12_isPlace_0 : decode cX12_isPlace 0 = .ok (.iload_n 0, 1) := by decide +kernel
theorem dX12_isPlace_1 : decode cX12_isPlace 1 = .ok (.i2l, 1) := by decide +kernel
theorem dX12_isPlace_2 : decode cX12_isPlace 2 = .ok (.lconst 0, 1) := by decide +kernel
theorem dX12_isPlace_3 : decode cX12_isPlace 3 = .ok (.ldc2_w 447, 3) := by decide +kernel
theorem dX12_isPlace_6 : decode cX12_isPlace 6 = .ok (.invokestatic 161, 3) := by decide +kernel
theorem dX12_isPlace_9 : decode cX12_isPlace 9 = .ok (.ireturn, 1) := by decide +kernel
theorem dX12_stores_0 : decode cX12_stores 0 = .ok (.iload_n 1, 1) := by decide +kernel
theorem dX12_stores_1 : decode cX12_stores 1 = .ok (.iconst 2, 1) := by decide +kernel
theorem dX12_stores_2 : decode cX12_stores 2 = .ok (.if_icmp .eq 11, 3) := by decide +kernel
theorem dX12_stores_5 : decode cX12_stores 5 = .ok (.iload_n 1, 1) := by decide +kernel
theorem dX12_stores_6 : decode cX12_stores 6 = .ok (.iload_n 3, 1) := by decide +kernel
theorem dX12_stores_7 : decode cX12_stores 7 = .ok (.if_icmp .eq 6, 3) := by decide +kernel
theorem dX12_stores_10 : decode cX12_stores 10 = .ok (.bipush (-16), 2) := by decide +kernel
theorem dX12_stores_12 : decode cX12_stores 12 = .ok (.ireturn, 1) := by decide +kernel
theorem dX12_stores_13 : decode cX12_stores 13 = .ok (.aload_n 0, 1) := by decide +kernel
theorem dX12_stores_14 : decode cX12_stores 14 = .ok (.getfield 121, 3) := by decide +kernel
theorem dX12_stores_17 : decode cX12_stores 17 = .ok (.bipush 6, 2) := by decide +kernel
theorem dX12_stores_19 : decode cX12_stores 19 = .ok (.iload_n 1, 1) := by decide +kernel
theorem dX12_stores_20 : decode cX12_stores 20 = .ok (.imul, 1) := by decide +kernel
theorem dX12_stores_21 : decode cX12_stores 21 = .ok (.iload_n 2, 1) := by decide +kernel
theorem dX12_stores_22 : decode cX12_stores 22 = .ok (.iadd, 1) := by decide +kernel
theorem dX12_stores_23 : decode cX12_stores 23 = .ok (.iload_n 3, 1) := by decide +kernel
theorem dX12_stores_24 : decode cX12_stores 24 = .ok (.iastore, 1) := by decide +kernel
theorem dX12_stores_25 : decode cX12_stores 25 = .ok (.aload_n 0, 1) := by decide +kernel
theorem dX12_stores_26 : decode cX12_stores 26 = .ok (.getfield 124, 3) := by decide +kernel
theorem dX12_stores_29 : decode cX12_stores 29 = .ok (.bipush 6, 2) := by decide +kernel
theorem dX12_stores_31 : decode cX12_stores 31 = .ok (.iload_n 1, 1) := by decide +kernel
theorem dX12_stores_32 : decode cX12_stores 32 = .ok (.imul, 1) := by decide +kernel
theorem dX12_stores_33 : decode cX12_stores 33 = .ok (.iload_n 2, 1) := by decide +kernel
theorem dX12_stores_34 : decode cX12_stores 34 = .ok (.iadd, 1) := by decide +kernel
theorem dX12_stores_35 : decode cX12_stores 35 = .ok (.iload 4, 2) := by decide +kernel
theorem dX12_stores_37 : decode cX12_stores 37 = .ok (.iastore, 1) := by decide +kernel
theorem dX12_stores_38 : decode cX12_stores 38 = .ok (.iconst 1, 1) := by decide +kernel
theorem dX12_stores_39 : decode cX12_stores 39 = .ok (.ireturn, 1) := by decide +kernel
theorem dX12_hang_0 : decode cX12_hang 0 = .ok (.iload_n 1, 1) := by decide +kernel
theorem dX12_hang_1 : decode cX12_hang 1 = .ok (.invokestatic 492, 3) := by decide +kernel
theorem dX12_hang_4 : decode cX12_hang 4 = .ok (.ifCond .eq 11, 3) := by decide +kernel
theorem dX12_hang_7 : decode cX12_hang 7 = .ok (.aload_n 0, 1) := by decide +kernel
theorem dX12_hang_8 : decode cX12_hang 8 = .ok (.iload_n 3, 1) := by decide +kernel
theorem dX12_hang_9 : decode cX12_hang 9 = .ok (.invokevirtual 283, 3) := by decide +kernel
theorem dX12_hang_12 : decode cX12_hang 12 = .ok (.ifCond .ne 5, 3) := by decide +kernel
theorem dX12_hang_15 : decode cX12_hang 15 = .ok (.iconst (-1), 1) := by decide +kernel
theorem dX12_hang_16 : decode cX12_hang 16 = .ok (.ireturn, 1) := by decide +kernel
theorem dX12_hang_17 : decode cX12_hang 17 = .ok (.iload_n 2, 1) := by decide +kernel
theorem dX12_hang_18 : decode cX12_hang 18 = .ok (.invokestatic 495, 3) := by decide +kernel
theorem dX12_hang_21 : decode cX12_hang 21 = .ok (.ifCond .eq 14, 3) := by decide +kernel
theorem dX12_hang_24 : decode cX12_hang 24 = .ok (.aload_n 0, 1) := by decide +kernel
theorem dX12_hang_25 : decode cX12_hang 25 = .ok (.iload_n 1, 1) := by decide +kernel
theorem dX12_hang_26 : decode cX12_hang 26 = .ok (.iload_n 2, 1) := by decide +kernel
theorem dX12_hang_27 : decode cX12_hang 27 = .ok (.iconst 0, 1) := by decide +kernel
theorem dX12_hang_28 : decode cX12_hang 28 = .ok (.iload_n 3, 1) := by decide +kernel
theorem dX12_hang_29 : decode cX12_hang 29 = .ok (.invokevirtual 498, 3) := by decide +kernel
theorem dX12_hang_32 : decode cX12_hang 32 = .ok (.goto 5, 3) := by decide +kernel
theorem dX12_hang_35 : decode cX12_hang 35 = .ok (.bipush (-7), 2) := by decide +kernel
theorem dX12_hang_37 : decode cX12_hang 37 = .ok (.ireturn, 1) := by decide +kernel
theorem dX12_hold_0 : decode cX12_hold 0 = .ok (.iload_n 1, 1) := by decide +kernel
theorem dX12_hold_1 : decode cX12_hold 1 = .ok (.invokestatic 492, 3) := by decide +kernel
theorem dX12_hold_4 : decode cX12_hold 4 = .ok (.ifCond .ne 5, 3) := by decide +kernel
theorem dX12_hold_7 : decode cX12_hold 7 = .ok (.iconst (-1), 1) := by decide +kernel
theorem dX12_hold_8 : decode cX12_hold 8 = .ok (.ireturn, 1) := by decide +kernel
theorem dX12_hold_9 : decode cX12_hold 9 = .ok (.iload_n 2, 1) := by decide +kernel
theorem dX12_hold_10 : decode cX12_hold 10 = .ok (.invokestatic 495, 3) := by decide +kernel
theorem dX12_hold_13 : decode cX12_hold 13 = .ok (.ifCond .ne 6, 3) := by decide +kernel
theorem dX12_hold_16 : decode cX12_hold 16 = .ok (.bipush (-7), 2) := by decide +kernel
theorem dX12_hold_18 : decode cX12_hold 18 = .ok (.ireturn, 1) := by decide +kernel
theorem dX12_hold_19 : decode cX12_hold 19 = .ok (.aload_n 0, 1) := by decide +kernel
theorem dX12_hold_20 : decode cX12_hold 20 = .ok (.getfield 405, 3) := by decide +kernel
theorem dX12_hold_23 : decode cX12_hold 23 = .ok (.ifCond .ne 6, 3) := by decide +kernel
theorem dX12_hold_26 : decode cX12_hold 26 = .ok (.bipush (-3), 2) := by decide +kernel
theorem dX12_hold_28 : decode cX12_hold 28 = .ok (.ireturn, 1) := by decide +kernel
theorem dX12_hold_29 : decode cX12_hold 29 = .ok (.aload_n 0, 1) := by decide +kernel
theorem dX12_hold_30 : decode cX12_hold 30 = .ok (.iload_n 3, 1) := by decide +kernel
theorem dX12_hold_31 : decode cX12_hold 31 = .ok (.invokevirtual 408, 3) := by decide +kernel
theorem dX12_hold_34 : decode cX12_hold 34 = .ok (.ifCond .eq 20, 3) := by decide +kernel
theorem dX12_hold_37 : decode cX12_hold 37 = .ok (.aload_n 0, 1) := by decide +kernel
theorem dX12_hold_38 : decode cX12_hold 38 = .ok (.iload_n 1, 1) := by decide +kernel
theorem dX12_hold_39 : decode cX12_hold 39 = .ok (.iload_n 2, 1) := by decide +kernel
theorem dX12_hold_40 : decode cX12_hold 40 = .ok (.iconst 1, 1) := by decide +kernel
theorem dX12_hold_41 : decode cX12_hold 41 = .ok (.aload_n 0, 1) := by decide +kernel
theorem dX12_hold_42 : decode cX12_hold 42 = .ok (.getfield 83, 3) := by decide +kernel
theorem dX12_hold_45 : decode cX12_hold 45 = .ok (.iload_n 3, 1) := by decide +kernel
theorem dX12_hold_46 : decode cX12_hold 46 = .ok (.laload, 1) := by decide +kernel
theorem dX12_hold_47 : decode cX12_hold 47 = .ok (.l2i, 1) := by decide +kernel
theorem dX12_hold_48 : decode cX12_hold 48 = .ok (.invokevirtual 498, 3) := by decide +kernel
theorem dX12_hold_51 : decode cX12_hold 51 = .ok (.goto 4, 3) := by decide +kernel
theorem dX12_hold_54 : decode cX12_hold 54 = .ok (.iconst (-1), 1) := by decide +kernel
theorem dX12_hold_55 : decode cX12_hold 55 = .ok (.ireturn, 1) := by decide +kernel
theorem dX12_rack_0 : decode cX12_rack 0 = .ok (.iload_n 1, 1) := by decide +kernel
theorem dX12_rack_1 : decode cX12_rack 1 = .ok (.invokestatic 492, 3) := by decide +kernel
theorem dX12_rack_4 : decode cX12_rack 4 = .ok (.ifCond .eq 13, 3) := by decide +kernel
theorem dX12_rack_7 : decode cX12_rack 7 = .ok (.iload_n 3, 1) := by decide +kernel
theorem dX12_rack_8 : decode cX12_rack 8 = .ok (.i2l, 1) := by decide +kernel
theorem dX12_rack_9 : decode cX12_rack 9 = .ok (.lconst 0, 1) := by decide +kernel
theorem dX12_rack_10 : decode cX12_rack 10 = .ok (.lconst 1, 1) := by decide +kernel
theorem dX12_rack_11 : decode cX12_rack 11 = .ok (.invokestatic 161, 3) := by decide +kernel
theorem dX12_rack_14 : decode cX12_rack 14 = .ok (.ifCond .ne 5, 3) := by decide +kernel
theorem dX12_rack_17 : decode cX12_rack 17 = .ok (.iconst (-1), 1) := by decide +kernel
theorem dX12_rack_18 : decode cX12_rack 18 = .ok (.ireturn, 1) := by decide +kernel
theorem dX12_rack_19 : decode cX12_rack 19 = .ok (.iload_n 2, 1) := by decide +kernel
theorem dX12_rack_20 : decode cX12_rack 20 = .ok (.invokestatic 495, 3) := by decide +kernel
theorem dX12_rack_23 : decode cX12_rack 23 = .ok (.ifCond .ne 6, 3) := by decide +kernel
theorem dX12_rack_26 : decode cX12_rack 26 = .ok (.bipush (-7), 2) := by decide +kernel
theorem dX12_rack_28 : decode cX12_rack 28 = .ok (.ireturn, 1) := by decide +kernel
theorem dX12_rack_29 : decode cX12_rack 29 = .ok (.bipush 6, 2) := by decide +kernel
theorem dX12_rack_31 : decode cX12_rack 31 = .ok (.iload_n 1, 1) := by decide +kernel
theorem dX12_rack_32 : decode cX12_rack 32 = .ok (.imul, 1) := by decide +kernel
theorem dX12_rack_33 : decode cX12_rack 33 = .ok (.iload_n 2, 1) := by decide +kernel
theorem dX12_rack_34 : decode cX12_rack 34 = .ok (.iadd, 1) := by decide +kernel
theorem dX12_rack_35 : decode cX12_rack 35 = .ok (.istore 4, 2) := by decide +kernel
theorem dX12_rack_37 : decode cX12_rack 37 = .ok (.aload_n 0, 1) := by decide +kernel
theorem dX12_rack_38 : decode cX12_rack 38 = .ok (.getfield 121, 3) := by decide +kernel
theorem dX12_rack_41 : decode cX12_rack 41 = .ok (.iload 4, 2) := by decide +kernel
theorem dX12_rack_43 : decode cX12_rack 43 = .ok (.iaload, 1) := by decide +kernel
theorem dX12_rack_44 : decode cX12_rack 44 = .ok (.ifCond .ge 8, 3) := by decide +kernel
theorem dX12_rack_47 : decode cX12_rack 47 = .ok (.bipush (-6), 2) := by decide +kernel
theorem dX12_rack_49 : decode cX12_rack 49 = .ok (.goto 24, 3) := by decide +kernel
theorem dX12_rack_52 : decode cX12_rack 52 = .ok (.iload_n 3, 1) := by decide +kernel
theorem dX12_rack_53 : decode cX12_rack 53 = .ok (.ifCond .ne 13, 3) := by decide +kernel
theorem dX12_rack_56 : decode cX12_rack 56 = .ok (.aload_n 0, 1) := by decide +kernel
theorem dX12_rack_57 : decode cX12_rack 57 = .ok (.getfield 121, 3) := by decide +kernel
theorem dX12_rack_60 : decode cX12_rack 60 = .ok (.iload 4, 2) := by decide +kernel
theorem dX12_rack_62 : decode cX12_rack 62 = .ok (.iaload, 1) := by decide +kernel
theorem dX12_rack_63 : decode cX12_rack 63 = .ok (.goto 10, 3) := by decide +kernel
theorem dX12_rack_66 : decode cX12_rack 66 = .ok (.aload_n 0, 1) := by decide +kernel
theorem dX12_rack_67 : decode cX12_rack 67 = .ok (.getfield 124, 3) := by decide +kernel
theorem dX12_rack_70 : decode cX12_rack 70 = .ok (.iload 4, 2) := by decide +kernel
theorem dX12_rack_72 : decode cX12_rack 72 = .ok (.iaload, 1) := by decide +kernel
theorem dX12_rack_73 : decode cX12_rack 73 = .ok (.ireturn, 1) := by decide +kernel
theorem dX12_shift_0 : decode cX12_shift 0 = .ok (.iload_n 1, 1) := by decide +kernel
theorem dX12_shift_1 : decode cX12_shift 1 = .ok (.invokestatic 492, 3) := by decide +kernel
theorem dX12_shift_4 : decode cX12_shift 4 = .ok (.ifCond .eq 10, 3) := by decide +kernel
theorem dX12_shift_7 : decode cX12_shift 7 = .ok (.iload_n 2, 1) := by decide +kernel
theorem dX12_shift_8 : decode cX12_shift 8 = .ok (.invokestatic 492, 3) := by decide +kernel
theorem dX12_shift_11 : decode cX12_shift 11 = .ok (.ifCond .ne 5, 3) := by decide +kernel
theorem dX12_shift_14 : decode cX12_shift 14 = .ok (.iconst (-1), 1) := by decide +kernel
theorem dX12_shift_15 : decode cX12_shift 15 = .ok (.ireturn, 1) := by decide +kernel
theorem dX12_shift_16 : decode cX12_shift 16 = .ok (.iconst 0, 1) := by decide +kernel
theorem dX12_shift_17 : decode cX12_shift 17 = .ok (.istore_n 3, 1) := by decide +kernel
theorem dX12_shift_18 : decode cX12_shift 18 = .ok (.iload_n 3, 1) := by decide +kernel
theorem dX12_shift_19 : decode cX12_shift 19 = .ok (.bipush 6, 2) := by decide +kernel
theorem dX12_shift_21 : decode cX12_shift 21 = .ok (.if_icmp .ge 75, 3) := by decide +kernel
theorem dX12_shift_24 : decode cX12_shift 24 = .ok (.aload_n 0, 1) := by decide +kernel
theorem dX12_shift_25 : decode cX12_shift 25 = .ok (.getfield 121, 3) := by decide +kernel
theorem dX12_shift_28 : decode cX12_shift 28 = .ok (.bipush 6, 2) := by decide +kernel
theorem dX12_shift_30 : decode cX12_shift 30 = .ok (.iload_n 1, 1) := by decide +kernel
theorem dX12_shift_31 : decode cX12_shift 31 = .ok (.imul, 1) := by decide +kernel
theorem dX12_shift_32 : decode cX12_shift 32 = .ok (.iload_n 3, 1) := by decide +kernel
theorem dX12_shift_33 : decode cX12_shift 33 = .ok (.iadd, 1) := by decide +kernel
theorem dX12_shift_34 : decode cX12_shift 34 = .ok (.iaload, 1) := by decide +kernel
theorem dX12_shift_35 : decode cX12_shift 35 = .ok (.istore 4, 2) := by decide +kernel
theorem dX12_shift_37 : decode cX12_shift 37 = .ok (.iload 4, 2) := by decide +kernel
theorem dX12_shift_39 : decode cX12_shift 39 = .ok (.ifCond .lt 16, 3) := by decide +kernel
theorem dX12_shift_42 : decode cX12_shift 42 = .ok (.iload_n 2, 1) := by decide +kernel
theorem dX12_shift_43 : decode cX12_shift 43 = .ok (.iconst 2, 1) := by decide +kernel
theorem dX12_shift_44 : decode cX12_shift 44 = .ok (.if_icmp .eq 11, 3) := by decide +kernel
theorem dX12_shift_47 : decode cX12_shift 47 = .ok (.iload_n 2, 1) := by decide +kernel
theorem dX12_shift_48 : decode cX12_shift 48 = .ok (.iload 4, 2) := by decide +kernel
theorem dX12_shift_50 : decode cX12_shift 50 = .ok (.if_icmp .eq 5, 3) := by decide +kernel
theorem dX12_shift_53 : decode cX12_shift 53 = .ok (.iload_n 3, 1) := by decide +kernel
theorem dX12_shift_54 : decode cX12_shift 54 = .ok (.ireturn, 1) := by decide +kernel
theorem dX12_shift_55 : decode cX12_shift 55 = .ok (.aload_n 0, 1) := by decide +kernel
theorem dX12_shift_56 : decode cX12_shift 56 = .ok (.getfield 121, 3) := by decide +kernel
theorem dX12_shift_59 : decode cX12_shift 59 = .ok (.bipush 6, 2) := by decide +kernel
theorem dX12_shift_61 : decode cX12_shift 61 = .ok (.iload_n 2, 1) := by decide +kernel
theorem dX12_shift_62 : decode cX12_shift 62 = .ok (.imul, 1) := by decide +kernel
theorem dX12_shift_63 : decode cX12_shift 63 = .ok (.iload_n 3, 1) := by decide +kernel
theorem dX12_shift_64 : decode cX12_shift 64 = .ok (.iadd, 1) := by decide +kernel
theorem dX12_shift_65 : decode cX12_shift 65 = .ok (.iload 4, 2) := by decide +kernel
theorem dX12_shift_67 : decode cX12_shift 67 = .ok (.iastore, 1) := by decide +kernel
theorem dX12_shift_68 : decode cX12_shift 68 = .ok (.aload_n 0, 1) := by decide +kernel
theorem dX12_shift_69 : decode cX12_shift 69 = .ok (.getfield 124, 3) := by decide +kernel
theorem dX12_shift_72 : decode cX12_shift 72 = .ok (.bipush 6, 2) := by decide +kernel
theorem dX12_shift_74 : decode cX12_shift 74 = .ok (.iload_n 2, 1) := by decide +kernel
theorem dX12_shift_75 : decode cX12_shift 75 = .ok (.imul, 1) := by decide +kernel
theorem dX12_shift_76 : decode cX12_shift 76 = .ok (.iload_n 3, 1) := by decide +kernel
theorem dX12_shift_77 : decode cX12_shift 77 = .ok (.iadd, 1) := by decide +kernel
theorem dX12_shift_78 : decode cX12_shift 78 = .ok (.aload_n 0, 1) := by decide +kernel
theorem dX12_shift_79 : decode cX12_shift 79 = .ok (.getfield 124, 3) := by decide +kernel
theorem dX12_shift_82 : decode cX12_shift 82 = .ok (.bipush 6, 2) := by decide +kernel
theorem dX12_shift_84 : decode cX12_shift 84 = .ok (.iload_n 1, 1) := by decide +kernel
theorem dX12_shift_85 : decode cX12_shift 85 = .ok (.imul, 1) := by decide +kernel
theorem dX12_shift_86 : decode cX12_shift 86 = .ok (.iload_n 3, 1) := by decide +kernel
theorem dX12_shift_87 : decode cX12_shift 87 = .ok (.iadd, 1) := by decide +kernel
theorem dX12_shift_88 : decode cX12_shift 88 = .ok (.iaload, 1) := by decide +kernel
theorem dX12_shift_89 : decode cX12_shift 89 = .ok (.iastore, 1) := by decide +kernel
theorem dX12_shift_90 : decode cX12_shift 90 = .ok (.iinc 3 1, 3) := by decide +kernel
theorem dX12_shift_93 : decode cX12_shift 93 = .ok (.goto (-75), 3) := by decide +kernel
theorem dX12_shift_96 : decode cX12_shift 96 = .ok (.bipush 6, 2) := by decide +kernel
theorem dX12_shift_98 : decode cX12_shift 98 = .ok (.ireturn, 1) := by decide +kernel
theorem dX12_copies_0 : decode cX12_copies 0 = .ok (.iconst 0, 1) := by decide +kernel
theorem dX12_copies_1 : decode cX12_copies 1 = .ok (.istore_n 2, 1) := by decide +kernel
theorem dX12_copies_2 : decode cX12_copies 2 = .ok (.iload_n 2, 1) := by decide +kernel
theorem dX12_copies_3 : decode cX12_copies 3 = .ok (.aload_n 1, 1) := by decide +kernel
theorem dX12_copies_4 : decode cX12_copies 4 = .ok (.arraylength, 1) := by decide +kernel
theorem dX12_copies_5 : decode cX12_copies 5 = .ok (.if_icmp .ge 15, 3) := by decide +kernel
theorem dX12_copies_8 : decode cX12_copies 8 = .ok (.aload_n 1, 1) := by decide +kernel
theorem dX12_copies_9 : decode cX12_copies 9 = .ok (.iload_n 2, 1) := by decide +kernel
theorem dX12_copies_10 : decode cX12_copies 10 = .ok (.aload_n 0, 1) := by decide +kernel
theorem dX12_copies_11 : decode cX12_copies 11 = .ok (.iload_n 2, 1) := by decide +kernel
theorem dX12_copies_12 : decode cX12_copies 12 = .ok (.iaload, 1) := by decide +kernel
theorem dX12_copies_13 : decode cX12_copies 13 = .ok (.iastore, 1) := by decide +kernel
theorem dX12_copies_14 : decode cX12_copies 14 = .ok (.iinc 2 1, 3) := by decide +kernel
theorem dX12_copies_17 : decode cX12_copies 17 = .ok (.goto (-15), 3) := by decide +kernel
theorem dX12_copies_20 : decode cX12_copies 20 = .ok (.return_, 1) := by decide +kernel
theorem dX12_copiesLong_0 : decode cX12_copiesLong 0 = .ok (.iconst 0, 1) := by decide +kernel
theorem dX12_copiesLong_1 : decode cX12_copiesLong 1 = .ok (.istore_n 2, 1) := by decide +kernel
theorem dX12_copiesLong_2 : decode cX12_copiesLong 2 = .ok (.iload_n 2, 1) := by decide +kernel
theorem dX12_copiesLong_3 : decode cX12_copiesLong 3 = .ok (.aload_n 1, 1) := by decide +kernel
theorem dX12_copiesLong_4 : decode cX12_copiesLong 4 = .ok (.arraylength, 1) := by decide +kernel
theorem dX12_copiesLong_5 : decode cX12_copiesLong 5 = .ok (.if_icmp .ge 15, 3) := by decide +kernel
theorem dX12_copiesLong_8 : decode cX12_copiesLong 8 = .ok (.aload_n 1, 1) := by decide +kernel
theorem dX12_copiesLong_9 : decode cX12_copiesLong 9 = .ok (.iload_n 2, 1) := by decide +kernel
theorem dX12_copiesLong_10 : decode cX12_copiesLong 10 = .ok (.aload_n 0, 1) := by decide +kernel
theorem dX12_copiesLong_11 : decode cX12_copiesLong 11 = .ok (.iload_n 2, 1) := by decide +kernel
theorem dX12_copiesLong_12 : decode cX12_copiesLong 12 = .ok (.laload, 1) := by decide +kernel
theorem dX12_copiesLong_13 : decode cX12_copiesLong 13 = .ok (.lastore, 1) := by decide +kernel
theorem dX12_copiesLong_14 : decode cX12_copiesLong 14 = .ok (.iinc 2 1, 3) := by decide +kernel
theorem dX12_copiesLong_17 : decode cX12_copiesLong 17 = .ok (.goto (-15), 3) := by decide +kernel
theorem dX12_copiesLong_20 : decode cX12_copiesLong 20 = .ok (.return_, 1) := by decide +kernel
theorem dX12_image_0 : decode cX12_image 0 = .ok (.aload_n 0, 1) := by decide +kernel
theorem dX12_image_1 : decode cX12_image 1 = .ok (.iconst 1, 1) := by decide +kernel
theorem dX12_image_2 : decode cX12_image 2 = .ok (.putfield 501, 3) := by decide +kernel
theorem dX12_image_5 : decode cX12_image 5 = .ok (.aload_n 0, 1) := by decide +kernel
theorem dX12_image_6 : decode cX12_image 6 = .ok (.aload_n 0, 1) := by decide +kernel
theorem dX12_image_7 : decode cX12_image 7 = .ok (.getfield 11, 3) := by decide +kernel
theorem dX12_image_10 : decode cX12_image 10 = .ok (.putfield 504, 3) := by decide +kernel
theorem dX12_image_13 : decode cX12_image 13 = .ok (.aload_n 0, 1) := by decide +kernel
theorem dX12_image_14 : decode cX12_image 14 = .ok (.aload_n 0, 1) := by decide +kernel
theorem dX12_image_15 : decode cX12_image 15 = .ok (.getfield 275, 3) := by decide +kernel
theorem dX12_image_18 : decode cX12_image 18 = .ok (.putfield 507, 3) := by decide +kernel
theorem dX12_image_21 : decode cX12_image 21 = .ok (.aload_n 0, 1) := by decide +kernel
theorem dX12_image_22 : decode cX12_image 22 = .ok (.getfield 15, 3) := by decide +kernel
theorem dX12_image_25 : decode cX12_image 25 = .ok (.aload_n 0, 1) := by decide +kernel
theorem dX12_image_26 : decode cX12_image 26 = .ok (.getfield 38, 3) := by decide +kernel
theorem dX12_image_29 : decode cX12_image 29 = .ok (.invokestatic 510, 3) := by decide +kernel
theorem dX12_image_32 : decode cX12_image 32 = .ok (.aload_n 0, 1) := by decide +kernel
theorem dX12_image_33 : decode cX12_image 33 = .ok (.getfield 19, 3) := by decide +kernel
theorem dX12_image_36 : decode cX12_image 36 = .ok (.aload_n 0, 1) := by decide +kernel
theorem dX12_image_37 : decode cX12_image 37 = .ok (.getfield 41, 3) := by decide +kernel
theorem dX12_image_40 : decode cX12_image 40 = .ok (.invokestatic 510, 3) := by decide +kernel
theorem dX12_image_43 : decode cX12_image 43 = .ok (.aload_n 0, 1) := by decide +kernel
theorem dX12_image_44 : decode cX12_image 44 = .ok (.getfield 35, 3) := by decide +kernel
theorem dX12_image_47 : decode cX12_image 47 = .ok (.aload_n 0, 1) := by decide +kernel
theorem dX12_image_48 : decode cX12_image 48 = .ok (.getfield 44, 3) := by decide +kernel
theorem dX12_image_51 : decode cX12_image 51 = .ok (.invokestatic 510, 3) := by decide +kernel
theorem dX12_image_54 : decode cX12_image 54 = .ok (.aload_n 0, 1) := by decide +kernel
theorem dX12_image_55 : decode cX12_image 55 = .ok (.getfield 22, 3) := by decide +kernel
theorem dX12_image_58 : decode cX12_image 58 = .ok (.aload_n 0, 1) := by decide +kernel
theorem dX12_image_59 : decode cX12_image 59 = .ok (.getfield 47, 3) := by decide +kernel
theorem dX12_image_62 : decode cX12_image 62 = .ok (.invokestatic 514, 3) := by decide +kernel
theorem dX12_image_65 : decode cX12_image 65 = .ok (.aload_n 0, 1) := by decide +kernel
theorem dX12_image_66 : decode cX12_image 66 = .ok (.getfield 26, 3) := by decide +kernel
theorem dX12_image_69 : decode cX12_image 69 = .ok (.aload_n 0, 1) := by decide +kernel
theorem dX12_image_70 : decode cX12_image 70 = .ok (.getfield 50, 3) := by decide +kernel
theorem dX12_image_73 : decode cX12_image 73 = .ok (.invokestatic 514, 3) := by decide +kernel
theorem dX12_image_76 : decode cX12_image 76 = .ok (.aload_n 0, 1) := by decide +kernel
theorem dX12_image_77 : decode cX12_image 77 = .ok (.getfield 29, 3) := by decide +kernel
theorem dX12_image_80 : decode cX12_image 80 = .ok (.aload_n 0, 1) := by decide +kernel
theorem dX12_image_81 : decode cX12_image 81 = .ok (.getfield 53, 3) := by decide +kernel
theorem dX12_image_84 : decode cX12_image 84 = .ok (.invokestatic 514, 3) := by decide +kernel
theorem dX12_image_87 : decode cX12_image 87 = .ok (.aload_n 0, 1) := by decide +kernel
theorem dX12_image_88 : decode cX12_image 88 = .ok (.getfield 32, 3) := by decide +kernel
theorem dX12_image_91 : decode cX12_image 91 = .ok (.aload_n 0, 1) := by decide +kernel
theorem dX12_image_92 : decode cX12_image 92 = .ok (.getfield 56, 3) := by decide +kernel
theorem dX12_image_95 : decode cX12_image 95 = .ok (.invokestatic 514, 3) := by decide +kernel
theorem dX12_image_98 : decode cX12_image 98 = .ok (.aload_n 0, 1) := by decide +kernel
theorem dX12_image_99 : decode cX12_image 99 = .ok (.getfield 11, 3) := by decide +kernel
theorem dX12_image_102 : decode cX12_image 102 = .ok (.ireturn, 1) := by decide +kernel
theorem dX12_undo_0 : decode cX12_undo 0 = .ok (.aload_n 0, 1) := by decide +kernel
theorem dX12_undo_1 : decode cX12_undo 1 = .ok (.getfield 501, 3) := by decide +kernel
theorem dX12_undo_4 : decode cX12_undo 4 = .ok (.ifCond .ne 6, 3) := by decide +kernel
theorem dX12_undo_7 : decode cX12_undo 7 = .ok (.bipush (-3), 2) := by decide +kernel
theorem dX12_undo_9 : decode cX12_undo 9 = .ok (.ireturn, 1) := by decide +kernel
theorem dX12_undo_10 : decode cX12_undo 10 = .ok (.aload_n 0, 1) := by decide +kernel
theorem dX12_undo_11 : decode cX12_undo 11 = .ok (.aload_n 0, 1) := by decide +kernel
theorem dX12_undo_12 : decode cX12_undo 12 = .ok (.getfield 504, 3) := by decide +kernel
theorem dX12_undo_15 : decode cX12_undo 15 = .ok (.putfield 11, 3) := by decide +kernel
theorem dX12_undo_18 : decode cX12_undo 18 = .ok (.aload_n 0, 1) := by decide +kernel
theorem dX12_undo_19 : decode cX12_undo 19 = .ok (.aload_n 0, 1) := by decide +kernel
theorem dX12_undo_20 : decode cX12_undo 20 = .ok (.getfield 507, 3) := by decide +kernel
theorem dX12_undo_23 : decode cX12_undo 23 = .ok (.putfield 275, 3) := by decide +kernel
theorem dX12_undo_26 : decode cX12_undo 26 = .ok (.aload_n 0, 1) := by decide +kernel
theorem dX12_undo_27 : decode cX12_undo 27 = .ok (.getfield 38, 3) := by decide +kernel
theorem dX12_undo_30 : decode cX12_undo 30 = .ok (.aload_n 0, 1) := by decide +kernel
theorem dX12_undo_31 : decode cX12_undo 31 = .ok (.getfield 15, 3) := by decide +kernel
theorem dX12_undo_34 : decode cX12_undo 34 = .ok (.invokestatic 510, 3) := by decide +kernel
theorem dX12_undo_37 : decode cX12_undo 37 = .ok (.aload_n 0, 1) := by decide +kernel
theorem dX12_undo_38 : decode cX12_undo 38 = .ok (.getfield 41, 3) := by decide +kernel
theorem dX12_undo_41 : decode cX12_undo 41 = .ok (.aload_n 0, 1) := by decide +kernel
theorem dX12_undo_42 : decode cX12_undo 42 = .ok (.getfield 19, 3) := by decide +kernel
theorem dX12_undo_45 : decode cX12_undo 45 = .ok (.invokestatic 510, 3) := by decide +kernel
theorem dX12_undo_48 : decode cX12_undo 48 = .ok (.aload_n 0, 1) := by decide +kernel
theorem dX12_undo_49 : decode cX12_undo 49 = .ok (.getfield 44, 3) := by decide +kernel
theorem dX12_undo_52 : decode cX12_undo 52 = .ok (.aload_n 0, 1) := by decide +kernel
theorem dX12_undo_53 : decode cX12_undo 53 = .ok (.getfield 35, 3) := by decide +kernel
theorem dX12_undo_56 : decode cX12_undo 56 = .ok (.invokestatic 510, 3) := by decide +kernel
theorem dX12_undo_59 : decode cX12_undo 59 = .ok (.aload_n 0, 1) := by decide +kernel
theorem dX12_undo_60 : decode cX12_undo 60 = .ok (.getfield 47, 3) := by decide +kernel
theorem dX12_undo_63 : decode cX12_undo 63 = .ok (.aload_n 0, 1) := by decide +kernel
theorem dX12_undo_64 : decode cX12_undo 64 = .ok (.getfield 22, 3) := by decide +kernel
theorem dX12_undo_67 : decode cX12_undo 67 = .ok (.invokestatic 514, 3) := by decide +kernel
theorem dX12_undo_70 : decode cX12_undo 70 = .ok (.aload_n 0, 1) := by decide +kernel
theorem dX12_undo_71 : decode cX12_undo 71 = .ok (.getfield 50, 3) := by decide +kernel
theorem dX12_undo_74 : decode cX12_undo 74 = .ok (.aload_n 0, 1) := by decide +kernel
theorem dX12_undo_75 : decode cX12_undo 75 = .ok (.getfield 26, 3) := by decide +kernel
theorem dX12_undo_78 : decode cX12_undo 78 = .ok (.invokestatic 514, 3) := by decide +kernel
theorem dX12_undo_81 : decode cX12_undo 81 = .ok (.aload_n 0, 1) := by decide +kernel
theorem dX12_undo_82 : decode cX12_undo 82 = .ok (.getfield 53, 3) := by decide +kernel
theorem dX12_undo_85 : decode cX12_undo 85 = .ok (.aload_n 0, 1) := by decide +kernel
theorem dX12_undo_86 : decode cX12_undo 86 = .ok (.getfield 29, 3) := by decide +kernel
theorem dX12_undo_89 : decode cX12_undo 89 = .ok (.invokestatic 514, 3) := by decide +kernel
theorem dX12_undo_92 : decode cX12_undo 92 = .ok (.aload_n 0, 1) := by decide +kernel
theorem dX12_undo_93 : decode cX12_undo 93 = .ok (.getfield 56, 3) := by decide +kernel
theorem dX12_undo_96 : decode cX12_undo 96 = .ok (.aload_n 0, 1) := by decide +kernel
theorem dX12_undo_97 : decode cX12_undo 97 = .ok (.getfield 32, 3) := by decide +kernel
theorem dX12_undo_100 : decode cX12_undo 100 = .ok (.invokestatic 514, 3) := by decide +kernel
theorem dX12_undo_103 : decode cX12_undo 103 = .ok (.aload_n 0, 1) := by decide +kernel
theorem dX12_undo_104 : decode cX12_undo 104 = .ok (.getfield 11, 3) := by decide +kernel
theorem dX12_undo_107 : decode cX12_undo 107 = .ok (.ireturn, 1) := by decide +kernel
theorem dX12_count_0 : decode cX12_count 0 = .ok (.iconst 0, 1) := by decide +kernel
theorem dX12_count_1 : decode cX12_count 1 = .ok (.istore_n 2, 1) := by decide +kernel
theorem dX12_count_2 : decode cX12_count 2 = .ok (.iload_n 1, 1) := by decide +kernel
theorem dX12_count_3 : decode cX12_count 3 = .ok (.tableswitch 133 0 5 #[37, 42, 47, 52, 68, 100], 37) := by decide +kernel
theorem dX12_count_40 : decode cX12_count 40 = .ok (.aload_n 0, 1) := by decide +kernel
theorem dX12_count_41 : decode cX12_count 41 = .ok (.getfield 11, 3) := by decide +kernel
theorem dX12_count_44 : decode cX12_count 44 = .ok (.ireturn, 1) := by decide +kernel
theorem dX12_count_45 : decode cX12_count 45 = .ok (.aload_n 0, 1) := by decide +kernel
theorem dX12_count_46 : decode cX12_count 46 = .ok (.getfield 275, 3) := by decide +kernel
theorem dX12_count_49 : decode cX12_count 49 = .ok (.ireturn, 1) := by decide +kernel
theorem dX12_count_50 : decode cX12_count 50 = .ok (.aload_n 0, 1) := by decide +kernel
theorem dX12_count_51 : decode cX12_count 51 = .ok (.getfield 171, 3) := by decide +kernel
theorem dX12_count_54 : decode cX12_count 54 = .ok (.ireturn, 1) := by decide +kernel
theorem dX12_count_55 : decode cX12_count 55 = .ok (.aload_n 0, 1) := by decide +kernel
theorem dX12_count_56 : decode cX12_count 56 = .ok (.getfield 405, 3) := by decide +kernel
theorem dX12_count_59 : decode cX12_count 59 = .ok (.ifCond .eq 10, 3) := by decide +kernel
theorem dX12_count_62 : decode cX12_count 62 = .ok (.aload_n 0, 1) := by decide +kernel
theorem dX12_count_63 : decode cX12_count 63 = .ok (.getfield 320, 3) := by decide +kernel
theorem dX12_count_66 : decode cX12_count 66 = .ok (.goto 4, 3) := by decide +kernel
theorem dX12_count_69 : decode cX12_count 69 = .ok (.iconst 0, 1) := by decide +kernel
theorem dX12_count_70 : decode cX12_count 70 = .ok (.ireturn, 1) := by decide +kernel
theorem dX12_count_71 : decode cX12_count 71 = .ok (.iconst 0, 1) := by decide +kernel
theorem dX12_count_72 : decode cX12_count 72 = .ok (.istore_n 3, 1) := by decide +kernel
theorem dX12_count_73 : decode cX12_count 73 = .ok (.iload_n 3, 1) := by decide +kernel
theorem dX12_count_74 : decode cX12_count 74 = .ok (.iconst 4, 1) := by decide +kernel
theorem dX12_count_75 : decode cX12_count 75 = .ok (.if_icmp .ge 26, 3) := by decide +kernel
theorem dX12_count_78 : decode cX12_count 78 = .ok (.iload_n 2, 1) := by decide +kernel
theorem dX12_count_79 : decode cX12_count 79 = .ok (.aload_n 0, 1) := by decide +kernel
theorem dX12_count_80 : decode cX12_count 80 = .ok (.getfield 107, 3) := by decide +kernel
theorem dX12_count_83 : decode cX12_count 83 = .ok (.iload_n 3, 1) := by decide +kernel
theorem dX12_count_84 : decode cX12_count 84 = .ok (.iaload, 1) := by decide +kernel
theorem dX12_count_85 : decode cX12_count 85 = .ok (.ifCond .lt 7, 3) := by decide +kernel
theorem dX12_count_88 : decode cX12_count 88 = .ok (.iconst 1, 1) := by decide +kernel
theorem dX12_count_89 : decode cX12_count 89 = .ok (.goto 4, 3) := by decide +kernel
theorem dX12_count_92 : decode cX12_count 92 = .ok (.iconst 0, 1) := by decide +kernel
theorem dX12_count_93 : decode cX12_count 93 = .ok (.iadd, 1) := by decide +kernel
theorem dX12_count_94 : decode cX12_count 94 = .ok (.istore_n 2, 1) := by decide +kernel
theorem dX12_count_95 : decode cX12_count 95 = .ok (.iinc 3 1, 3) := by decide +kernel
theorem dX12_count_98 : decode cX12_count 98 = .ok (.goto (-25), 3) := by decide +kernel
theorem dX12_count_101 : decode cX12_count 101 = .ok (.iload_n 2, 1) := by decide +kernel
theorem dX12_count_102 : decode cX12_count 102 = .ok (.ireturn, 1) := by decide +kernel
theorem dX12_count_103 : decode cX12_count 103 = .ok (.iconst 0, 1) := by decide +kernel
theorem dX12_count_104 : decode cX12_count 104 = .ok (.istore_n 3, 1) := by decide +kernel
theorem dX12_count_105 : decode cX12_count 105 = .ok (.iload_n 3, 1) := by decide +kernel
theorem dX12_count_106 : decode cX12_count 106 = .ok (.bipush 18, 2) := by decide +kernel
theorem dX12_count_108 : decode cX12_count 108 = .ok (.if_icmp .ge 26, 3) := by decide +kernel
theorem dX12_count_111 : decode cX12_count 111 = .ok (.iload_n 2, 1) := by decide +kernel
theorem dX12_count_112 : decode cX12_count 112 = .ok (.aload_n 0, 1) := by decide +kernel
theorem dX12_count_113 : decode cX12_count 113 = .ok (.getfield 121, 3) := by decide +kernel
theorem dX12_count_116 : decode cX12_count 116 = .ok (.iload_n 3, 1) := by decide +kernel
theorem dX12_count_117 : decode cX12_count 117 = .ok (.iaload, 1) := by decide +kernel
theorem dX12_count_118 : decode cX12_count 118 = .ok (.ifCond .lt 7, 3) := by decide +kernel
theorem dX12_count_121 : decode cX12_count 121 = .ok (.iconst 1, 1) := by decide +kernel
theorem dX12_count_122 : decode cX12_count 122 = .ok (.goto 4, 3) := by decide +kernel
theorem dX12_count_125 : decode cX12_count 125 = .ok (.iconst 0, 1) := by decide +kernel
theorem dX12_count_126 : decode cX12_count 126 = .ok (.iadd, 1) := by decide +kernel
theorem dX12_count_127 : decode cX12_count 127 = .ok (.istore_n 2, 1) := by decide +kernel
theorem dX12_count_128 : decode cX12_count 128 = .ok (.iinc 3 1, 3) := by decide +kernel
theorem dX12_count_131 : decode cX12_count 131 = .ok (.goto (-26), 3) := by decide +kernel
theorem dX12_count_134 : decode cX12_count 134 = .ok (.iload_n 2, 1) := by decide +kernel
theorem dX12_count_135 : decode cX12_count 135 = .ok (.ireturn, 1) := by decide +kernel
theorem dX12_count_136 : decode cX12_count 136 = .ok (.bipush (-2), 2) := by decide +kernel
theorem dX12_count_138 : decode cX12_count 138 = .ok (.ireturn, 1) := by decide +kernel
theorem dJxe99ae_isNaN_b9ae7_0 : decode cJxe99ae_isNaN_b9ae7 0 = .ok (.dload_n 0, 1) := by decide +kernel
theorem dJxe99ae_isNaN_b9ae7_1 : decode cJxe99ae_isNaN_b9ae7 1 = .ok (.dload_n 0, 1) := by decide +kernel
theorem dJxe99ae_isNaN_b9ae7_2 : decode cJxe99ae_isNaN_b9ae7 2 = .ok (.dcmp .l, 1) := by decide +kernel
theorem dJxe99ae_isNaN_b9ae7_3 : decode cJxe99ae_isNaN_b9ae7 3 = .ok (.ifCond .eq 7, 3) := by decide +kernel
theorem dJxe99ae_isNaN_b9ae7_6 : decode cJxe99ae_isNaN_b9ae7 6 = .ok (.iconst 1, 1) := by decide +kernel
theorem dJxe99ae_isNaN_b9ae7_7 : decode cJxe99ae_isNaN_b9ae7 7 = .ok (.goto 4, 3) := by decide +kernel
theorem dJxe99ae_isNaN_b9ae7_10 : decode cJxe99ae_isNaN_b9ae7 10 = .ok (.iconst 0, 1) := by decide +kernel
theorem dJxe99ae_isNaN_b9ae7_11 : decode cJxe99ae_isNaN_b9ae7 11 = .ok (.ireturn, 1) := by decide +kernel
theorem dJxe99ae_doubleToLongBits_ccdee_0 : decode cJxe99ae_doubleToLongBits_ccdee 0 = .ok (.dload_n 0, 1) := by decide +kernel
theorem dJxe99ae_doubleToLongBits_ccdee_1 : decode cJxe99ae_doubleToLongBits_ccdee 1 = .ok (.invokestatic 122, 3) := by decide +kernel
theorem dJxe99ae_doubleToLongBits_ccdee_4 : decode cJxe99ae_doubleToLongBits_ccdee 4 = .ok (.ifCond .ne 8, 3) := by decide +kernel
theorem dJxe99ae_doubleToLongBits_ccdee_7 : decode cJxe99ae_doubleToLongBits_ccdee 7 = .ok (.dload_n 0, 1) := by decide +kernel
theorem dJxe99ae_doubleToLongBits_ccdee_8 : decode cJxe99ae_doubleToLongBits_ccdee 8 = .ok (.invokestatic 134, 3) := by decide +kernel
theorem dJxe99ae_doubleToLongBits_ccdee_11 : decode cJxe99ae_doubleToLongBits_ccdee 11 = .ok (.lreturn, 1) := by decide +kernel
theorem dJxe99ae_doubleToLongBits_ccdee_12 : decode cJxe99ae_doubleToLongBits_ccdee 12 = .ok (.ldc2_w 137, 3) := by decide +kernel
theorem dJxe99ae_doubleToLongBits_ccdee_15 : decode cJxe99ae_doubleToLongBits_ccdee 15 = .ok (.lreturn, 1) := by decide +kernel
theorem dJxf58ca_isNaN_12338_0 : decode cJxf58ca_isNaN_12338 0 = .ok (.fload_n 0, 1) := by decide +kernel
theorem dJxf58ca_isNaN_12338_1 : decode cJxf58ca_isNaN_12338 1 = .ok (.fload_n 0, 1) := by decide +kernel
theorem dJxf58ca_isNaN_12338_2 : decode cJxf58ca_isNaN_12338 2 = .ok (.fcmp .l, 1) := by decide +kernel
theorem dJxf58ca_isNaN_12338_3 : decode cJxf58ca_isNaN_12338 3 = .ok (.ifCond .eq 7, 3) := by decide +kernel
theorem dJxf58ca_isNaN_12338_6 : decode cJxf58ca_isNaN_12338 6 = .ok (.iconst 1, 1) := by decide +kernel
theorem dJxf58ca_isNaN_12338_7 : decode cJxf58ca_isNaN_12338 7 = .ok (.goto 4, 3) := by decide +kernel
theorem dJxf58ca_isNaN_12338_10 : decode cJxf58ca_isNaN_12338 10 = .ok (.iconst 0, 1) := by decide +kernel
theorem dJxf58ca_isNaN_12338_11 : decode cJxf58ca_isNaN_12338 11 = .ok (.ireturn, 1) := by decide +kernel
theorem dJxf58ca_floatToIntBits_5c35a_0 : decode cJxf58ca_floatToIntBits_5c35a 0 = .ok (.fload_n 0, 1) := by decide +kernel
theorem dJxf58ca_floatToIntBits_5c35a_1 : decode cJxf58ca_floatToIntBits_5c35a 1 = .ok (.invokestatic 59, 3) := by decide +kernel
theorem dJxf58ca_floatToIntBits_5c35a_4 : decode cJxf58ca_floatToIntBits_5c35a 4 = .ok (.ifCond .ne 8, 3) := by decide +kernel
theorem dJxf58ca_floatToIntBits_5c35a_7 : decode cJxf58ca_floatToIntBits_5c35a 7 = .ok (.fload_n 0, 1) := by decide +kernel
theorem dJxf58ca_floatToIntBits_5c35a_8 : decode cJxf58ca_floatToIntBits_5c35a 8 = .ok (.invokestatic 74, 3) := by decide +kernel
theorem dJxf58ca_floatToIntBits_5c35a_11 : decode cJxf58ca_floatToIntBits_5c35a 11 = .ok (.ireturn, 1) := by decide +kernel
theorem dJxf58ca_floatToIntBits_5c35a_12 : decode cJxf58ca_floatToIntBits_5c35a 12 = .ok (.ldc 77, 2) := by decide +kernel
theorem dJxf58ca_floatToIntBits_5c35a_14 : decode cJxf58ca_floatToIntBits_5c35a 14 = .ok (.ireturn, 1) := by decide +kernel
theorem dJ13_compare_74951_0 : decode cJ13_compare_74951 0 = .ok (.lload_n 0, 1) := by decide +kernel
theorem dJ13_compare_74951_1 : decode cJ13_compare_74951 1 = .ok (.lload_n 2, 1) := by decide +kernel
theorem dJ13_compare_74951_2 : decode cJ13_compare_74951 2 = .ok (.lcmp, 1) := by decide +kernel
theorem dJ13_compare_74951_3 : decode cJ13_compare_74951 3 = .ok (.ifCond .ge 7, 3) := by decide +kernel
theorem dJ13_compare_74951_6 : decode cJ13_compare_74951 6 = .ok (.iconst (-1), 1) := by decide +kernel
theorem dJ13_compare_74951_7 : decode cJ13_compare_74951 7 = .ok (.goto 14, 3) := by decide +kernel
theorem dJ13_compare_74951_10 : decode cJ13_compare_74951 10 = .ok (.lload_n 0, 1) := by decide +kernel
theorem dJ13_compare_74951_11 : decode cJ13_compare_74951 11 = .ok (.lload_n 2, 1) := by decide +kernel
theorem dJ13_compare_74951_12 : decode cJ13_compare_74951 12 = .ok (.lcmp, 1) := by decide +kernel
theorem dJ13_compare_74951_13 : decode cJ13_compare_74951 13 = .ok (.ifCond .ne 7, 3) := by decide +kernel
theorem dJ13_compare_74951_16 : decode cJ13_compare_74951 16 = .ok (.iconst 0, 1) := by decide +kernel
theorem dJ13_compare_74951_17 : decode cJ13_compare_74951 17 = .ok (.goto 4, 3) := by decide +kernel
theorem dJ13_compare_74951_20 : decode cJ13_compare_74951 20 = .ok (.iconst 1, 1) := by decide +kernel
theorem dJ13_compare_74951_21 : decode cJ13_compare_74951 21 = .ok (.ireturn, 1) := by decide +kernel
theorem dJ13_signum_95d88_0 : decode cJ13_signum_95d88 0 = .ok (.lload_n 0, 1) := by decide +kernel
theorem dJ13_signum_95d88_1 : decode cJ13_signum_95d88 1 = .ok (.bipush 63, 2) := by decide +kernel
theorem dJ13_signum_95d88_3 : decode cJ13_signum_95d88 3 = .ok (.lshr, 1) := by decide +kernel
theorem dJ13_signum_95d88_4 : decode cJ13_signum_95d88 4 = .ok (.lload_n 0, 1) := by decide +kernel
theorem dJ13_signum_95d88_5 : decode cJ13_signum_95d88 5 = .ok (.lneg, 1) := by decide +kernel
theorem dJ13_signum_95d88_6 : decode cJ13_signum_95d88 6 = .ok (.bipush 63, 2) := by decide +kernel
theorem dJ13_signum_95d88_8 : decode cJ13_signum_95d88 8 = .ok (.lushr, 1) := by decide +kernel
theorem dJ13_signum_95d88_9 : decode cJ13_signum_95d88 9 = .ok (.lor, 1) := by decide +kernel
theorem dJ13_signum_95d88_10 : decode cJ13_signum_95d88 10 = .ok (.l2i, 1) := by decide +kernel
theorem dJ13_signum_95d88_11 : decode cJ13_signum_95d88 11 = .ok (.ireturn, 1) := by decide +kernel
theorem dJ9_floorDiv_f86c9_0 : decode cJ9_floorDiv_f86c9 0 = .ok (.lload_n 0, 1) := by decide +kernel
theorem dJ9_floorDiv_f86c9_1 : decode cJ9_floorDiv_f86c9 1 = .ok (.lload_n 2, 1) := by decide +kernel
theorem dJ9_floorDiv_f86c9_2 : decode cJ9_floorDiv_f86c9 2 = .ok (.ldiv, 1) := by decide +kernel
theorem dJ9_floorDiv_f86c9_3 : decode cJ9_floorDiv_f86c9 3 = .ok (.lstore 4, 2) := by decide +kernel
theorem dJ9_floorDiv_f86c9_5 : decode cJ9_floorDiv_f86c9 5 = .ok (.lload_n 0, 1) := by decide +kernel
theorem dJ9_floorDiv_f86c9_6 : decode cJ9_floorDiv_f86c9 6 = .ok (.lload_n 2, 1) := by decide +kernel
theorem dJ9_floorDiv_f86c9_7 : decode cJ9_floorDiv_f86c9 7 = .ok (.lxor, 1) := by decide +kernel
theorem dJ9_floorDiv_f86c9_8 : decode cJ9_floorDiv_f86c9 8 = .ok (.lconst 0, 1) := by decide +kernel
theorem dJ9_floorDiv_f86c9_9 : decode cJ9_floorDiv_f86c9 9 = .ok (.lcmp, 1) := by decide +kernel
theorem dJ9_floorDiv_f86c9_10 : decode cJ9_floorDiv_f86c9 10 = .ok (.ifCond .ge 17, 3) := by decide +kernel
theorem dJ9_floorDiv_f86c9_13 : decode cJ9_floorDiv_f86c9 13 = .ok (.lload 4, 2) := by decide +kernel
theorem dJ9_floorDiv_f86c9_15 : decode cJ9_floorDiv_f86c9 15 = .ok (.lload_n 2, 1) := by decide +kernel
theorem dJ9_floorDiv_f86c9_16 : decode cJ9_floorDiv_f86c9 16 = .ok (.lmul, 1) := by decide +kernel
theorem dJ9_floorDiv_f86c9_17 : decode cJ9_floorDiv_f86c9 17 = .ok (.lload_n 0, 1) := by decide +kernel
theorem dJ9_floorDiv_f86c9_18 : decode cJ9_floorDiv_f86c9 18 = .ok (.lcmp, 1) := by decide +kernel
theorem dJ9_floorDiv_f86c9_19 : decode cJ9_floorDiv_f86c9 19 = .ok (.ifCond .eq 8, 3) := by decide +kernel
theorem dJ9_floorDiv_f86c9_22 : decode cJ9_floorDiv_f86c9 22 = .ok (.lload 4, 2) := by decide +kernel
theorem dJ9_floorDiv_f86c9_24 : decode cJ9_floorDiv_f86c9 24 = .ok (.lconst 1, 1) := by decide +kernel
theorem dJ9_floorDiv_f86c9_25 : decode cJ9_floorDiv_f86c9 25 = .ok (.lsub, 1) := by decide +kernel
theorem dJ9_floorDiv_f86c9_26 : decode cJ9_floorDiv_f86c9 26 = .ok (.lreturn, 1) := by decide +kernel
theorem dJ9_floorDiv_f86c9_27 : decode cJ9_floorDiv_f86c9 27 = .ok (.lload 4, 2) := by decide +kernel
theorem dJ9_floorDiv_f86c9_29 : decode cJ9_floorDiv_f86c9 29 = .ok (.lreturn, 1) := by decide +kernel
theorem dJ9_abs_0f7a4_0 : decode cJ9_abs_0f7a4 0 = .ok (.iload_n 0, 1) := by decide +kernel
theorem dJ9_abs_0f7a4_1 : decode cJ9_abs_0f7a4 1 = .ok (.ifCond .ge 8, 3) := by decide +kernel
theorem dJ9_abs_0f7a4_4 : decode cJ9_abs_0f7a4 4 = .ok (.iload_n 0, 1) := by decide +kernel
theorem dJ9_abs_0f7a4_5 : decode cJ9_abs_0f7a4 5 = .ok (.ineg, 1) := by decide +kernel
theorem dJ9_abs_0f7a4_6 : decode cJ9_abs_0f7a4 6 = .ok (.goto 4, 3) := by decide +kernel
theorem dJ9_abs_0f7a4_9 : decode cJ9_abs_0f7a4 9 = .ok (.iload_n 0, 1) := by decide +kernel
theorem dJ9_abs_0f7a4_10 : decode cJ9_abs_0f7a4 10 = .ok (.ireturn, 1) := by decide +kernel
theorem dJ9_abs_067f4_0 : decode cJ9_abs_067f4 0 = .ok (.lload_n 0, 1) := by decide +kernel
theorem dJ9_abs_067f4_1 : decode cJ9_abs_067f4 1 = .ok (.lconst 0, 1) := by decide +kernel
theorem dJ9_abs_067f4_2 : decode cJ9_abs_067f4 2 = .ok (.lcmp, 1) := by decide +kernel
theorem dJ9_abs_067f4_3 : decode cJ9_abs_067f4 3 = .ok (.ifCond .ge 8, 3) := by decide +kernel
theorem dJ9_abs_067f4_6 : decode cJ9_abs_067f4 6 = .ok (.lload_n 0, 1) := by decide +kernel
theorem dJ9_abs_067f4_7 : decode cJ9_abs_067f4 7 = .ok (.lneg, 1) := by decide +kernel
theorem dJ9_abs_067f4_8 : decode cJ9_abs_067f4 8 = .ok (.goto 4, 3) := by decide +kernel
theorem dJ9_abs_067f4_11 : decode cJ9_abs_067f4 11 = .ok (.lload_n 0, 1) := by decide +kernel
theorem dJ9_abs_067f4_12 : decode cJ9_abs_067f4 12 = .ok (.lreturn, 1) := by decide +kernel
theorem dJ9_min_7cf53_0 : decode cJ9_min_7cf53 0 = .ok (.iload_n 0, 1) := by decide +kernel
theorem dJ9_min_7cf53_1 : decode cJ9_min_7cf53 1 = .ok (.iload_n 1, 1) := by decide +kernel
theorem dJ9_min_7cf53_2 : decode cJ9_min_7cf53 2 = .ok (.if_icmp .gt 7, 3) := by decide +kernel
theorem dJ9_min_7cf53_5 : decode cJ9_min_7cf53 5 = .ok (.iload_n 0, 1) := by decide +kernel
theorem dJ9_min_7cf53_6 : decode cJ9_min_7cf53 6 = .ok (.goto 4, 3) := by decide +kernel
theorem dJ9_min_7cf53_9 : decode cJ9_min_7cf53 9 = .ok (.iload_n 1, 1) := by decide +kernel
theorem dJ9_min_7cf53_10 : decode cJ9_min_7cf53 10 = .ok (.ireturn, 1) := by decide +kernel
theorem dJ0_charAt_5068e_0 : decode cJ0_charAt_5068e 0 = .ok (.aload_n 0, 1) := by decide +kernel
theorem dJ0_charAt_5068e_1 : decode cJ0_charAt_5068e 1 = .ok (.invokevirtual 492, 3) := by decide +kernel
theorem dJ0_charAt_5068e_4 : decode cJ0_charAt_5068e 4 = .ok (.ifCond .eq 12, 3) := by decide +kernel
theorem dJ0_charAt_5068e_7 : decode cJ0_charAt_5068e 7 = .ok (.aload_n 0, 1) := by decide +kernel
theorem dJ0_charAt_5068e_8 : decode cJ0_charAt_5068e 8 = .ok (.getfield 9, 3) := by decide +kernel
theorem dJ0_charAt_5068e_11 : decode cJ0_charAt_5068e 11 = .ok (.iload_n 1, 1) := by decide +kernel
theorem dJ0_charAt_5068e_12 : decode cJ0_charAt_5068e 12 = .ok (.invokestatic 495, 3) := by decide +kernel
theorem dJ0_charAt_5068e_15 : decode cJ0_charAt_5068e 15 = .ok (.ireturn, 1) := by decide +kernel
theorem dJ0_charAt_5068e_16 : decode cJ0_charAt_5068e 16 = .ok (.aload_n 0, 1) := by decide +kernel
theorem dJ0_charAt_5068e_17 : decode cJ0_charAt_5068e 17 = .ok (.getfield 9, 3) := by decide +kernel
theorem dJ0_charAt_5068e_20 : decode cJ0_charAt_5068e 20 = .ok (.iload_n 1, 1) := by decide +kernel
theorem dJ0_charAt_5068e_21 : decode cJ0_charAt_5068e 21 = .ok (.invokestatic 498, 3) := by decide +kernel
theorem dJ0_charAt_5068e_24 : decode cJ0_charAt_5068e 24 = .ok (.ireturn, 1) := by decide +kernel
theorem dJ0_isLatin1_aae02_0 : decode cJ0_isLatin1_aae02 0 = .ok (.getstatic 38, 3) := by decide +kernel
theorem dJ0_isLatin1_aae02_3 : decode cJ0_isLatin1_aae02 3 = .ok (.ifCond .eq 14, 3) := by decide +kernel
theorem dJ0_isLatin1_aae02_6 : decode cJ0_isLatin1_aae02 6 = .ok (.aload_n 0, 1) := by decide +kernel
theorem dJ0_isLatin1_aae02_7 : decode cJ0_isLatin1_aae02 7 = .ok (.getfield 15, 3) := by decide +kernel
theorem dJ0_isLatin1_aae02_10 : decode cJ0_isLatin1_aae02 10 = .ok (.ifCond .ne 7, 3) := by decide +kernel
theorem dJ0_isLatin1_aae02_13 : decode cJ0_isLatin1_aae02 13 = .ok (.iconst 1, 1) := by decide +kernel
theorem dJ0_isLatin1_aae02_14 : decode cJ0_isLatin1_aae02 14 = .ok (.goto 4, 3) := by decide +kernel
theorem dJ0_isLatin1_aae02_17 : decode cJ0_isLatin1_aae02 17 = .ok (.iconst 0, 1) := by decide +kernel
theorem dJ0_isLatin1_aae02_18 : decode cJ0_isLatin1_aae02 18 = .ok (.ireturn, 1) := by decide +kernel
theorem dJ0_checkIndex_df160_0 : decode cJ0_checkIndex_df160 0 = .ok (.iload_n 0, 1) := by decide +kernel
theorem dJ0_checkIndex_df160_1 : decode cJ0_checkIndex_df160 1 = .ok (.iload_n 1, 1) := by decide +kernel
theorem dJ0_checkIndex_df160_2 : decode cJ0_checkIndex_df160 2 = .ok (.getstatic 1053, 3) := by decide +kernel
theorem dJ0_checkIndex_df160_5 : decode cJ0_checkIndex_df160 5 = .ok (.invokestatic 1059, 3) := by decide +kernel
theorem dJ0_checkIndex_df160_8 : decode cJ0_checkIndex_df160 8 = .ok (.pop, 1) := by decide +kernel
theorem dJ0_checkIndex_df160_9 : decode cJ0_checkIndex_df160 9 = .ok (.return_, 1) := by decide +kernel
theorem dJ1_charAt_3b067_0 : decode cJ1_charAt_3b067 0 = .ok (.iload_n 1, 1) := by decide +kernel
theorem dJ1_charAt_3b067_1 : decode cJ1_charAt_3b067 1 = .ok (.aload_n 0, 1) := by decide +kernel
theorem dJ1_charAt_3b067_2 : decode cJ1_charAt_3b067 2 = .ok (.arraylength, 1) := by decide +kernel
theorem dJ1_charAt_3b067_3 : decode cJ1_charAt_3b067 3 = .ok (.invokestatic 9, 3) := by decide +kernel
theorem dJ1_charAt_3b067_6 : decode cJ1_charAt_3b067 6 = .ok (.aload_n 0, 1) := by decide +kernel
theorem dJ1_charAt_3b067_7 : decode cJ1_charAt_3b067 7 = .ok (.iload_n 1, 1) := by decide +kernel
theorem dJ1_charAt_3b067_8 : decode cJ1_charAt_3b067 8 = .ok (.baload, 1) := by decide +kernel
theorem dJ1_charAt_3b067_9 : decode cJ1_charAt_3b067 9 = .ok (.sipush 255, 3) := by decide +kernel
theorem dJ1_charAt_3b067_12 : decode cJ1_charAt_3b067 12 = .ok (.iand, 1) := by decide +kernel
theorem dJ1_charAt_3b067_13 : decode cJ1_charAt_3b067 13 = .ok (.i2c, 1) := by decide +kernel
theorem dJ1_charAt_3b067_14 : decode cJ1_charAt_3b067 14 = .ok (.ireturn, 1) := by decide +kernel
theorem dJ2_getChar_3b067_0 : decode cJ2_getChar_3b067 0 = .ok (.getstatic 44, 3) := by decide +kernel
theorem dJ2_getChar_3b067_3 : decode cJ2_getChar_3b067 3 = .ok (.ifCond .ne 25, 3) := by decide +kernel
theorem dJ2_getChar_3b067_6 : decode cJ2_getChar_3b067 6 = .ok (.iload_n 1, 1) := by decide +kernel
theorem dJ2_getChar_3b067_7 : decode cJ2_getChar_3b067 7 = .ok (.ifCond .lt 11, 3) := by decide +kernel
theorem dJ2_getChar_3b067_10 : decode cJ2_getChar_3b067 10 = .ok (.iload_n 1, 1) := by decide +kernel
theorem dJ2_getChar_3b067_11 : decode cJ2_getChar_3b067 11 = .ok (.aload_n 0, 1) := by decide +kernel
theorem dJ2_getChar_3b067_12 : decode cJ2_getChar_3b067 12 = .ok (.invokestatic 48, 3) := by decide +kernel
theorem dJ2_getChar_3b067_15 : decode cJ2_getChar_3b067 15 = .ok (.if_icmp .lt 13, 3) := by decide +kernel
theorem dJ2_getChar_3b067_18 : decode cJ2_getChar_3b067 18 = .ok (.new 52, 3) := by decide +kernel
theorem dJ2_getChar_3b067_21 : decode cJ2_getChar_3b067 21 = .ok (.dup, 1) := by decide +kernel
theorem dJ2_getChar_3b067_22 : decode cJ2_getChar_3b067 22 = .ok (.ldc 54, 2) := by decide +kernel
theorem dJ2_getChar_3b067_24 : decode cJ2_getChar_3b067 24 = .ok (.invokespecial 56, 3) := by decide +kernel
theorem dJ2_getChar_3b067_27 : decode cJ2_getChar_3b067 27 = .ok (.athrow, 1) := by decide +kernel
theorem dJ2_getChar_3b067_28 : decode cJ2_getChar_3b067 28 = .ok (.iload_n 1, 1) := by decide +kernel
theorem dJ2_getChar_3b067_29 : decode cJ2_getChar_3b067 29 = .ok (.iconst 1, 1) := by decide +kernel
theorem dJ2_getChar_3b067_30 : decode cJ2_getChar_3b067 30 = .ok (.ishl, 1) := by decide +kernel
theorem dJ2_getChar_3b067_31 : decode cJ2_getChar_3b067 31 = .ok (.istore_n 1, 1) := by decide +kernel
theorem dJ2_getChar_3b067_32 : decode cJ2_getChar_3b067 32 = .ok (.aload_n 0, 1) := by decide +kernel
theorem dJ2_getChar_3b067_33 : decode cJ2_getChar_3b067 33 = .ok (.iload_n 1, 1) := by decide +kernel
theorem dJ2_getChar_3b067_34 : decode cJ2_getChar_3b067 34 = .ok (.iinc 1 1, 3) := by decide +kernel
theorem dJ2_getChar_3b067_37 : decode cJ2_getChar_3b067 37 = .ok (.baload, 1) := by decide +kernel
theorem dJ2_getChar_3b067_38 : decode cJ2_getChar_3b067 38 = .ok (.sipush 255, 3) := by decide +kernel
theorem dJ2_getChar_3b067_41 : decode cJ2_getChar_3b067 41 = .ok (.iand, 1) := by decide +kernel
theorem dJ2_getChar_3b067_42 : decode cJ2_getChar_3b067 42 = .ok (.getstatic 59, 3) := by decide +kernel
theorem dJ2_getChar_3b067_45 : decode cJ2_getChar_3b067 45 = .ok (.ishl, 1) := by decide +kernel
theorem dJ2_getChar_3b067_46 : decode cJ2_getChar_3b067 46 = .ok (.aload_n 0, 1) := by decide +kernel
theorem dJ2_getChar_3b067_47 : decode cJ2_getChar_3b067 47 = .ok (.iload_n 1, 1) := by decide +kernel
theorem dJ2_getChar_3b067_48 : decode cJ2_getChar_3b067 48 = .ok (.baload, 1) := by decide +kernel
theorem dJ2_getChar_3b067_49 : decode cJ2_getChar_3b067 49 = .ok (.sipush 255, 3) := by decide +kernel
theorem dJ2_getChar_3b067_52 : decode cJ2_getChar_3b067 52 = .ok (.iand, 1) := by decide +kernel
theorem dJ2_getChar_3b067_53 : decode cJ2_getChar_3b067 53 = .ok (.getstatic 63, 3) := by decide +kernel
theorem dJ2_getChar_3b067_56 : decode cJ2_getChar_3b067 56 = .ok (.ishl, 1) := by decide +kernel
theorem dJ2_getChar_3b067_57 : decode cJ2_getChar_3b067 57 = .ok (.ior, 1) := by decide +kernel
theorem dJ2_getChar_3b067_58 : decode cJ2_getChar_3b067 58 = .ok (.i2c, 1) := by decide +kernel
theorem dJ2_getChar_3b067_59 : decode cJ2_getChar_3b067 59 = .ok (.ireturn, 1) := by decide +kernel
theorem dJ2_length_9d52b_0 : decode cJ2_length_9d52b 0 = .ok (.aload_n 0, 1) := by decide +kernel
theorem dJ2_length_9d52b_1 : decode cJ2_length_9d52b 1 = .ok (.arraylength, 1) := by decide +kernel
theorem dJ2_length_9d52b_2 : decode cJ2_length_9d52b 2 = .ok (.iconst 1, 1) := by decide +kernel
theorem dJ2_length_9d52b_3 : decode cJ2_length_9d52b 3 = .ok (.ishr, 1) := by decide +kernel
theorem dJ2_length_9d52b_4 : decode cJ2_length_9d52b 4 = .ok (.ireturn, 1) := by decide +kernel
theorem dJ2_charAt_3b067_0 : decode cJ2_charAt_3b067 0 = .ok (.iload_n 1, 1) := by decide +kernel
theorem dJ2_charAt_3b067_1 : decode cJ2_charAt_3b067 1 = .ok (.aload_n 0, 1) := by decide +kernel
theorem dJ2_charAt_3b067_2 : decode cJ2_charAt_3b067 2 = .ok (.invokestatic 67, 3) := by decide +kernel
theorem dJ2_charAt_3b067_5 : decode cJ2_charAt_3b067 5 = .ok (.aload_n 0, 1) := by decide +kernel
theorem dJ2_charAt_3b067_6 : decode cJ2_charAt_3b067 6 = .ok (.iload_n 1, 1) := by decide +kernel
theorem dJ2_charAt_3b067_7 : decode cJ2_charAt_3b067 7 = .ok (.invokestatic 71, 3) := by decide +kernel
theorem dJ2_charAt_3b067_10 : decode cJ2_charAt_3b067 10 = .ok (.ireturn, 1) := by decide +kernel
theorem dJ2_checkIndex_2214a_0 : decode cJ2_checkIndex_2214a 0 = .ok (.iload_n 0, 1) := by decide +kernel
theorem dJ2_checkIndex_2214a_1 : decode cJ2_checkIndex_2214a 1 = .ok (.aload_n 1, 1) := by decide +kernel
theorem dJ2_checkIndex_2214a_2 : decode cJ2_checkIndex_2214a 2 = .ok (.invokestatic 48, 3) := by decide +kernel
theorem dJ2_checkIndex_2214a_5 : decode cJ2_checkIndex_2214a 5 = .ok (.invokestatic 414, 3) := by decide +kernel
theorem dJ2_checkIndex_2214a_8 : decode cJ2_checkIndex_2214a 8 = .ok (.return_, 1) := by decide +kernel
theorem dJ3_checkIndex_8e157_0 : decode cJ3_checkIndex_8e157 0 = .ok (.iload_n 0, 1) := by decide +kernel
theorem dJ3_checkIndex_8e157_1 : decode cJ3_checkIndex_8e157 1 = .ok (.ifCond .lt 8, 3) := by decide +kernel
theorem dJ3_checkIndex_8e157_4 : decode cJ3_checkIndex_8e157 4 = .ok (.iload_n 0, 1) := by decide +kernel
theorem dJ3_checkIndex_8e157_5 : decode cJ3_checkIndex_8e157 5 = .ok (.iload_n 1, 1) := by decide +kernel
theorem dJ3_checkIndex_8e157_6 : decode cJ3_checkIndex_8e157 6 = .ok (.if_icmp .lt 10, 3) := by decide +kernel
theorem dJ3_checkIndex_8e157_9 : decode cJ3_checkIndex_8e157 9 = .ok (.aload_n 2, 1) := by decide +kernel
theorem dJ3_checkIndex_8e157_10 : decode cJ3_checkIndex_8e157 10 = .ok (.iload_n 0, 1) := by decide +kernel
theorem dJ3_checkIndex_8e157_11 : decode cJ3_checkIndex_8e157 11 = .ok (.iload_n 1, 1) := by decide +kernel
theorem dJ3_checkIndex_8e157_12 : decode cJ3_checkIndex_8e157 12 = .ok (.invokestatic 95, 3) := by decide +kernel
theorem dJ3_checkIndex_8e157_15 : decode cJ3_checkIndex_8e157 15 = .ok (.athrow, 1) := by decide +kernel
theorem dJ3_checkIndex_8e157_16 : decode cJ3_checkIndex_8e157 16 = .ok (.iload_n 0, 1) := by decide +kernel
theorem dJ3_checkIndex_8e157_17 : decode cJ3_checkIndex_8e157 17 = .ok (.ireturn, 1) := by decide +kernel
theorem dL_law_0 : decode cL_law 0 = .ok (.new 7, 3) := by decide +kernel
theorem dL_law_3 : decode cL_law 3 = .ok (.dup, 1) := by decide +kernel
theorem dL_law_4 : decode cL_law 4 = .ok (.invokespecial 9, 3) := by decide +kernel
theorem dL_law_7 : decode cL_law 7 = .ok (.astore_n 1, 1) := by decide +kernel
theorem dL_law_8 : decode cL_law 8 = .ok (.new 10, 3) := by decide +kernel
theorem dL_law_11 : decode cL_law 11 = .ok (.dup, 1) := by decide +kernel
theorem dL_law_12 : decode cL_law 12 = .ok (.invokespecial 12, 3) := by decide +kernel
theorem dL_law_15 : decode cL_law 15 = .ok (.astore_n 2, 1) := by decide +kernel
theorem dL_law_16 : decode cL_law 16 = .ok (.iconst 0, 1) := by decide +kernel
theorem dL_law_17 : decode cL_law 17 = .ok (.istore_n 3, 1) := by decide +kernel
theorem dL_law_18 : decode cL_law 18 = .ok (.iload_n 3, 1) := by decide +kernel
theorem dL_law_19 : decode cL_law 19 = .ok (.aload_n 0, 1) := by decide +kernel
theorem dL_law_20 : decode cL_law 20 = .ok (.arraylength, 1) := by decide +kernel
theorem dL_law_21 : decode cL_law 21 = .ok (.bipush 6, 2) := by decide +kernel
theorem dL_law_23 : decode cL_law 23 = .ok (.isub, 1) := by decide +kernel
theorem dL_law_24 : decode cL_law 24 = .ok (.if_icmp .gt 1449, 3) := by decide +kernel
theorem dL_law_27 : decode cL_law 27 = .ok (.aload_n 0, 1) := by decide +kernel
theorem dL_law_28 : decode cL_law 28 = .ok (.iload_n 3, 1) := by decide +kernel
theorem dL_law_29 : decode cL_law 29 = .ok (.iaload, 1) := by decide +kernel
theorem dL_law_30 : decode cL_law 30 = .ok (.bipush 63, 2) := by decide +kernel
theorem dL_law_32 : decode cL_law 32 = .ok (.iand, 1) := by decide +kernel
theorem dL_law_33 : decode cL_law 33 = .ok (.tableswitch 1434 0 36 #[163, 186, 199, 212, 225, 258, 291, 335, 379, 422, 435, 458, 491, 525, 558, 602, 646, 710, 763, 786, 819, 842, 886, 929, 972, 1045, 1079, 1122, 1146, 1190, 1223, 1266, 1309, 1352, 1385, 1398, 1411], 163) := by decide +kernel
theorem dL_law_196 : decode cL_law 196 = .ok (.aload_n 1, 1) := by decide +kernel
theorem dL_law_197 : decode cL_law 197 = .ok (.aload_n 0, 1) := by decide +kernel
theorem dL_law_198 : decode cL_law 198 = .ok (.iload_n 3, 1) := by decide +kernel
theorem dL_law_199 : decode cL_law 199 = .ok (.iconst 1, 1) := by decide +kernel
theorem dL_law_200 : decode cL_law 200 = .ok (.iadd, 1) := by decide +kernel
theorem dL_law_201 : decode cL_law 201 = .ok (.iaload, 1) := by decide +kernel
theorem dL_law_202 : decode cL_law 202 = .ok (.invokevirtual 13, 3) := by decide +kernel
theorem dL_law_205 : decode cL_law 205 = .ok (.aload_n 2, 1) := by decide +kernel
theorem dL_law_206 : decode cL_law 206 = .ok (.aload_n 0, 1) := by decide +kernel
theorem dL_law_207 : decode cL_law 207 = .ok (.iload_n 3, 1) := by decide +kernel
theorem dL_law_208 : decode cL_law 208 = .ok (.iconst 1, 1) := by decide +kernel
theorem dL_law_209 : decode cL_law 209 = .ok (.iadd, 1) := by decide +kernel
theorem dL_law_210 : decode cL_law 210 = .ok (.iaload, 1) := by decide +kernel
theorem dL_law_211 : decode cL_law 211 = .ok (.invokevirtual 17, 3) := by decide +kernel
theorem dL_law_214 : decode cL_law 214 = .ok (.if_icmp .eq 1253, 3) := by decide +kernel
theorem dL_law_217 : decode cL_law 217 = .ok (.iconst 0, 1) := by decide +kernel
theorem dL_law_218 : decode cL_law 218 = .ok (.ireturn, 1) := by decide +kernel
theorem dL_law_219 : decode cL_law 219 = .ok (.aload_n 1, 1) := by decide +kernel
theorem dL_law_220 : decode cL_law 220 = .ok (.invokevirtual 18, 3) := by decide +kernel
theorem dL_law_223 : decode cL_law 223 = .ok (.aload_n 2, 1) := by decide +kernel
theorem dL_law_224 : decode cL_law 224 = .ok (.invokevirtual 22, 3) := by decide +kernel
theorem dL_law_227 : decode cL_law 227 = .ok (.if_icmp .eq 1240, 3) := by decide +kernel
theorem dL_law_230 : decode cL_law 230 = .ok (.iconst 0, 1) := by decide +kernel
theorem dL_law_231 : decode cL_law 231 = .ok (.ireturn, 1) := by decide +kernel
theorem dL_law_232 : decode cL_law 232 = .ok (.aload_n 1, 1) := by decide +kernel
theorem dL_law_233 : decode cL_law 233 = .ok (.invokevirtual 23, 3) := by decide +kernel
theorem dL_law_236 : decode cL_law 236 = .ok (.aload_n 2, 1) := by decide +kernel
theorem dL_law_237 : decode cL_law 237 = .ok (.invokevirtual 26, 3) := by decide +kernel
theorem dL_law_240 : decode cL_law 240 = .ok (.if_icmp .eq 1227, 3) := by decide +kernel
theorem dL_law_243 : decode cL_law 243 = .ok (.iconst 0, 1) := by decide +kernel
theorem dL_law_244 : decode cL_law 244 = .ok (.ireturn, 1) := by decide +kernel
theorem dL_law_245 : decode cL_law 245 = .ok (.aload_n 1, 1) := by decide +kernel
theorem dL_law_246 : decode cL_law 246 = .ok (.invokevirtual 27, 3) := by decide +kernel
theorem dL_law_249 : decode cL_law 249 = .ok (.aload_n 2, 1) := by decide +kernel
theorem dL_law_250 : decode cL_law 250 = .ok (.invokevirtual 30, 3) := by decide +kernel
theorem dL_law_253 : decode cL_law 253 = .ok (.if_icmp .eq 1214, 3) := by decide +kernel
theorem dL_law_256 : decode cL_law 256 = .ok (.iconst 0, 1) := by decide +kernel
theorem dL_law_257 : decode cL_law 257 = .ok (.ireturn, 1) := by decide +kernel
theorem dL_law_258 : decode cL_law 258 = .ok (.aload_n 1, 1) := by decide +kernel
theorem dL_law_259 : decode cL_law 259 = .ok (.aload_n 0, 1) := by decide +kernel
theorem dL_law_260 : decode cL_law 260 = .ok (.iload_n 3, 1) := by decide +kernel
theorem dL_law_261 : decode cL_law 261 = .ok (.iconst 1, 1) := by decide +kernel
theorem dL_law_262 : decode cL_law 262 = .ok (.iadd, 1) := by decide +kernel
theorem dL_law_263 : decode cL_law 263 = .ok (.iaload, 1) := by decide +kernel
theorem dL_law_264 : decode cL_law 264 = .ok (.aload_n 0, 1) := by decide +kernel
theorem dL_law_265 : decode cL_law 265 = .ok (.iload_n 3, 1) := by decide +kernel
theorem dL_law_266 : decode cL_law 266 = .ok (.iconst 2, 1) := by decide +kernel
theorem dL_law_267 : decode cL_law 267 = .ok (.iadd, 1) := by decide +kernel
theorem dL_law_268 : decode cL_law 268 = .ok (.iaload, 1) := by decide +kernel
theorem dL_law_269 : decode cL_law 269 = .ok (.invokevirtual 31, 3) := by decide +kernel
theorem dL_law_272 : decode cL_law 272 = .ok (.aload_n 2, 1) := by decide +kernel
theorem dL_law_273 : decode cL_law 273 = .ok (.aload_n 0, 1) := by decide +kernel
theorem dL_law_274 : decode cL_law 274 = .ok (.iload_n 3, 1) := by decide +kernel
theorem dL_law_275 : decode cL_law 275 = .ok (.iconst 1, 1) := by decide +kernel
theorem dL_law_276 : decode cL_law 276 = .ok (.iadd, 1) := by decide +kernel
theorem dL_law_277 : decode cL_law 277 = .ok (.iaload, 1) := by decide +kernel
theorem dL_law_278 : decode cL_law 278 = .ok (.aload_n 0, 1) := by decide +kernel
theorem dL_law_279 : decode cL_law 279 = .ok (.iload_n 3, 1) := by decide +kernel
theorem dL_law_280 : decode cL_law 280 = .ok (.iconst 2, 1) := by decide +kernel
theorem dL_law_281 : decode cL_law 281 = .ok (.iadd, 1) := by decide +kernel
theorem dL_law_282 : decode cL_law 282 = .ok (.iaload, 1) := by decide +kernel
theorem dL_law_283 : decode cL_law 283 = .ok (.invokevirtual 35, 3) := by decide +kernel
theorem dL_law_286 : decode cL_law 286 = .ok (.if_icmp .eq 1181, 3) := by decide +kernel
theorem dL_law_289 : decode cL_law 289 = .ok (.iconst 0, 1) := by decide +kernel
theorem dL_law_290 : decode cL_law 290 = .ok (.ireturn, 1) := by decide +kernel
theorem dL_law_291 : decode cL_law 291 = .ok (.aload_n 1, 1) := by decide +kernel
theorem dL_law_292 : decode cL_law 292 = .ok (.aload_n 0, 1) := by decide +kernel
theorem dL_law_293 : decode cL_law 293 = .ok (.iload_n 3, 1) := by decide +kernel
theorem dL_law_294 : decode cL_law 294 = .ok (.iconst 1, 1) := by decide +kernel
theorem dL_law_295 : decode cL_law 295 = .ok (.iadd, 1) := by decide +kernel
theorem dL_law_296 : decode cL_law 296 = .ok (.iaload, 1) := by decide +kernel
theorem dL_law_297 : decode cL_law 297 = .ok (.aload_n 0, 1) := by decide +kernel
theorem dL_law_298 : decode cL_law 298 = .ok (.iload_n 3, 1) := by decide +kernel
theorem dL_law_299 : decode cL_law 299 = .ok (.iconst 2, 1) := by decide +kernel
theorem dL_law_300 : decode cL_law 300 = .ok (.iadd, 1) := by decide +kernel
theorem dL_law_301 : decode cL_law 301 = .ok (.iaload, 1) := by decide +kernel
theorem dL_law_302 : decode cL_law 302 = .ok (.invokevirtual 36, 3) := by decide +kernel
theorem dL_law_305 : decode cL_law 305 = .ok (.aload_n 2, 1) := by decide +kernel
theorem dL_law_306 : decode cL_law 306 = .ok (.aload_n 0, 1) := by decide +kernel
theorem dL_law_307 : decode cL_law 307 = .ok (.iload_n 3, 1) := by decide +kernel
theorem dL_law_308 : decode cL_law 308 = .ok (.iconst 1, 1) := by decide +kernel
theorem dL_law_309 : decode cL_law 309 = .ok (.iadd, 1) := by decide +kernel
theorem dL_law_310 : decode cL_law 310 = .ok (.iaload, 1) := by decide +kernel
theorem dL_law_311 : decode cL_law 311 = .ok (.aload_n 0, 1) := by decide +kernel
theorem dL_law_312 : decode cL_law 312 = .ok (.iload_n 3, 1) := by decide +kernel
theorem dL_law_313 : decode cL_law 313 = .ok (.iconst 2, 1) := by decide +kernel
theorem dL_law_314 : decode cL_law 314 = .ok (.iadd, 1) := by decide +kernel
theorem dL_law_315 : decode cL_law 315 = .ok (.iaload, 1) := by decide +kernel
theorem dL_law_316 : decode cL_law 316 = .ok (.invokevirtual 39, 3) := by decide +kernel
theorem dL_law_319 : decode cL_law 319 = .ok (.if_icmp .eq 1148, 3) := by decide +kernel
theorem dL_law_322 : decode cL_law 322 = .ok (.iconst 0, 1) := by decide +kernel
theorem dL_law_323 : decode cL_law 323 = .ok (.ireturn, 1) := by decide +kernel
theorem dL_law_324 : decode cL_law 324 = .ok (.aload_n 1, 1) := by decide +kernel
theorem dL_law_325 : decode cL_law 325 = .ok (.aload_n 0, 1) := by decide +kernel
theorem dL_law_326 : decode cL_law 326 = .ok (.iload_n 3, 1) := by decide +kernel
theorem dL_law_327 : decode cL_law 327 = .ok (.iconst 1, 1) := by decide +kernel
theorem dL_law_328 : decode cL_law 328 = .ok (.iadd, 1) := by decide +kernel
theorem dL_law_329 : decode cL_law 329 = .ok (.iaload, 1) := by decide +kernel
theorem dL_law_330 : decode cL_law 330 = .ok (.aload_n 0, 1) := by decide +kernel
theorem dL_law_331 : decode cL_law 331 = .ok (.iload_n 3, 1) := by decide +kernel
theorem dL_law_332 : decode cL_law 332 = .ok (.iconst 2, 1) := by decide +kernel
theorem dL_law_333 : decode cL_law 333 = .ok (.iadd, 1) := by decide +kernel
theorem dL_law_334 : decode cL_law 334 = .ok (.iaload, 1) := by decide +kernel
theorem dL_law_335 : decode cL_law 335 = .ok (.aload_n 0, 1) := by decide +kernel
theorem dL_law_336 : decode cL_law 336 = .ok (.iload_n 3, 1) := by decide +kernel
theorem dL_law_337 : decode cL_law 337 = .ok (.iconst 3, 1) := by decide +kernel
theorem dL_law_338 : decode cL_law 338 = .ok (.iadd, 1) := by decide +kernel
theorem dL_law_339 : decode cL_law 339 = .ok (.iaload, 1) := by decide +kernel
theorem dL_law_340 : decode cL_law 340 = .ok (.invokevirtual 40, 3) := by decide +kernel
theorem dL_law_343 : decode cL_law 343 = .ok (.aload_n 2, 1) := by decide +kernel
theorem dL_law_344 : decode cL_law 344 = .ok (.aload_n 0, 1) := by decide +kernel
theorem dL_law_345 : decode cL_law 345 = .ok (.iload_n 3, 1) := by decide +kernel
theorem dL_law_346 : decode cL_law 346 = .ok (.iconst 1, 1) := by decide +kernel
theorem dL_law_347 : decode cL_law 347 = .ok (.iadd, 1) := by decide +kernel
theorem dL_law_348 : decode cL_law 348 = .ok (.iaload, 1) := by decide +kernel
theorem dL_law_349 : decode cL_law 349 = .ok (.aload_n 0, 1) := by decide +kernel
theorem dL_law_350 : decode cL_law 350 = .ok (.iload_n 3, 1) := by decide +kernel
theorem dL_law_351 : decode cL_law 351 = .ok (.iconst 2, 1) := by decide +kernel
theorem dL_law_352 : decode cL_law 352 = .ok (.iadd, 1) := by decide +kernel
theorem dL_law_353 : decode cL_law 353 = .ok (.iaload, 1) := by decide +kernel
theorem dL_law_354 : decode cL_law 354 = .ok (.aload_n 0, 1) := by decide +kernel
theorem dL_law_355 : decode cL_law 355 = .ok (.iload_n 3, 1) := by decide +kernel
theorem dL_law_356 : decode cL_law 356 = .ok (.iconst 3, 1) := by decide +kernel
theorem dL_law_357 : decode cL_law 357 = .ok (.iadd, 1) := by decide +kernel
theorem dL_law_358 : decode cL_law 358 = .ok (.iaload, 1) := by decide +kernel
theorem dL_law_359 : decode cL_law 359 = .ok (.invokevirtual 44, 3) := by decide +kernel
theorem dL_law_362 : decode cL_law 362 = .ok (.lcmp, 1) := by decide +kernel
theorem dL_law_363 : decode cL_law 363 = .ok (.ifCond .eq 1104, 3) := by decide +kernel
theorem dL_law_366 : decode cL_law 366 = .ok (.iconst 0, 1) := by decide +kernel
theorem dL_law_367 : decode cL_law 367 = .ok (.ireturn, 1) := by decide +kernel
theorem dL_law_368 : decode cL_law 368 = .ok (.aload_n 1, 1) := by decide +kernel
theorem dL_law_369 : decode cL_law 369 = .ok (.aload_n 0, 1) := by decide +kernel
theorem dL_law_370 : decode cL_law 370 = .ok (.iload_n 3, 1) := by decide +kernel
theorem dL_law_371 : decode cL_law 371 = .ok (.iconst 1, 1) := by decide +kernel
theorem dL_law_372 : decode cL_law 372 = .ok (.iadd, 1) := by decide +kernel
theorem dL_law_373 : decode cL_law 373 = .ok (.iaload, 1) := by decide +kernel
theorem dL_law_374 : decode cL_law 374 = .ok (.aload_n 0, 1) := by decide +kernel
theorem dL_law_375 : decode cL_law 375 = .ok (.iload_n 3, 1) := by decide +kernel
theorem dL_law_376 : decode cL_law 376 = .ok (.iconst 2, 1) := by decide +kernel
theorem dL_law_377 : decode cL_law 377 = .ok (.iadd, 1) := by decide +kernel
theorem dL_law_378 : decode cL_law 378 = .ok (.iaload, 1) := by decide +kernel
theorem dL_law_379 : decode cL_law 379 = .ok (.aload_n 0, 1) := by decide +kernel
theorem dL_law_380 : decode cL_law 380 = .ok (.iload_n 3, 1) := by decide +kernel
theorem dL_law_381 : decode cL_law 381 = .ok (.iconst 3, 1) := by decide +kernel
theorem dL_law_382 : decode cL_law 382 = .ok (.iadd, 1) := by decide +kernel
theorem dL_law_383 : decode cL_law 383 = .ok (.iaload, 1) := by decide +kernel
theorem dL_law_384 : decode cL_law 384 = .ok (.invokevirtual 45, 3) := by decide +kernel
theorem dL_law_387 : decode cL_law 387 = .ok (.aload_n 2, 1) := by decide +kernel
theorem dL_law_388 : decode cL_law 388 = .ok (.aload_n 0, 1) := by decide +kernel
theorem dL_law_389 : decode cL_law 389 = .ok (.iload_n 3, 1) := by decide +kernel
theorem dL_law_390 : decode cL_law 390 = .ok (.iconst 1, 1) := by decide +kernel
theorem dL_law_391 : decode cL_law 391 = .ok (.iadd, 1) := by decide +kernel
theorem dL_law_392 : decode cL_law 392 = .ok (.iaload, 1) := by decide +kernel
theorem dL_law_393 : decode cL_law 393 = .ok (.aload_n 0, 1) := by decide +kernel
theorem dL_law_394 : decode cL_law 394 = .ok (.iload_n 3, 1) := by decide +kernel
theorem dL_law_395 : decode cL_law 395 = .ok (.iconst 2, 1) := by decide +kernel
theorem dL_law_396 : decode cL_law 396 = .ok (.iadd, 1) := by decide +kernel
theorem dL_law_397 : decode cL_law 397 = .ok (.iaload, 1) := by decide +kernel
theorem dL_law_398 : decode cL_law 398 = .ok (.aload_n 0, 1) := by decide +kernel
theorem dL_law_399 : decode cL_law 399 = .ok (.iload_n 3, 1) := by decide +kernel
theorem dL_law_400 : decode cL_law 400 = .ok (.iconst 3, 1) := by decide +kernel
theorem dL_law_401 : decode cL_law 401 = .ok (.iadd, 1) := by decide +kernel
theorem dL_law_402 : decode cL_law 402 = .ok (.iaload, 1) := by decide +kernel
theorem dL_law_403 : decode cL_law 403 = .ok (.invokevirtual 48, 3) := by decide +kernel
theorem dL_law_406 : decode cL_law 406 = .ok (.lcmp, 1) := by decide +kernel
theorem dL_law_407 : decode cL_law 407 = .ok (.ifCond .eq 1060, 3) := by decide +kernel
theorem dL_law_410 : decode cL_law 410 = .ok (.iconst 0, 1) := by decide +kernel
theorem dL_law_411 : decode cL_law 411 = .ok (.ireturn, 1) := by decide +kernel
theorem dL_law_412 : decode cL_law 412 = .ok (.aload_n 1, 1) := by decide +kernel
theorem dL_law_413 : decode cL_law 413 = .ok (.aload_n 0, 1) := by decide +kernel
theorem dL_law_414 : decode cL_law 414 = .ok (.iload_n 3, 1) := by decide +kernel
theorem dL_law_415 : decode cL_law 415 = .ok (.iconst 1, 1) := by decide +kernel
theorem dL_law_416 : decode cL_law 416 = .ok (.iadd, 1) := by decide +kernel
theorem dL_law_417 : decode cL_law 417 = .ok (.iaload, 1) := by decide +kernel
theorem dL_law_418 : decode cL_law 418 = .ok (.aload_n 0, 1) := by decide +kernel
theorem dL_law_419 : decode cL_law 419 = .ok (.iload_n 3, 1) := by decide +kernel
theorem dL_law_420 : decode cL_law 420 = .ok (.iconst 2, 1) := by decide +kernel
theorem dL_law_421 : decode cL_law 421 = .ok (.iadd, 1) := by decide +kernel
theorem dL_law_422 : decode cL_law 422 = .ok (.iaload, 1) := by decide +kernel
theorem dL_law_423 : decode cL_law 423 = .ok (.aload_n 0, 1) := by decide +kernel
theorem dL_law_424 : decode cL_law 424 = .ok (.iload_n 3, 1) := by decide +kernel
theorem dL_law_425 : decode cL_law 425 = .ok (.iconst 3, 1) := by decide +kernel
theorem dL_law_426 : decode cL_law 426 = .ok (.iadd, 1) := by decide +kernel
theorem dL_law_427 : decode cL_law 427 = .ok (.iaload, 1) := by decide +kernel
theorem dL_law_428 : decode cL_law 428 = .ok (.invokevirtual 49, 3) := by decide +kernel
theorem dL_law_431 : decode cL_law 431 = .ok (.aload_n 2, 1) := by decide +kernel
theorem dL_law_432 : decode cL_law 432 = .ok (.aload_n 0, 1) := by decide +kernel
theorem dL_law_433 : decode cL_law 433 = .ok (.iload_n 3, 1) := by decide +kernel
theorem dL_law_434 : decode cL_law 434 = .ok (.iconst 1, 1) := by decide +kernel
theorem dL_law_435 : decode cL_law 435 = .ok (.iadd, 1) := by decide +kernel
theorem dL_law_436 : decode cL_law 436 = .ok (.iaload, 1) := by decide +kernel
theorem dL_law_437 : decode cL_law 437 = .ok (.aload_n 0, 1) := by decide +kernel
theorem dL_law_438 : decode cL_law 438 = .ok (.iload_n 3, 1) := by decide +kernel
theorem dL_law_439 : decode cL_law 439 = .ok (.iconst 2, 1) := by decide +kernel
theorem dL_law_440 : decode cL_law 440 = .ok (.iadd, 1) := by decide +kernel
theorem dL_law_441 : decode cL_law 441 = .ok (.iaload, 1) := by decide +kernel
theorem dL_law_442 : decode cL_law 442 = .ok (.aload_n 0, 1) := by decide +kernel
theorem dL_law_443 : decode cL_law 443 = .ok (.iload_n 3, 1) := by decide +kernel
theorem dL_law_444 : decode cL_law 444 = .ok (.iconst 3, 1) := by decide +kernel
theorem dL_law_445 : decode cL_law 445 = .ok (.iadd, 1) := by decide +kernel
theorem dL_law_446 : decode cL_law 446 = .ok (.iaload, 1) := by decide +kernel
theorem dL_law_447 : decode cL_law 447 = .ok (.invokevirtual 53, 3) := by decide +kernel
theorem dL_law_450 : decode cL_law 450 = .ok (.if_icmp .eq 1017, 3) := by decide +kernel
theorem dL_law_453 : decode cL_law 453 = .ok (.iconst 0, 1) := by decide +kernel
theorem dL_law_454 : decode cL_law 454 = .ok (.ireturn, 1) := by decide +kernel
theorem dL_law_455 : decode cL_law 455 = .ok (.aload_n 1, 1) := by decide +kernel
theorem dL_law_456 : decode cL_law 456 = .ok (.invokevirtual 54, 3) := by decide +kernel
theorem dL_law_459 : decode cL_law 459 = .ok (.aload_n 2, 1) := by decide +kernel
theorem dL_law_460 : decode cL_law 460 = .ok (.invokevirtual 57, 3) := by decide +kernel
theorem dL_law_463 : decode cL_law 463 = .ok (.if_icmp .eq 1004, 3) := by decide +kernel
theorem dL_law_466 : decode cL_law 466 = .ok (.iconst 0, 1) := by decide +kernel
theorem dL_law_467 : decode cL_law 467 = .ok (.ireturn, 1) := by decide +kernel
theorem dL_law_468 : decode cL_law 468 = .ok (.aload_n 1, 1) := by decide +kernel
theorem dL_law_469 : decode cL_law 469 = .ok (.aload_n 0, 1) := by decide +kernel
theorem dL_law_470 : decode cL_law 470 = .ok (.iload_n 3, 1) := by decide +kernel
theorem dL_law_471 : decode cL_law 471 = .ok (.iconst 1, 1) := by decide +kernel
theorem dL_law_472 : decode cL_law 472 = .ok (.iadd, 1) := by decide +kernel
theorem dL_law_473 : decode cL_law 473 = .ok (.iaload, 1) := by decide +kernel
theorem dL_law_474 : decode cL_law 474 = .ok (.invokevirtual 58, 3) := by decide +kernel
theorem dL_law_477 : decode cL_law 477 = .ok (.aload_n 2, 1) := by decide +kernel
theorem dL_law_478 : decode cL_law 478 = .ok (.aload_n 0, 1) := by decide +kernel
theorem dL_law_479 : decode cL_law 479 = .ok (.iload_n 3, 1) := by decide +kernel
theorem dL_law_480 : decode cL_law 480 = .ok (.iconst 1, 1) := by decide +kernel
theorem dL_law_481 : decode cL_law 481 = .ok (.iadd, 1) := by decide +kernel
theorem dL_law_482 : decode cL_law 482 = .ok (.iaload, 1) := by decide +kernel
theorem dL_law_483 : decode cL_law 483 = .ok (.invokevirtual 61, 3) := by decide +kernel
theorem dL_law_486 : decode cL_law 486 = .ok (.if_icmp .eq 981, 3) := by decide +kernel
theorem dL_law_489 : decode cL_law 489 = .ok (.iconst 0, 1) := by decide +kernel
theorem dL_law_490 : decode cL_law 490 = .ok (.ireturn, 1) := by decide +kernel
theorem dL_law_491 : decode cL_law 491 = .ok (.aload_n 1, 1) := by decide +kernel
theorem dL_law_492 : decode cL_law 492 = .ok (.aload_n 0, 1) := by decide +kernel
theorem dL_law_493 : decode cL_law 493 = .ok (.iload_n 3, 1) := by decide +kernel
theorem dL_law_494 : decode cL_law 494 = .ok (.iconst 1, 1) := by decide +kernel
theorem dL_law_495 : decode cL_law 495 = .ok (.iadd, 1) := by decide +kernel
theorem dL_law_496 : decode cL_law 496 = .ok (.iaload, 1) := by decide +kernel
theorem dL_law_497 : decode cL_law 497 = .ok (.aload_n 0, 1) := by decide +kernel
theorem dL_law_498 : decode cL_law 498 = .ok (.iload_n 3, 1) := by decide +kernel
theorem dL_law_499 : decode cL_law 499 = .ok (.iconst 2, 1) := by decide +kernel
theorem dL_law_500 : decode cL_law 500 = .ok (.iadd, 1) := by decide +kernel
theorem dL_law_501 : decode cL_law 501 = .ok (.iaload, 1) := by decide +kernel
theorem dL_law_502 : decode cL_law 502 = .ok (.invokevirtual 62, 3) := by decide +kernel
theorem dL_law_505 : decode cL_law 505 = .ok (.aload_n 2, 1) := by decide +kernel
theorem dL_law_506 : decode cL_law 506 = .ok (.aload_n 0, 1) := by decide +kernel
theorem dL_law_507 : decode cL_law 507 = .ok (.iload_n 3, 1) := by decide +kernel
theorem dL_law_508 : decode cL_law 508 = .ok (.iconst 1, 1) := by decide +kernel
theorem dL_law_509 : decode cL_law 509 = .ok (.iadd, 1) := by decide +kernel
theorem dL_law_510 : decode cL_law 510 = .ok (.iaload, 1) := by decide +kernel
theorem dL_law_511 : decode cL_law 511 = .ok (.aload_n 0, 1) := by decide +kernel
theorem dL_law_512 : decode cL_law 512 = .ok (.iload_n 3, 1) := by decide +kernel
theorem dL_law_513 : decode cL_law 513 = .ok (.iconst 2, 1) := by decide +kernel
theorem dL_law_514 : decode cL_law 514 = .ok (.iadd, 1) := by decide +kernel
theorem dL_law_515 : decode cL_law 515 = .ok (.iaload, 1) := by decide +kernel
theorem dL_law_516 : decode cL_law 516 = .ok (.invokevirtual 65, 3) := by decide +kernel
theorem dL_law_519 : decode cL_law 519 = .ok (.if_icmp .eq 948, 3) := by decide +kernel
theorem dL_law_522 : decode cL_law 522 = .ok (.iconst 0, 1) := by decide +kernel
theorem dL_law_523 : decode cL_law 523 = .ok (.ireturn, 1) := by decide +kernel
theorem dL_law_524 : decode cL_law 524 = .ok (.aload_n 1, 1) := by decide +kernel
theorem dL_law_525 : decode cL_law 525 = .ok (.aload_n 0, 1) := by decide +kernel
theorem dL_law_526 : decode cL_law 526 = .ok (.iload_n 3, 1) := by decide +kernel
theorem dL_law_527 : decode cL_law 527 = .ok (.iconst 1, 1) := by decide +kernel
theorem dL_law_528 : decode cL_law 528 = .ok (.iadd, 1) := by decide +kernel
theorem dL_law_529 : decode cL_law 529 = .ok (.iaload, 1) := by decide +kernel
theorem dL_law_530 : decode cL_law 530 = .ok (.aload_n 0, 1) := by decide +kernel
theorem dL_law_531 : decode cL_law 531 = .ok (.iload_n 3, 1) := by decide +kernel
theorem dL_law_532 : decode cL_law 532 = .ok (.iconst 2, 1) := by decide +kernel
theorem dL_law_533 : decode cL_law 533 = .ok (.iadd, 1) := by decide +kernel
theorem dL_law_534 : decode cL_law 534 = .ok (.iaload, 1) := by decide +kernel
theorem dL_law_535 : decode cL_law 535 = .ok (.invokevirtual 66, 3) := by decide +kernel
theorem dL_law_538 : decode cL_law 538 = .ok (.aload_n 2, 1) := by decide +kernel
theorem dL_law_539 : decode cL_law 539 = .ok (.aload_n 0, 1) := by decide +kernel
theorem dL_law_540 : decode cL_law 540 = .ok (.iload_n 3, 1) := by decide +kernel
theorem dL_law_541 : decode cL_law 541 = .ok (.iconst 1, 1) := by decide +kernel
theorem dL_law_542 : decode cL_law 542 = .ok (.iadd, 1) := by decide +kernel
theorem dL_law_543 : decode cL_law 543 = .ok (.iaload, 1) := by decide +kernel
theorem dL_law_544 : decode cL_law 544 = .ok (.aload_n 0, 1) := by decide +kernel
theorem dL_law_545 : decode cL_law 545 = .ok (.iload_n 3, 1) := by decide +kernel
theorem dL_law_546 : decode cL_law 546 = .ok (.iconst 2, 1) := by decide +kernel
theorem dL_law_547 : decode cL_law 547 = .ok (.iadd, 1) := by decide +kernel
theorem dL_law_548 : decode cL_law 548 = .ok (.iaload, 1) := by decide +kernel
theorem dL_law_549 : decode cL_law 549 = .ok (.invokevirtual 70, 3) := by decide +kernel
theorem dL_law_552 : decode cL_law 552 = .ok (.lcmp, 1) := by decide +kernel
theorem dL_law_553 : decode cL_law 553 = .ok (.ifCond .eq 914, 3) := by decide +kernel
theorem dL_law_556 : decode cL_law 556 = .ok (.iconst 0, 1) := by decide +kernel
theorem dL_law_557 : decode cL_law 557 = .ok (.ireturn, 1) := by decide +kernel
theorem dL_law_558 : decode cL_law 558 = .ok (.aload_n 1, 1) := by decide +kernel
theorem dL_law_559 : decode cL_law 559 = .ok (.aload_n 0, 1) := by decide +kernel
theorem dL_law_560 : decode cL_law 560 = .ok (.iload_n 3, 1) := by decide +kernel
theorem dL_law_561 : decode cL_law 561 = .ok (.iconst 1, 1) := by decide +kernel
theorem dL_law_562 : decode cL_law 562 = .ok (.iadd, 1) := by decide +kernel
theorem dL_law_563 : decode cL_law 563 = .ok (.iaload, 1) := by decide +kernel
theorem dL_law_564 : decode cL_law 564 = .ok (.aload_n 0, 1) := by decide +kernel
theorem dL_law_565 : decode cL_law 565 = .ok (.iload_n 3, 1) := by decide +kernel
theorem dL_law_566 : decode cL_law 566 = .ok (.iconst 2, 1) := by decide +kernel
theorem dL_law_567 : decode cL_law 567 = .ok (.iadd, 1) := by decide +kernel
theorem dL_law_568 : decode cL_law 568 = .ok (.iaload, 1) := by decide +kernel
theorem dL_law_569 : decode cL_law 569 = .ok (.invokevirtual 71, 3) := by decide +kernel
theorem dL_law_572 : decode cL_law 572 = .ok (.aload_n 2, 1) := by decide +kernel
theorem dL_law_573 : decode cL_law 573 = .ok (.aload_n 0, 1) := by decide +kernel
theorem dL_law_574 : decode cL_law 574 = .ok (.iload_n 3, 1) := by decide +kernel
theorem dL_law_575 : decode cL_law 575 = .ok (.iconst 1, 1) := by decide +kernel
theorem dL_law_576 : decode cL_law 576 = .ok (.iadd, 1) := by decide +kernel
theorem dL_law_577 : decode cL_law 577 = .ok (.iaload, 1) := by decide +kernel
theorem dL_law_578 : decode cL_law 578 = .ok (.aload_n 0, 1) := by decide +kernel
theorem dL_law_579 : decode cL_law 579 = .ok (.iload_n 3, 1) := by decide +kernel
theorem dL_law_580 : decode cL_law 580 = .ok (.iconst 2, 1) := by decide +kernel
theorem dL_law_581 : decode cL_law 581 = .ok (.iadd, 1) := by decide +kernel
theorem dL_law_582 : decode cL_law 582 = .ok (.iaload, 1) := by decide +kernel
theorem dL_law_583 : decode cL_law 583 = .ok (.invokevirtual 74, 3) := by decide +kernel
theorem dL_law_586 : decode cL_law 586 = .ok (.if_icmp .eq 881, 3) := by decide +kernel
theorem dL_law_589 : decode cL_law 589 = .ok (.iconst 0, 1) := by decide +kernel
theorem dL_law_590 : decode cL_law 590 = .ok (.ireturn, 1) := by decide +kernel
theorem dL_law_591 : decode cL_law 591 = .ok (.aload_n 1, 1) := by decide +kernel
theorem dL_law_592 : decode cL_law 592 = .ok (.aload_n 0, 1) := by decide +kernel
theorem dL_law_593 : decode cL_law 593 = .ok (.iload_n 3, 1) := by decide +kernel
theorem dL_law_594 : decode cL_law 594 = .ok (.iconst 1, 1) := by decide +kernel
theorem dL_law_595 : decode cL_law 595 = .ok (.iadd, 1) := by decide +kernel
theorem dL_law_596 : decode cL_law 596 = .ok (.iaload, 1) := by decide +kernel
theorem dL_law_597 : decode cL_law 597 = .ok (.aload_n 0, 1) := by decide +kernel
theorem dL_law_598 : decode cL_law 598 = .ok (.iload_n 3, 1) := by decide +kernel
theorem dL_law_599 : decode cL_law 599 = .ok (.iconst 2, 1) := by decide +kernel
theorem dL_law_600 : decode cL_law 600 = .ok (.iadd, 1) := by decide +kernel
theorem dL_law_601 : decode cL_law 601 = .ok (.iaload, 1) := by decide +kernel
theorem dL_law_602 : decode cL_law 602 = .ok (.aload_n 0, 1) := by decide +kernel
theorem dL_law_603 : decode cL_law 603 = .ok (.iload_n 3, 1) := by decide +kernel
theorem dL_law_604 : decode cL_law 604 = .ok (.iconst 3, 1) := by decide +kernel
theorem dL_law_605 : decode cL_law 605 = .ok (.iadd, 1) := by decide +kernel
theorem dL_law_606 : decode cL_law 606 = .ok (.iaload, 1) := by decide +kernel
theorem dL_law_607 : decode cL_law 607 = .ok (.invokevirtual 75, 3) := by decide +kernel
theorem dL_law_610 : decode cL_law 610 = .ok (.aload_n 2, 1) := by decide +kernel
theorem dL_law_611 : decode cL_law 611 = .ok (.aload_n 0, 1) := by decide +kernel
theorem dL_law_612 : decode cL_law 612 = .ok (.iload_n 3, 1) := by decide +kernel
theorem dL_law_613 : decode cL_law 613 = .ok (.iconst 1, 1) := by decide +kernel
theorem dL_law_614 : decode cL_law 614 = .ok (.iadd, 1) := by decide +kernel
theorem dL_law_615 : decode cL_law 615 = .ok (.iaload, 1) := by decide +kernel
theorem dL_law_616 : decode cL_law 616 = .ok (.aload_n 0, 1) := by decide +kernel
theorem dL_law_617 : decode cL_law 617 = .ok (.iload_n 3, 1) := by decide +kernel
theorem dL_law_618 : decode cL_law 618 = .ok (.iconst 2, 1) := by decide +kernel
theorem dL_law_619 : decode cL_law 619 = .ok (.iadd, 1) := by decide +kernel
theorem dL_law_620 : decode cL_law 620 = .ok (.iaload, 1) := by decide +kernel
theorem dL_law_621 : decode cL_law 621 = .ok (.aload_n 0, 1) := by decide +kernel
theorem dL_law_622 : decode cL_law 622 = .ok (.iload_n 3, 1) := by decide +kernel
theorem dL_law_623 : decode cL_law 623 = .ok (.iconst 3, 1) := by decide +kernel
theorem dL_law_624 : decode cL_law 624 = .ok (.iadd, 1) := by decide +kernel
theorem dL_law_625 : decode cL_law 625 = .ok (.iaload, 1) := by decide +kernel
theorem dL_law_626 : decode cL_law 626 = .ok (.invokevirtual 78, 3) := by decide +kernel
theorem dL_law_629 : decode cL_law 629 = .ok (.lcmp, 1) := by decide +kernel
theorem dL_law_630 : decode cL_law 630 = .ok (.ifCond .eq 837, 3) := by decide +kernel
theorem dL_law_633 : decode cL_law 633 = .ok (.iconst 0, 1) := by decide +kernel
theorem dL_law_634 : decode cL_law 634 = .ok (.ireturn, 1) := by decide +kernel
theorem dL_law_635 : decode cL_law 635 = .ok (.aload_n 1, 1) := by decide +kernel
theorem dL_law_636 : decode cL_law 636 = .ok (.aload_n 0, 1) := by decide +kernel
theorem dL_law_637 : decode cL_law 637 = .ok (.iload_n 3, 1) := by decide +kernel
theorem dL_law_638 : decode cL_law 638 = .ok (.iconst 1, 1) := by decide +kernel
theorem dL_law_639 : decode cL_law 639 = .ok (.iadd, 1) := by decide +kernel
theorem dL_law_640 : decode cL_law 640 = .ok (.iaload, 1) := by decide +kernel
theorem dL_law_641 : decode cL_law 641 = .ok (.aload_n 0, 1) := by decide +kernel
theorem dL_law_642 : decode cL_law 642 = .ok (.iload_n 3, 1) := by decide +kernel
theorem dL_law_643 : decode cL_law 643 = .ok (.iconst 2, 1) := by decide +kernel
theorem dL_law_644 : decode cL_law 644 = .ok (.iadd, 1) := by decide +kernel
theorem dL_law_645 : decode cL_law 645 = .ok (.iaload, 1) := by decide +kernel
theorem dL_law_646 : decode cL_law 646 = .ok (.aload_n 0, 1) := by decide +kernel
theorem dL_law_647 : decode cL_law 647 = .ok (.iload_n 3, 1) := by decide +kernel
theorem dL_law_648 : decode cL_law 648 = .ok (.iconst 3, 1) := by decide +kernel
theorem dL_law_649 : decode cL_law 649 = .ok (.iadd, 1) := by decide +kernel
theorem dL_law_650 : decode cL_law 650 = .ok (.iaload, 1) := by decide +kernel
theorem dL_law_651 : decode cL_law 651 = .ok (.invokevirtual 79, 3) := by decide +kernel
theorem dL_law_654 : decode cL_law 654 = .ok (.aload_n 2, 1) := by decide +kernel
theorem dL_law_655 : decode cL_law 655 = .ok (.aload_n 0, 1) := by decide +kernel
theorem dL_law_656 : decode cL_law 656 = .ok (.iload_n 3, 1) := by decide +kernel
theorem dL_law_657 : decode cL_law 657 = .ok (.iconst 1, 1) := by decide +kernel
theorem dL_law_658 : decode cL_law 658 = .ok (.iadd, 1) := by decide +kernel
theorem dL_law_659 : decode cL_law 659 = .ok (.iaload, 1) := by decide +kernel
theorem dL_law_660 : decode cL_law 660 = .ok (.aload_n 0, 1) := by decide +kernel
theorem dL_law_661 : decode cL_law 661 = .ok (.iload_n 3, 1) := by decide +kernel
theorem dL_law_662 : decode cL_law 662 = .ok (.iconst 2, 1) := by decide +kernel
theorem dL_law_663 : decode cL_law 663 = .ok (.iadd, 1) := by decide +kernel
theorem dL_law_664 : decode cL_law 664 = .ok (.iaload, 1) := by decide +kernel
theorem dL_law_665 : decode cL_law 665 = .ok (.aload_n 0, 1) := by decide +kernel
theorem dL_law_666 : decode cL_law 666 = .ok (.iload_n 3, 1) := by decide +kernel
theorem dL_law_667 : decode cL_law 667 = .ok (.iconst 3, 1) := by decide +kernel
theorem dL_law_668 : decode cL_law 668 = .ok (.iadd, 1) := by decide +kernel
theorem dL_law_669 : decode cL_law 669 = .ok (.iaload, 1) := by decide +kernel
theorem dL_law_670 : decode cL_law 670 = .ok (.invokevirtual 82, 3) := by decide +kernel
theorem dL_law_673 : decode cL_law 673 = .ok (.lcmp, 1) := by decide +kernel
theorem dL_law_674 : decode cL_law 674 = .ok (.ifCond .eq 793, 3) := by decide +kernel
theorem dL_law_677 : decode cL_law 677 = .ok (.iconst 0, 1) := by decide +kernel
theorem dL_law_678 : decode cL_law 678 = .ok (.ireturn, 1) := by decide +kernel
theorem dL_law_679 : decode cL_law 679 = .ok (.aload_n 1, 1) := by decide +kernel
theorem dL_law_680 : decode cL_law 680 = .ok (.aload_n 0, 1) := by decide +kernel
theorem dL_law_681 : decode cL_law 681 = .ok (.iload_n 3, 1) := by decide +kernel
theorem dL_law_682 : decode cL_law 682 = .ok (.iconst 1, 1) := by decide +kernel
theorem dL_law_683 : decode cL_law 683 = .ok (.iadd, 1) := by decide +kernel
theorem dL_law_684 : decode cL_law 684 = .ok (.iaload, 1) := by decide +kernel
theorem dL_law_685 : decode cL_law 685 = .ok (.aload_n 0, 1) := by decide +kernel
theorem dL_law_686 : decode cL_law 686 = .ok (.iload_n 3, 1) := by decide +kernel
theorem dL_law_687 : decode cL_law 687 = .ok (.iconst 2, 1) := by decide +kernel
theorem dL_law_688 : decode cL_law 688 = .ok (.iadd, 1) := by decide +kernel
theorem dL_law_689 : decode cL_law 689 = .ok (.iaload, 1) := by decide +kernel
theorem dL_law_690 : decode cL_law 690 = .ok (.aload_n 0, 1) := by decide +kernel
theorem dL_law_691 : decode cL_law 691 = .ok (.iload_n 3, 1) := by decide +kernel
theorem dL_law_692 : decode cL_law 692 = .ok (.iconst 3, 1) := by decide +kernel
theorem dL_law_693 : decode cL_law 693 = .ok (.iadd, 1) := by decide +kernel
theorem dL_law_694 : decode cL_law 694 = .ok (.iaload, 1) := by decide +kernel
theorem dL_law_695 : decode cL_law 695 = .ok (.aload_n 0, 1) := by decide +kernel
theorem dL_law_696 : decode cL_law 696 = .ok (.iload_n 3, 1) := by decide +kernel
theorem dL_law_697 : decode cL_law 697 = .ok (.iconst 4, 1) := by decide +kernel
theorem dL_law_698 : decode cL_law 698 = .ok (.iadd, 1) := by decide +kernel
theorem dL_law_699 : decode cL_law 699 = .ok (.iaload, 1) := by decide +kernel
theorem dL_law_700 : decode cL_law 700 = .ok (.aload_n 0, 1) := by decide +kernel
theorem dL_law_701 : decode cL_law 701 = .ok (.iload_n 3, 1) := by decide +kernel
theorem dL_law_702 : decode cL_law 702 = .ok (.iconst 5, 1) := by decide +kernel
theorem dL_law_703 : decode cL_law 703 = .ok (.iadd, 1) := by decide +kernel
theorem dL_law_704 : decode cL_law 704 = .ok (.iaload, 1) := by decide +kernel
theorem dL_law_705 : decode cL_law 705 = .ok (.invokevirtual 83, 3) := by decide +kernel
theorem dL_law_708 : decode cL_law 708 = .ok (.aload_n 2, 1) := by decide +kernel
theorem dL_law_709 : decode cL_law 709 = .ok (.aload_n 0, 1) := by decide +kernel
theorem dL_law_710 : decode cL_law 710 = .ok (.iload_n 3, 1) := by decide +kernel
theorem dL_law_711 : decode cL_law 711 = .ok (.iconst 1, 1) := by decide +kernel
theorem dL_law_712 : decode cL_law 712 = .ok (.iadd, 1) := by decide +kernel
theorem dL_law_713 : decode cL_law 713 = .ok (.iaload, 1) := by decide +kernel
theorem dL_law_714 : decode cL_law 714 = .ok (.aload_n 0, 1) := by decide +kernel
theorem dL_law_715 : decode cL_law 715 = .ok (.iload_n 3, 1) := by decide +kernel
theorem dL_law_716 : decode cL_law 716 = .ok (.iconst 2, 1) := by decide +kernel
theorem dL_law_717 : decode cL_law 717 = .ok (.iadd, 1) := by decide +kernel
theorem dL_law_718 : decode cL_law 718 = .ok (.iaload, 1) := by decide +kernel
theorem dL_law_719 : decode cL_law 719 = .ok (.aload_n 0, 1) := by decide +kernel
theorem dL_law_720 : decode cL_law 720 = .ok (.iload_n 3, 1) := by decide +kernel
theorem dL_law_721 : decode cL_law 721 = .ok (.iconst 3, 1) := by decide +kernel
theorem dL_law_722 : decode cL_law 722 = .ok (.iadd, 1) := by decide +kernel
theorem dL_law_723 : decode cL_law 723 = .ok (.iaload, 1) := by decide +kernel
theorem dL_law_724 : decode cL_law 724 = .ok (.aload_n 0, 1) := by decide +kernel
theorem dL_law_725 : decode cL_law 725 = .ok (.iload_n 3, 1) := by decide +kernel
theorem dL_law_726 : decode cL_law 726 = .ok (.iconst 4, 1) := by decide +kernel
theorem dL_law_727 : decode cL_law 727 = .ok (.iadd, 1) := by decide +kernel
theorem dL_law_728 : decode cL_law 728 = .ok (.iaload, 1) := by decide +kernel
theorem dL_law_729 : decode cL_law 729 = .ok (.aload_n 0, 1) := by decide +kernel
theorem dL_law_730 : decode cL_law 730 = .ok (.iload_n 3, 1) := by decide +kernel
theorem dL_law_731 : decode cL_law 731 = .ok (.iconst 5, 1) := by decide +kernel
theorem dL_law_732 : decode cL_law 732 = .ok (.iadd, 1) := by decide +kernel
theorem dL_law_733 : decode cL_law 733 = .ok (.iaload, 1) := by decide +kernel
theorem dL_law_734 : decode cL_law 734 = .ok (.invokevirtual 87, 3) := by decide +kernel
theorem dL_law_737 : decode cL_law 737 = .ok (.lcmp, 1) := by decide +kernel
theorem dL_law_738 : decode cL_law 738 = .ok (.ifCond .eq 729, 3) := by decide +kernel
theorem dL_law_741 : decode cL_law 741 = .ok (.iconst 0, 1) := by decide +kernel
theorem dL_law_742 : decode cL_law 742 = .ok (.ireturn, 1) := by decide +kernel
theorem dL_law_743 : decode cL_law 743 = .ok (.aload_n 1, 1) := by decide +kernel
theorem dL_law_744 : decode cL_law 744 = .ok (.aload_n 0, 1) := by decide +kernel
theorem dL_law_745 : decode cL_law 745 = .ok (.iload_n 3, 1) := by decide +kernel
theorem dL_law_746 : decode cL_law 746 = .ok (.iconst 1, 1) := by decide +kernel
theorem dL_law_747 : decode cL_law 747 = .ok (.iadd, 1) := by decide +kernel
theorem dL_law_748 : decode cL_law 748 = .ok (.iaload, 1) := by decide +kernel
theorem dL_law_749 : decode cL_law 749 = .ok (.aload_n 0, 1) := by decide +kernel
theorem dL_law_750 : decode cL_law 750 = .ok (.iload_n 3, 1) := by decide +kernel
theorem dL_law_751 : decode cL_law 751 = .ok (.iconst 2, 1) := by decide +kernel
theorem dL_law_752 : decode cL_law 752 = .ok (.iadd, 1) := by decide +kernel
theorem dL_law_753 : decode cL_law 753 = .ok (.iaload, 1) := by decide +kernel
theorem dL_law_754 : decode cL_law 754 = .ok (.aload_n 0, 1) := by decide +kernel
theorem dL_law_755 : decode cL_law 755 = .ok (.iload_n 3, 1) := by decide +kernel
theorem dL_law_756 : decode cL_law 756 = .ok (.iconst 3, 1) := by decide +kernel
theorem dL_law_757 : decode cL_law 757 = .ok (.iadd, 1) := by decide +kernel
theorem dL_law_758 : decode cL_law 758 = .ok (.iaload, 1) := by decide +kernel
theorem dL_law_759 : decode cL_law 759 = .ok (.aload_n 0, 1) := by decide +kernel
theorem dL_law_760 : decode cL_law 760 = .ok (.iload_n 3, 1) := by decide +kernel
theorem dL_law_761 : decode cL_law 761 = .ok (.iconst 4, 1) := by decide +kernel
theorem dL_law_762 : decode cL_law 762 = .ok (.iadd, 1) := by decide +kernel
theorem dL_law_763 : decode cL_law 763 = .ok (.iaload, 1) := by decide +kernel
theorem dL_law_764 : decode cL_law 764 = .ok (.invokevirtual 88, 3) := by decide +kernel
theorem dL_law_767 : decode cL_law 767 = .ok (.aload_n 2, 1) := by decide +kernel
theorem dL_law_768 : decode cL_law 768 = .ok (.aload_n 0, 1) := by decide +kernel
theorem dL_law_769 : decode cL_law 769 = .ok (.iload_n 3, 1) := by decide +kernel
theorem dL_law_770 : decode cL_law 770 = .ok (.iconst 1, 1) := by decide +kernel
theorem dL_law_771 : decode cL_law 771 = .ok (.iadd, 1) := by decide +kernel
theorem dL_law_772 : decode cL_law 772 = .ok (.iaload, 1) := by decide +kernel
theorem dL_law_773 : decode cL_law 773 = .ok (.aload_n 0, 1) := by decide +kernel
theorem dL_law_774 : decode cL_law 774 = .ok (.iload_n 3, 1) := by decide +kernel
theorem dL_law_775 : decode cL_law 775 = .ok (.iconst 2, 1) := by decide +kernel
theorem dL_law_776 : decode cL_law 776 = .ok (.iadd, 1) := by decide +kernel
theorem dL_law_777 : decode cL_law 777 = .ok (.iaload, 1) := by decide +kernel
theorem dL_law_778 : decode cL_law 778 = .ok (.aload_n 0, 1) := by decide +kernel
theorem dL_law_779 : decode cL_law 779 = .ok (.iload_n 3, 1) := by decide +kernel
theorem dL_law_780 : decode cL_law 780 = .ok (.iconst 3, 1) := by decide +kernel
theorem dL_law_781 : decode cL_law 781 = .ok (.iadd, 1) := by decide +kernel
theorem dL_law_782 : decode cL_law 782 = .ok (.iaload, 1) := by decide +kernel
theorem dL_law_783 : decode cL_law 783 = .ok (.aload_n 0, 1) := by decide +kernel
theorem dL_law_784 : decode cL_law 784 = .ok (.iload_n 3, 1) := by decide +kernel
theorem dL_law_785 : decode cL_law 785 = .ok (.iconst 4, 1) := by decide +kernel
theorem dL_law_786 : decode cL_law 786 = .ok (.iadd, 1) := by decide +kernel
theorem dL_law_787 : decode cL_law 787 = .ok (.iaload, 1) := by decide +kernel
theorem dL_law_788 : decode cL_law 788 = .ok (.invokevirtual 92, 3) := by decide +kernel
theorem dL_law_791 : decode cL_law 791 = .ok (.if_icmp .eq 676, 3) := by decide +kernel
theorem dL_law_794 : decode cL_law 794 = .ok (.iconst 0, 1) := by decide +kernel
theorem dL_law_795 : decode cL_law 795 = .ok (.ireturn, 1) := by decide +kernel
theorem dL_law_796 : decode cL_law 796 = .ok (.aload_n 1, 1) := by decide +kernel
theorem dL_law_797 : decode cL_law 797 = .ok (.aload_n 0, 1) := by decide +kernel
theorem dL_law_798 : decode cL_law 798 = .ok (.iload_n 3, 1) := by decide +kernel
theorem dL_law_799 : decode cL_law 799 = .ok (.iconst 1, 1) := by decide +kernel
theorem dL_law_800 : decode cL_law 800 = .ok (.iadd, 1) := by decide +kernel
theorem dL_law_801 : decode cL_law 801 = .ok (.iaload, 1) := by decide +kernel
theorem dL_law_802 : decode cL_law 802 = .ok (.invokevirtual 93, 3) := by decide +kernel
theorem dL_law_805 : decode cL_law 805 = .ok (.aload_n 2, 1) := by decide +kernel
theorem dL_law_806 : decode cL_law 806 = .ok (.aload_n 0, 1) := by decide +kernel
theorem dL_law_807 : decode cL_law 807 = .ok (.iload_n 3, 1) := by decide +kernel
theorem dL_law_808 : decode cL_law 808 = .ok (.iconst 1, 1) := by decide +kernel
theorem dL_law_809 : decode cL_law 809 = .ok (.iadd, 1) := by decide +kernel
theorem dL_law_810 : decode cL_law 810 = .ok (.iaload, 1) := by decide +kernel
theorem dL_law_811 : decode cL_law 811 = .ok (.invokevirtual 96, 3) := by decide +kernel
theorem dL_law_814 : decode cL_law 814 = .ok (.if_icmp .eq 653, 3) := by decide +kernel
theorem dL_law_817 : decode cL_law 817 = .ok (.iconst 0, 1) := by decide +kernel
theorem dL_law_818 : decode cL_law 818 = .ok (.ireturn, 1) := by decide +kernel
theorem dL_law_819 : decode cL_law 819 = .ok (.aload_n 1, 1) := by decide +kernel
theorem dL_law_820 : decode cL_law 820 = .ok (.aload_n 0, 1) := by decide +kernel
theorem dL_law_821 : decode cL_law 821 = .ok (.iload_n 3, 1) := by decide +kernel
theorem dL_law_822 : decode cL_law 822 = .ok (.iconst 1, 1) := by decide +kernel
theorem dL_law_823 : decode cL_law 823 = .ok (.iadd, 1) := by decide +kernel
theorem dL_law_824 : decode cL_law 824 = .ok (.iaload, 1) := by decide +kernel
theorem dL_law_825 : decode cL_law 825 = .ok (.aload_n 0, 1) := by decide +kernel
theorem dL_law_826 : decode cL_law 826 = .ok (.iload_n 3, 1) := by decide +kernel
theorem dL_law_827 : decode cL_law 827 = .ok (.iconst 2, 1) := by decide +kernel
theorem dL_law_828 : decode cL_law 828 = .ok (.iadd, 1) := by decide +kernel
theorem dL_law_829 : decode cL_law 829 = .ok (.iaload, 1) := by decide +kernel
theorem dL_law_830 : decode cL_law 830 = .ok (.invokevirtual 97, 3) := by decide +kernel
theorem dL_law_833 : decode cL_law 833 = .ok (.aload_n 2, 1) := by decide +kernel
theorem dL_law_834 : decode cL_law 834 = .ok (.aload_n 0, 1) := by decide +kernel
theorem dL_law_835 : decode cL_law 835 = .ok (.iload_n 3, 1) := by decide +kernel
theorem dL_law_836 : decode cL_law 836 = .ok (.iconst 1, 1) := by decide +kernel
theorem dL_law_837 : decode cL_law 837 = .ok (.iadd, 1) := by decide +kernel
theorem dL_law_838 : decode cL_law 838 = .ok (.iaload, 1) := by decide +kernel
theorem dL_law_839 : decode cL_law 839 = .ok (.aload_n 0, 1) := by decide +kernel
theorem dL_law_840 : decode cL_law 840 = .ok (.iload_n 3, 1) := by decide +kernel
theorem dL_law_841 : decode cL_law 841 = .ok (.iconst 2, 1) := by decide +kernel
theorem dL_law_842 : decode cL_law 842 = .ok (.iadd, 1) := by decide +kernel
theorem dL_law_843 : decode cL_law 843 = .ok (.iaload, 1) := by decide +kernel
theorem dL_law_844 : decode cL_law 844 = .ok (.invokevirtual 100, 3) := by decide +kernel
theorem dL_law_847 : decode cL_law 847 = .ok (.if_icmp .eq 620, 3) := by decide +kernel
theorem dL_law_850 : decode cL_law 850 = .ok (.iconst 0, 1) := by decide +kernel
theorem dL_law_851 : decode cL_law 851 = .ok (.ireturn, 1) := by decide +kernel
theorem dL_law_852 : decode cL_law 852 = .ok (.aload_n 1, 1) := by decide +kernel
theorem dL_law_853 : decode cL_law 853 = .ok (.aload_n 0, 1) := by decide +kernel
theorem dL_law_854 : decode cL_law 854 = .ok (.iload_n 3, 1) := by decide +kernel
theorem dL_law_855 : decode cL_law 855 = .ok (.iconst 1, 1) := by decide +kernel
theorem dL_law_856 : decode cL_law 856 = .ok (.iadd, 1) := by decide +kernel
theorem dL_law_857 : decode cL_law 857 = .ok (.iaload, 1) := by decide +kernel
theorem dL_law_858 : decode cL_law 858 = .ok (.invokevirtual 101, 3) := by decide +kernel
theorem dL_law_861 : decode cL_law 861 = .ok (.aload_n 2, 1) := by decide +kernel
theorem dL_law_862 : decode cL_law 862 = .ok (.aload_n 0, 1) := by decide +kernel
theorem dL_law_863 : decode cL_law 863 = .ok (.iload_n 3, 1) := by decide +kernel
theorem dL_law_864 : decode cL_law 864 = .ok (.iconst 1, 1) := by decide +kernel
theorem dL_law_865 : decode cL_law 865 = .ok (.iadd, 1) := by decide +kernel
theorem dL_law_866 : decode cL_law 866 = .ok (.iaload, 1) := by decide +kernel
theorem dL_law_867 : decode cL_law 867 = .ok (.invokevirtual 104, 3) := by decide +kernel
theorem dL_law_870 : decode cL_law 870 = .ok (.if_icmp .eq 597, 3) := by decide +kernel
theorem dL_law_873 : decode cL_law 873 = .ok (.iconst 0, 1) := by decide +kernel
theorem dL_law_874 : decode cL_law 874 = .ok (.ireturn, 1) := by decide +kernel
theorem dL_law_875 : decode cL_law 875 = .ok (.aload_n 1, 1) := by decide +kernel
theorem dL_law_876 : decode cL_law 876 = .ok (.aload_n 0, 1) := by decide +kernel
theorem dL_law_877 : decode cL_law 877 = .ok (.iload_n 3, 1) := by decide +kernel
theorem dL_law_878 : decode cL_law 878 = .ok (.iconst 1, 1) := by decide +kernel
theorem dL_law_879 : decode cL_law 879 = .ok (.iadd, 1) := by decide +kernel
theorem dL_law_880 : decode cL_law 880 = .ok (.iaload, 1) := by decide +kernel
theorem dL_law_881 : decode cL_law 881 = .ok (.aload_n 0, 1) := by decide +kernel
theorem dL_law_882 : decode cL_law 882 = .ok (.iload_n 3, 1) := by decide +kernel
theorem dL_law_883 : decode cL_law 883 = .ok (.iconst 2, 1) := by decide +kernel
theorem dL_law_884 : decode cL_law 884 = .ok (.iadd, 1) := by decide +kernel
theorem dL_law_885 : decode cL_law 885 = .ok (.iaload, 1) := by decide +kernel
theorem dL_law_886 : decode cL_law 886 = .ok (.aload_n 0, 1) := by decide +kernel
theorem dL_law_887 : decode cL_law 887 = .ok (.iload_n 3, 1) := by decide +kernel
theorem dL_law_888 : decode cL_law 888 = .ok (.iconst 3, 1) := by decide +kernel
theorem dL_law_889 : decode cL_law 889 = .ok (.iadd, 1) := by decide +kernel
theorem dL_law_890 : decode cL_law 890 = .ok (.iaload, 1) := by decide +kernel
theorem dL_law_891 : decode cL_law 891 = .ok (.invokevirtual 105, 3) := by decide +kernel
theorem dL_law_894 : decode cL_law 894 = .ok (.aload_n 2, 1) := by decide +kernel
theorem dL_law_895 : decode cL_law 895 = .ok (.aload_n 0, 1) := by decide +kernel
theorem dL_law_896 : decode cL_law 896 = .ok (.iload_n 3, 1) := by decide +kernel
theorem dL_law_897 : decode cL_law 897 = .ok (.iconst 1, 1) := by decide +kernel
theorem dL_law_898 : decode cL_law 898 = .ok (.iadd, 1) := by decide +kernel
theorem dL_law_899 : decode cL_law 899 = .ok (.iaload, 1) := by decide +kernel
theorem dL_law_900 : decode cL_law 900 = .ok (.aload_n 0, 1) := by decide +kernel
theorem dL_law_901 : decode cL_law 901 = .ok (.iload_n 3, 1) := by decide +kernel
theorem dL_law_902 : decode cL_law 902 = .ok (.iconst 2, 1) := by decide +kernel
theorem dL_law_903 : decode cL_law 903 = .ok (.iadd, 1) := by decide +kernel
theorem dL_law_904 : decode cL_law 904 = .ok (.iaload, 1) := by decide +kernel
theorem dL_law_905 : decode cL_law 905 = .ok (.aload_n 0, 1) := by decide +kernel
theorem dL_law_906 : decode cL_law 906 = .ok (.iload_n 3, 1) := by decide +kernel
theorem dL_law_907 : decode cL_law 907 = .ok (.iconst 3, 1) := by decide +kernel
theorem dL_law_908 : decode cL_law 908 = .ok (.iadd, 1) := by decide +kernel
theorem dL_law_909 : decode cL_law 909 = .ok (.iaload, 1) := by decide +kernel
theorem dL_law_910 : decode cL_law 910 = .ok (.invokevirtual 108, 3) := by decide +kernel
theorem dL_law_913 : decode cL_law 913 = .ok (.lcmp, 1) := by decide +kernel
theorem dL_law_914 : decode cL_law 914 = .ok (.ifCond .eq 553, 3) := by decide +kernel
theorem dL_law_917 : decode cL_law 917 = .ok (.iconst 0, 1) := by decide +kernel
theorem dL_law_918 : decode cL_law 918 = .ok (.ireturn, 1) := by decide +kernel
theorem dL_law_919 : decode cL_law 919 = .ok (.aload_n 1, 1) := by decide +kernel
theorem dL_law_920 : decode cL_law 920 = .ok (.aload_n 0, 1) := by decide +kernel
theorem dL_law_921 : decode cL_law 921 = .ok (.iload_n 3, 1) := by decide +kernel
theorem dL_law_922 : decode cL_law 922 = .ok (.iconst 1, 1) := by decide +kernel
theorem dL_law_923 : decode cL_law 923 = .ok (.iadd, 1) := by decide +kernel
theorem dL_law_924 : decode cL_law 924 = .ok (.iaload, 1) := by decide +kernel
theorem dL_law_925 : decode cL_law 925 = .ok (.aload_n 0, 1) := by decide +kernel
theorem dL_law_926 : decode cL_law 926 = .ok (.iload_n 3, 1) := by decide +kernel
theorem dL_law_927 : decode cL_law 927 = .ok (.iconst 2, 1) := by decide +kernel
theorem dL_law_928 : decode cL_law 928 = .ok (.iadd, 1) := by decide +kernel
theorem dL_law_929 : decode cL_law 929 = .ok (.iaload, 1) := by decide +kernel
theorem dL_law_930 : decode cL_law 930 = .ok (.aload_n 0, 1) := by decide +kernel
theorem dL_law_931 : decode cL_law 931 = .ok (.iload_n 3, 1) := by decide +kernel
theorem dL_law_932 : decode cL_law 932 = .ok (.iconst 3, 1) := by decide +kernel
theorem dL_law_933 : decode cL_law 933 = .ok (.iadd, 1) := by decide +kernel
theorem dL_law_934 : decode cL_law 934 = .ok (.iaload, 1) := by decide +kernel
theorem dL_law_935 : decode cL_law 935 = .ok (.invokevirtual 109, 3) := by decide +kernel
theorem dL_law_938 : decode cL_law 938 = .ok (.aload_n 2, 1) := by decide +kernel
theorem dL_law_939 : decode cL_law 939 = .ok (.aload_n 0, 1) := by decide +kernel
theorem dL_law_940 : decode cL_law 940 = .ok (.iload_n 3, 1) := by decide +kernel
theorem dL_law_941 : decode cL_law 941 = .ok (.iconst 1, 1) := by decide +kernel
theorem dL_law_942 : decode cL_law 942 = .ok (.iadd, 1) := by decide +kernel
theorem dL_law_943 : decode cL_law 943 = .ok (.iaload, 1) := by decide +kernel
theorem dL_law_944 : decode cL_law 944 = .ok (.aload_n 0, 1) := by decide +kernel
theorem dL_law_945 : decode cL_law 945 = .ok (.iload_n 3, 1) := by decide +kernel
theorem dL_law_946 : decode cL_law 946 = .ok (.iconst 2, 1) := by decide +kernel
theorem dL_law_947 : decode cL_law 947 = .ok (.iadd, 1) := by decide +kernel
theorem dL_law_948 : decode cL_law 948 = .ok (.iaload, 1) := by decide +kernel
theorem dL_law_949 : decode cL_law 949 = .ok (.aload_n 0, 1) := by decide +kernel
theorem dL_law_950 : decode cL_law 950 = .ok (.iload_n 3, 1) := by decide +kernel
theorem dL_law_951 : decode cL_law 951 = .ok (.iconst 3, 1) := by decide +kernel
theorem dL_law_952 : decode cL_law 952 = .ok (.iadd, 1) := by decide +kernel
theorem dL_law_953 : decode cL_law 953 = .ok (.iaload, 1) := by decide +kernel
theorem dL_law_954 : decode cL_law 954 = .ok (.invokevirtual 112, 3) := by decide +kernel
theorem dL_law_957 : decode cL_law 957 = .ok (.if_icmp .eq 510, 3) := by decide +kernel
theorem dL_law_960 : decode cL_law 960 = .ok (.iconst 0, 1) := by decide +kernel
theorem dL_law_961 : decode cL_law 961 = .ok (.ireturn, 1) := by decide +kernel
theorem dL_law_962 : decode cL_law 962 = .ok (.aload_n 1, 1) := by decide +kernel
theorem dL_law_963 : decode cL_law 963 = .ok (.aload_n 0, 1) := by decide +kernel
theorem dL_law_964 : decode cL_law 964 = .ok (.iload_n 3, 1) := by decide +kernel
theorem dL_law_965 : decode cL_law 965 = .ok (.iconst 1, 1) := by decide +kernel
theorem dL_law_966 : decode cL_law 966 = .ok (.iadd, 1) := by decide +kernel
theorem dL_law_967 : decode cL_law 967 = .ok (.iaload, 1) := by decide +kernel
theorem dL_law_968 : decode cL_law 968 = .ok (.aload_n 0, 1) := by decide +kernel
theorem dL_law_969 : decode cL_law 969 = .ok (.iload_n 3, 1) := by decide +kernel
theorem dL_law_970 : decode cL_law 970 = .ok (.iconst 2, 1) := by decide +kernel
theorem dL_law_971 : decode cL_law 971 = .ok (.iadd, 1) := by decide +kernel
theorem dL_law_972 : decode cL_law 972 = .ok (.iaload, 1) := by decide +kernel
theorem dL_law_973 : decode cL_law 973 = .ok (.aload_n 0, 1) := by decide +kernel
theorem dL_law_974 : decode cL_law 974 = .ok (.iload_n 3, 1) := by decide +kernel
theorem dL_law_975 : decode cL_law 975 = .ok (.iconst 3, 1) := by decide +kernel
theorem dL_law_976 : decode cL_law 976 = .ok (.iadd, 1) := by decide +kernel
theorem dL_law_977 : decode cL_law 977 = .ok (.iaload, 1) := by decide +kernel
theorem dL_law_978 : decode cL_law 978 = .ok (.invokevirtual 113, 3) := by decide +kernel
theorem dL_law_981 : decode cL_law 981 = .ok (.aload_n 2, 1) := by decide +kernel
theorem dL_law_982 : decode cL_law 982 = .ok (.aload_n 0, 1) := by decide +kernel
theorem dL_law_983 : decode cL_law 983 = .ok (.iload_n 3, 1) := by decide +kernel
theorem dL_law_984 : decode cL_law 984 = .ok (.iconst 1, 1) := by decide +kernel
theorem dL_law_985 : decode cL_law 985 = .ok (.iadd, 1) := by decide +kernel
theorem dL_law_986 : decode cL_law 986 = .ok (.iaload, 1) := by decide +kernel
theorem dL_law_987 : decode cL_law 987 = .ok (.aload_n 0, 1) := by decide +kernel
theorem dL_law_988 : decode cL_law 988 = .ok (.iload_n 3, 1) := by decide +kernel
theorem dL_law_989 : decode cL_law 989 = .ok (.iconst 2, 1) := by decide +kernel
theorem dL_law_990 : decode cL_law 990 = .ok (.iadd, 1) := by decide +kernel
theorem dL_law_991 : decode cL_law 991 = .ok (.iaload, 1) := by decide +kernel
theorem dL_law_992 : decode cL_law 992 = .ok (.aload_n 0, 1) := by decide +kernel
theorem dL_law_993 : decode cL_law 993 = .ok (.iload_n 3, 1) := by decide +kernel
theorem dL_law_994 : decode cL_law 994 = .ok (.iconst 3, 1) := by decide +kernel
theorem dL_law_995 : decode cL_law 995 = .ok (.iadd, 1) := by decide +kernel
theorem dL_law_996 : decode cL_law 996 = .ok (.iaload, 1) := by decide +kernel
theorem dL_law_997 : decode cL_law 997 = .ok (.invokevirtual 116, 3) := by decide +kernel
theorem dL_law_1000 : decode cL_law 1000 = .ok (.if_icmp .eq 467, 3) := by decide +kernel
theorem dL_law_1003 : decode cL_law 1003 = .ok (.iconst 0, 1) := by decide +kernel
theorem dL_law_1004 : decode cL_law 1004 = .ok (.ireturn, 1) := by decide +kernel
theorem dL_law_1005 : decode cL_law 1005 = .ok (.aload_n 1, 1) := by decide +kernel
theorem dL_law_1006 : decode cL_law 1006 = .ok (.aload_n 0, 1) := by decide +kernel
theorem dL_law_1007 : decode cL_law 1007 = .ok (.iload_n 3, 1) := by decide +kernel
theorem dL_law_1008 : decode cL_law 1008 = .ok (.iconst 1, 1) := by decide +kernel
theorem dL_law_1009 : decode cL_law 1009 = .ok (.iadd, 1) := by decide +kernel
theorem dL_law_1010 : decode cL_law 1010 = .ok (.iaload, 1) := by decide +kernel
theorem dL_law_1011 : decode cL_law 1011 = .ok (.aload_n 0, 1) := by decide +kernel
theorem dL_law_1012 : decode cL_law 1012 = .ok (.iload_n 3, 1) := by decide +kernel
theorem dL_law_1013 : decode cL_law 1013 = .ok (.iconst 2, 1) := by decide +kernel
theorem dL_law_1014 : decode cL_law 1014 = .ok (.iadd, 1) := by decide +kernel
theorem dL_law_1015 : decode cL_law 1015 = .ok (.iaload, 1) := by decide +kernel
theorem dL_law_1016 : decode cL_law 1016 = .ok (.aload_n 0, 1) := by decide +kernel
theorem dL_law_1017 : decode cL_law 1017 = .ok (.iload_n 3, 1) := by decide +kernel
theorem dL_law_1018 : decode cL_law 1018 = .ok (.iconst 3, 1) := by decide +kernel
theorem dL_law_1019 : decode cL_law 1019 = .ok (.iadd, 1) := by decide +kernel
theorem dL_law_1020 : decode cL_law 1020 = .ok (.iaload, 1) := by decide +kernel
theorem dL_law_1021 : decode cL_law 1021 = .ok (.i2l, 1) := by decide +kernel
theorem dL_law_1022 : decode cL_law 1022 = .ok (.bipush 32, 2) := by decide +kernel
theorem dL_law_1024 : decode cL_law 1024 = .ok (.lshl, 1) := by decide +kernel
theorem dL_law_1025 : decode cL_law 1025 = .ok (.aload_n 0, 1) := by decide +kernel
theorem dL_law_1026 : decode cL_law 1026 = .ok (.iload_n 3, 1) := by decide +kernel
theorem dL_law_1027 : decode cL_law 1027 = .ok (.iconst 4, 1) := by decide +kernel
theorem dL_law_1028 : decode cL_law 1028 = .ok (.iadd, 1) := by decide +kernel
theorem dL_law_1029 : decode cL_law 1029 = .ok (.iaload, 1) := by decide +kernel
theorem dL_law_1030 : decode cL_law 1030 = .ok (.i2l, 1) := by decide +kernel
theorem dL_law_1031 : decode cL_law 1031 = .ok (.ldc2_w 117, 3) := by decide +kernel
theorem dL_law_1034 : decode cL_law 1034 = .ok (.land, 1) := by decide +kernel
theorem dL_law_1035 : decode cL_law 1035 = .ok (.lor, 1) := by decide +kernel
theorem dL_law_1036 : decode cL_law 1036 = .ok (.invokevirtual 119, 3) := by decide +kernel
theorem dL_law_1039 : decode cL_law 1039 = .ok (.aload_n 2, 1) := by decide +kernel
theorem dL_law_1040 : decode cL_law 1040 = .ok (.aload_n 0, 1) := by decide +kernel
theorem dL_law_1041 : decode cL_law 1041 = .ok (.iload_n 3, 1) := by decide +kernel
theorem dL_law_1042 : decode cL_law 1042 = .ok (.iconst 1, 1) := by decide +kernel
theorem dL_law_1043 : decode cL_law 1043 = .ok (.iadd, 1) := by decide +kernel
theorem dL_law_1044 : decode cL_law 1044 = .ok (.iaload, 1) := by decide +kernel
theorem dL_law_1045 : decode cL_law 1045 = .ok (.aload_n 0, 1) := by decide +kernel
theorem dL_law_1046 : decode cL_law 1046 = .ok (.iload_n 3, 1) := by decide +kernel
theorem dL_law_1047 : decode cL_law 1047 = .ok (.iconst 2, 1) := by decide +kernel
theorem dL_law_1048 : decode cL_law 1048 = .ok (.iadd, 1) := by decide +kernel
theorem dL_law_1049 : decode cL_law 1049 = .ok (.iaload, 1) := by decide +kernel
theorem dL_law_1050 : decode cL_law 1050 = .ok (.aload_n 0, 1) := by decide +kernel
theorem dL_law_1051 : decode cL_law 1051 = .ok (.iload_n 3, 1) := by decide +kernel
theorem dL_law_1052 : decode cL_law 1052 = .ok (.iconst 3, 1) := by decide +kernel
theorem dL_law_1053 : decode cL_law 1053 = .ok (.iadd, 1) := by decide +kernel
theorem dL_law_1054 : decode cL_law 1054 = .ok (.iaload, 1) := by decide +kernel
theorem dL_law_1055 : decode cL_law 1055 = .ok (.i2l, 1) := by decide +kernel
theorem dL_law_1056 : decode cL_law 1056 = .ok (.bipush 32, 2) := by decide +kernel
theorem dL_law_1058 : decode cL_law 1058 = .ok (.lshl, 1) := by decide +kernel
theorem dL_law_1059 : decode cL_law 1059 = .ok (.aload_n 0, 1) := by decide +kernel
theorem dL_law_1060 : decode cL_law 1060 = .ok (.iload_n 3, 1) := by decide +kernel
theorem dL_law_1061 : decode cL_law 1061 = .ok (.iconst 4, 1) := by decide +kernel
theorem dL_law_1062 : decode cL_law 1062 = .ok (.iadd, 1) := by decide +kernel
theorem dL_law_1063 : decode cL_law 1063 = .ok (.iaload, 1) := by decide +kernel
theorem dL_law_1064 : decode cL_law 1064 = .ok (.i2l, 1) := by decide +kernel
theorem dL_law_1065 : decode cL_law 1065 = .ok (.ldc2_w 117, 3) := by decide +kernel
theorem dL_law_1068 : decode cL_law 1068 = .ok (.land, 1) := by decide +kernel
theorem dL_law_1069 : decode cL_law 1069 = .ok (.lor, 1) := by decide +kernel
theorem dL_law_1070 : decode cL_law 1070 = .ok (.invokevirtual 123, 3) := by decide +kernel
theorem dL_law_1073 : decode cL_law 1073 = .ok (.if_icmp .eq 394, 3) := by decide +kernel
theorem dL_law_1076 : decode cL_law 1076 = .ok (.iconst 0, 1) := by decide +kernel
theorem dL_law_1077 : decode cL_law 1077 = .ok (.ireturn, 1) := by decide +kernel
theorem dL_law_1078 : decode cL_law 1078 = .ok (.aload_n 1, 1) := by decide +kernel
theorem dL_law_1079 : decode cL_law 1079 = .ok (.aload_n 0, 1) := by decide +kernel
theorem dL_law_1080 : decode cL_law 1080 = .ok (.iload_n 3, 1) := by decide +kernel
theorem dL_law_1081 : decode cL_law 1081 = .ok (.iconst 1, 1) := by decide +kernel
theorem dL_law_1082 : decode cL_law 1082 = .ok (.iadd, 1) := by decide +kernel
theorem dL_law_1083 : decode cL_law 1083 = .ok (.iaload, 1) := by decide +kernel
theorem dL_law_1084 : decode cL_law 1084 = .ok (.aload_n 0, 1) := by decide +kernel
theorem dL_law_1085 : decode cL_law 1085 = .ok (.iload_n 3, 1) := by decide +kernel
theorem dL_law_1086 : decode cL_law 1086 = .ok (.iconst 2, 1) := by decide +kernel
theorem dL_law_1087 : decode cL_law 1087 = .ok (.iadd, 1) := by decide +kernel
theorem dL_law_1088 : decode cL_law 1088 = .ok (.iaload, 1) := by decide +kernel
theorem dL_law_1089 : decode cL_law 1089 = .ok (.invokevirtual 124, 3) := by decide +kernel
theorem dL_law_1092 : decode cL_law 1092 = .ok (.aload_n 2, 1) := by decide +kernel
theorem dL_law_1093 : decode cL_law 1093 = .ok (.aload_n 0, 1) := by decide +kernel
theorem dL_law_1094 : decode cL_law 1094 = .ok (.iload_n 3, 1) := by decide +kernel
theorem dL_law_1095 : decode cL_law 1095 = .ok (.iconst 1, 1) := by decide +kernel
theorem dL_law_1096 : decode cL_law 1096 = .ok (.iadd, 1) := by decide +kernel
theorem dL_law_1097 : decode cL_law 1097 = .ok (.iaload, 1) := by decide +kernel
theorem dL_law_1098 : decode cL_law 1098 = .ok (.aload_n 0, 1) := by decide +kernel
theorem dL_law_1099 : decode cL_law 1099 = .ok (.iload_n 3, 1) := by decide +kernel
theorem dL_law_1100 : decode cL_law 1100 = .ok (.iconst 2, 1) := by decide +kernel
theorem dL_law_1101 : decode cL_law 1101 = .ok (.iadd, 1) := by decide +kernel
theorem dL_law_1102 : decode cL_law 1102 = .ok (.iaload, 1) := by decide +kernel
theorem dL_law_1103 : decode cL_law 1103 = .ok (.invokevirtual 127, 3) := by decide +kernel
theorem dL_law_1106 : decode cL_law 1106 = .ok (.lcmp, 1) := by decide +kernel
theorem dL_law_1107 : decode cL_law 1107 = .ok (.ifCond .eq 360, 3) := by decide +kernel
theorem dL_law_1110 : decode cL_law 1110 = .ok (.iconst 0, 1) := by decide +kernel
theorem dL_law_1111 : decode cL_law 1111 = .ok (.ireturn, 1) := by decide +kernel
theorem dL_law_1112 : decode cL_law 1112 = .ok (.aload_n 1, 1) := by decide +kernel
theorem dL_law_1113 : decode cL_law 1113 = .ok (.aload_n 0, 1) := by decide +kernel
theorem dL_law_1114 : decode cL_law 1114 = .ok (.iload_n 3, 1) := by decide +kernel
theorem dL_law_1115 : decode cL_law 1115 = .ok (.iconst 1, 1) := by decide +kernel
theorem dL_law_1116 : decode cL_law 1116 = .ok (.iadd, 1) := by decide +kernel
theorem dL_law_1117 : decode cL_law 1117 = .ok (.iaload, 1) := by decide +kernel
theorem dL_law_1118 : decode cL_law 1118 = .ok (.aload_n 0, 1) := by decide +kernel
theorem dL_law_1119 : decode cL_law 1119 = .ok (.iload_n 3, 1) := by decide +kernel
theorem dL_law_1120 : decode cL_law 1120 = .ok (.iconst 2, 1) := by decide +kernel
theorem dL_law_1121 : decode cL_law 1121 = .ok (.iadd, 1) := by decide +kernel
theorem dL_law_1122 : decode cL_law 1122 = .ok (.iaload, 1) := by decide +kernel
theorem dL_law_1123 : decode cL_law 1123 = .ok (.aload_n 0, 1) := by decide +kernel
theorem dL_law_1124 : decode cL_law 1124 = .ok (.iload_n 3, 1) := by decide +kernel
theorem dL_law_1125 : decode cL_law 1125 = .ok (.iconst 3, 1) := by decide +kernel
theorem dL_law_1126 : decode cL_law 1126 = .ok (.iadd, 1) := by decide +kernel
theorem dL_law_1127 : decode cL_law 1127 = .ok (.iaload, 1) := by decide +kernel
theorem dL_law_1128 : decode cL_law 1128 = .ok (.invokevirtual 128, 3) := by decide +kernel
theorem dL_law_1131 : decode cL_law 1131 = .ok (.aload_n 2, 1) := by decide +kernel
theorem dL_law_1132 : decode cL_law 1132 = .ok (.aload_n 0, 1) := by decide +kernel
theorem dL_law_1133 : decode cL_law 1133 = .ok (.iload_n 3, 1) := by decide +kernel
theorem dL_law_1134 : decode cL_law 1134 = .ok (.iconst 1, 1) := by decide +kernel
theorem dL_law_1135 : decode cL_law 1135 = .ok (.iadd, 1) := by decide +kernel
theorem dL_law_1136 : decode cL_law 1136 = .ok (.iaload, 1) := by decide +kernel
theorem dL_law_1137 : decode cL_law 1137 = .ok (.aload_n 0, 1) := by decide +kernel
theorem dL_law_1138 : decode cL_law 1138 = .ok (.iload_n 3, 1) := by decide +kernel
theorem dL_law_1139 : decode cL_law 1139 = .ok (.iconst 2, 1) := by decide +kernel
theorem dL_law_1140 : decode cL_law 1140 = .ok (.iadd, 1) := by decide +kernel
theorem dL_law_1141 : decode cL_law 1141 = .ok (.iaload, 1) := by decide +kernel
theorem dL_law_1142 : decode cL_law 1142 = .ok (.aload_n 0, 1) := by decide +kernel
theorem dL_law_1143 : decode cL_law 1143 = .ok (.iload_n 3, 1) := by decide +kernel
theorem dL_law_1144 : decode cL_law 1144 = .ok (.iconst 3, 1) := by decide +kernel
theorem dL_law_1145 : decode cL_law 1145 = .ok (.iadd, 1) := by decide +kernel
theorem dL_law_1146 : decode cL_law 1146 = .ok (.iaload, 1) := by decide +kernel
theorem dL_law_1147 : decode cL_law 1147 = .ok (.invokevirtual 131, 3) := by decide +kernel
theorem dL_law_1150 : decode cL_law 1150 = .ok (.if_icmp .eq 317, 3) := by decide +kernel
theorem dL_law_1153 : decode cL_law 1153 = .ok (.iconst 0, 1) := by decide +kernel
theorem dL_law_1154 : decode cL_law 1154 = .ok (.ireturn, 1) := by decide +kernel
theorem dL_law_1155 : decode cL_law 1155 = .ok (.aload_n 1, 1) := by decide +kernel
theorem dL_law_1156 : decode cL_law 1156 = .ok (.aload_n 0, 1) := by decide +kernel
theorem dL_law_1157 : decode cL_law 1157 = .ok (.iload_n 3, 1) := by decide +kernel
theorem dL_law_1158 : decode cL_law 1158 = .ok (.iconst 1, 1) := by decide +kernel
theorem dL_law_1159 : decode cL_law 1159 = .ok (.iadd, 1) := by decide +kernel
theorem dL_law_1160 : decode cL_law 1160 = .ok (.iaload, 1) := by decide +kernel
theorem dL_law_1161 : decode cL_law 1161 = .ok (.invokevirtual 132, 3) := by decide +kernel
theorem dL_law_1164 : decode cL_law 1164 = .ok (.aload_n 2, 1) := by decide +kernel
theorem dL_law_1165 : decode cL_law 1165 = .ok (.aload_n 0, 1) := by decide +kernel
theorem dL_law_1166 : decode cL_law 1166 = .ok (.iload_n 3, 1) := by decide +kernel
theorem dL_law_1167 : decode cL_law 1167 = .ok (.iconst 1, 1) := by decide +kernel
theorem dL_law_1168 : decode cL_law 1168 = .ok (.iadd, 1) := by decide +kernel
theorem dL_law_1169 : decode cL_law 1169 = .ok (.iaload, 1) := by decide +kernel
theorem dL_law_1170 : decode cL_law 1170 = .ok (.invokevirtual 136, 3) := by decide +kernel
theorem dL_law_1173 : decode cL_law 1173 = .ok (.lcmp, 1) := by decide +kernel
theorem dL_law_1174 : decode cL_law 1174 = .ok (.ifCond .eq 293, 3) := by decide +kernel
theorem dL_law_1177 : decode cL_law 1177 = .ok (.iconst 0, 1) := by decide +kernel
theorem dL_law_1178 : decode cL_law 1178 = .ok (.ireturn, 1) := by decide +kernel
theorem dL_law_1179 : decode cL_law 1179 = .ok (.aload_n 1, 1) := by decide +kernel
theorem dL_law_1180 : decode cL_law 1180 = .ok (.aload_n 0, 1) := by decide +kernel
theorem dL_law_1181 : decode cL_law 1181 = .ok (.iload_n 3, 1) := by decide +kernel
theorem dL_law_1182 : decode cL_law 1182 = .ok (.iconst 1, 1) := by decide +kernel
theorem dL_law_1183 : decode cL_law 1183 = .ok (.iadd, 1) := by decide +kernel
theorem dL_law_1184 : decode cL_law 1184 = .ok (.iaload, 1) := by decide +kernel
theorem dL_law_1185 : decode cL_law 1185 = .ok (.aload_n 0, 1) := by decide +kernel
theorem dL_law_1186 : decode cL_law 1186 = .ok (.iload_n 3, 1) := by decide +kernel
theorem dL_law_1187 : decode cL_law 1187 = .ok (.iconst 2, 1) := by decide +kernel
theorem dL_law_1188 : decode cL_law 1188 = .ok (.iadd, 1) := by decide +kernel
theorem dL_law_1189 : decode cL_law 1189 = .ok (.iaload, 1) := by decide +kernel
theorem dL_law_1190 : decode cL_law 1190 = .ok (.aload_n 0, 1) := by decide +kernel
theorem dL_law_1191 : decode cL_law 1191 = .ok (.iload_n 3, 1) := by decide +kernel
theorem dL_law_1192 : decode cL_law 1192 = .ok (.iconst 3, 1) := by decide +kernel
theorem dL_law_1193 : decode cL_law 1193 = .ok (.iadd, 1) := by decide +kernel
theorem dL_law_1194 : decode cL_law 1194 = .ok (.iaload, 1) := by decide +kernel
theorem dL_law_1195 : decode cL_law 1195 = .ok (.invokevirtual 137, 3) := by decide +kernel
theorem dL_law_1198 : decode cL_law 1198 = .ok (.aload_n 2, 1) := by decide +kernel
theorem dL_law_1199 : decode cL_law 1199 = .ok (.aload_n 0, 1) := by decide +kernel
theorem dL_law_1200 : decode cL_law 1200 = .ok (.iload_n 3, 1) := by decide +kernel
theorem dL_law_1201 : decode cL_law 1201 = .ok (.iconst 1, 1) := by decide +kernel
theorem dL_law_1202 : decode cL_law 1202 = .ok (.iadd, 1) := by decide +kernel
theorem dL_law_1203 : decode cL_law 1203 = .ok (.iaload, 1) := by decide +kernel
theorem dL_law_1204 : decode cL_law 1204 = .ok (.aload_n 0, 1) := by decide +kernel
theorem dL_law_1205 : decode cL_law 1205 = .ok (.iload_n 3, 1) := by decide +kernel
theorem dL_law_1206 : decode cL_law 1206 = .ok (.iconst 2, 1) := by decide +kernel
theorem dL_law_1207 : decode cL_law 1207 = .ok (.iadd, 1) := by decide +kernel
theorem dL_law_1208 : decode cL_law 1208 = .ok (.iaload, 1) := by decide +kernel
theorem dL_law_1209 : decode cL_law 1209 = .ok (.aload_n 0, 1) := by decide +kernel
theorem dL_law_1210 : decode cL_law 1210 = .ok (.iload_n 3, 1) := by decide +kernel
theorem dL_law_1211 : decode cL_law 1211 = .ok (.iconst 3, 1) := by decide +kernel
theorem dL_law_1212 : decode cL_law 1212 = .ok (.iadd, 1) := by decide +kernel
theorem dL_law_1213 : decode cL_law 1213 = .ok (.iaload, 1) := by decide +kernel
theorem dL_law_1214 : decode cL_law 1214 = .ok (.invokevirtual 140, 3) := by decide +kernel
theorem dL_law_1217 : decode cL_law 1217 = .ok (.lcmp, 1) := by decide +kernel
theorem dL_law_1218 : decode cL_law 1218 = .ok (.ifCond .eq 249, 3) := by decide +kernel
theorem dL_law_1221 : decode cL_law 1221 = .ok (.iconst 0, 1) := by decide +kernel
theorem dL_law_1222 : decode cL_law 1222 = .ok (.ireturn, 1) := by decide +kernel
theorem dL_law_1223 : decode cL_law 1223 = .ok (.aload_n 1, 1) := by decide +kernel
theorem dL_law_1224 : decode cL_law 1224 = .ok (.aload_n 0, 1) := by decide +kernel
theorem dL_law_1225 : decode cL_law 1225 = .ok (.iload_n 3, 1) := by decide +kernel
theorem dL_law_1226 : decode cL_law 1226 = .ok (.iconst 1, 1) := by decide +kernel
theorem dL_law_1227 : decode cL_law 1227 = .ok (.iadd, 1) := by decide +kernel
theorem dL_law_1228 : decode cL_law 1228 = .ok (.iaload, 1) := by decide +kernel
theorem dL_law_1229 : decode cL_law 1229 = .ok (.aload_n 0, 1) := by decide +kernel
theorem dL_law_1230 : decode cL_law 1230 = .ok (.iload_n 3, 1) := by decide +kernel
theorem dL_law_1231 : decode cL_law 1231 = .ok (.iconst 2, 1) := by decide +kernel
theorem dL_law_1232 : decode cL_law 1232 = .ok (.iadd, 1) := by decide +kernel
theorem dL_law_1233 : decode cL_law 1233 = .ok (.iaload, 1) := by decide +kernel
theorem dL_law_1234 : decode cL_law 1234 = .ok (.invokevirtual 141, 3) := by decide +kernel
theorem dL_law_1237 : decode cL_law 1237 = .ok (.aload_n 2, 1) := by decide +kernel
theorem dL_law_1238 : decode cL_law 1238 = .ok (.aload_n 0, 1) := by decide +kernel
theorem dL_law_1239 : decode cL_law 1239 = .ok (.iload_n 3, 1) := by decide +kernel
theorem dL_law_1240 : decode cL_law 1240 = .ok (.iconst 1, 1) := by decide +kernel
theorem dL_law_1241 : decode cL_law 1241 = .ok (.iadd, 1) := by decide +kernel
theorem dL_law_1242 : decode cL_law 1242 = .ok (.iaload, 1) := by decide +kernel
theorem dL_law_1243 : decode cL_law 1243 = .ok (.aload_n 0, 1) := by decide +kernel
theorem dL_law_1244 : decode cL_law 1244 = .ok (.iload_n 3, 1) := by decide +kernel
theorem dL_law_1245 : decode cL_law 1245 = .ok (.iconst 2, 1) := by decide +kernel
theorem dL_law_1246 : decode cL_law 1246 = .ok (.iadd, 1) := by decide +kernel
theorem dL_law_1247 : decode cL_law 1247 = .ok (.iaload, 1) := by decide +kernel
theorem dL_law_1248 : decode cL_law 1248 = .ok (.invokevirtual 144, 3) := by decide +kernel
theorem dL_law_1251 : decode cL_law 1251 = .ok (.if_icmp .eq 216, 3) := by decide +kernel
theorem dL_law_1254 : decode cL_law 1254 = .ok (.iconst 0, 1) := by decide +kernel
theorem dL_law_1255 : decode cL_law 1255 = .ok (.ireturn, 1) := by decide +kernel
theorem dL_law_1256 : decode cL_law 1256 = .ok (.aload_n 1, 1) := by decide +kernel
theorem dL_law_1257 : decode cL_law 1257 = .ok (.aload_n 0, 1) := by decide +kernel
theorem dL_law_1258 : decode cL_law 1258 = .ok (.iload_n 3, 1) := by decide +kernel
theorem dL_law_1259 : decode cL_law 1259 = .ok (.iconst 1, 1) := by decide +kernel
theorem dL_law_1260 : decode cL_law 1260 = .ok (.iadd, 1) := by decide +kernel
theorem dL_law_1261 : decode cL_law 1261 = .ok (.iaload, 1) := by decide +kernel
theorem dL_law_1262 : decode cL_law 1262 = .ok (.aload_n 0, 1) := by decide +kernel
theorem dL_law_1263 : decode cL_law 1263 = .ok (.iload_n 3, 1) := by decide +kernel
theorem dL_law_1264 : decode cL_law 1264 = .ok (.iconst 2, 1) := by decide +kernel
theorem dL_law_1265 : decode cL_law 1265 = .ok (.iadd, 1) := by decide +kernel
theorem dL_law_1266 : decode cL_law 1266 = .ok (.iaload, 1) := by decide +kernel
theorem dL_law_1267 : decode cL_law 1267 = .ok (.aload_n 0, 1) := by decide +kernel
theorem dL_law_1268 : decode cL_law 1268 = .ok (.iload_n 3, 1) := by decide +kernel
theorem dL_law_1269 : decode cL_law 1269 = .ok (.iconst 3, 1) := by decide +kernel
theorem dL_law_1270 : decode cL_law 1270 = .ok (.iadd, 1) := by decide +kernel
theorem dL_law_1271 : decode cL_law 1271 = .ok (.iaload, 1) := by decide +kernel
theorem dL_law_1272 : decode cL_law 1272 = .ok (.invokevirtual 145, 3) := by decide +kernel
theorem dL_law_1275 : decode cL_law 1275 = .ok (.aload_n 2, 1) := by decide +kernel
theorem dL_law_1276 : decode cL_law 1276 = .ok (.aload_n 0, 1) := by decide +kernel
theorem dL_law_1277 : decode cL_law 1277 = .ok (.iload_n 3, 1) := by decide +kernel
theorem dL_law_1278 : decode cL_law 1278 = .ok (.iconst 1, 1) := by decide +kernel
theorem dL_law_1279 : decode cL_law 1279 = .ok (.iadd, 1) := by decide +kernel
theorem dL_law_1280 : decode cL_law 1280 = .ok (.iaload, 1) := by decide +kernel
theorem dL_law_1281 : decode cL_law 1281 = .ok (.aload_n 0, 1) := by decide +kernel
theorem dL_law_1282 : decode cL_law 1282 = .ok (.iload_n 3, 1) := by decide +kernel
theorem dL_law_1283 : decode cL_law 1283 = .ok (.iconst 2, 1) := by decide +kernel
theorem dL_law_1284 : decode cL_law 1284 = .ok (.iadd, 1) := by decide +kernel
theorem dL_law_1285 : decode cL_law 1285 = .ok (.iaload, 1) := by decide +kernel
theorem dL_law_1286 : decode cL_law 1286 = .ok (.aload_n 0, 1) := by decide +kernel
theorem dL_law_1287 : decode cL_law 1287 = .ok (.iload_n 3, 1) := by decide +kernel
theorem dL_law_1288 : decode cL_law 1288 = .ok (.iconst 3, 1) := by decide +kernel
theorem dL_law_1289 : decode cL_law 1289 = .ok (.iadd, 1) := by decide +kernel
theorem dL_law_1290 : decode cL_law 1290 = .ok (.iaload, 1) := by decide +kernel
theorem dL_law_1291 : decode cL_law 1291 = .ok (.invokevirtual 148, 3) := by decide +kernel
theorem dL_law_1294 : decode cL_law 1294 = .ok (.if_icmp .eq 173, 3) := by decide +kernel
theorem dL_law_1297 : decode cL_law 1297 = .ok (.iconst 0, 1) := by decide +kernel
theorem dL_law_1298 : decode cL_law 1298 = .ok (.ireturn, 1) := by decide +kernel
theorem dL_law_1299 : decode cL_law 1299 = .ok (.aload_n 1, 1) := by decide +kernel
theorem dL_law_1300 : decode cL_law 1300 = .ok (.aload_n 0, 1) := by decide +kernel
theorem dL_law_1301 : decode cL_law 1301 = .ok (.iload_n 3, 1) := by decide +kernel
theorem dL_law_1302 : decode cL_law 1302 = .ok (.iconst 1, 1) := by decide +kernel
theorem dL_law_1303 : decode cL_law 1303 = .ok (.iadd, 1) := by decide +kernel
theorem dL_law_1304 : decode cL_law 1304 = .ok (.iaload, 1) := by decide +kernel
theorem dL_law_1305 : decode cL_law 1305 = .ok (.aload_n 0, 1) := by decide +kernel
theorem dL_law_1306 : decode cL_law 1306 = .ok (.iload_n 3, 1) := by decide +kernel
theorem dL_law_1307 : decode cL_law 1307 = .ok (.iconst 2, 1) := by decide +kernel
theorem dL_law_1308 : decode cL_law 1308 = .ok (.iadd, 1) := by decide +kernel
theorem dL_law_1309 : decode cL_law 1309 = .ok (.iaload, 1) := by decide +kernel
theorem dL_law_1310 : decode cL_law 1310 = .ok (.aload_n 0, 1) := by decide +kernel
theorem dL_law_1311 : decode cL_law 1311 = .ok (.iload_n 3, 1) := by decide +kernel
theorem dL_law_1312 : decode cL_law 1312 = .ok (.iconst 3, 1) := by decide +kernel
theorem dL_law_1313 : decode cL_law 1313 = .ok (.iadd, 1) := by decide +kernel
theorem dL_law_1314 : decode cL_law 1314 = .ok (.iaload, 1) := by decide +kernel
theorem dL_law_1315 : decode cL_law 1315 = .ok (.invokevirtual 149, 3) := by decide +kernel
theorem dL_law_1318 : decode cL_law 1318 = .ok (.aload_n 2, 1) := by decide +kernel
theorem dL_law_1319 : decode cL_law 1319 = .ok (.aload_n 0, 1) := by decide +kernel
theorem dL_law_1320 : decode cL_law 1320 = .ok (.iload_n 3, 1) := by decide +kernel
theorem dL_law_1321 : decode cL_law 1321 = .ok (.iconst 1, 1) := by decide +kernel
theorem dL_law_1322 : decode cL_law 1322 = .ok (.iadd, 1) := by decide +kernel
theorem dL_law_1323 : decode cL_law 1323 = .ok (.iaload, 1) := by decide +kernel
theorem dL_law_1324 : decode cL_law 1324 = .ok (.aload_n 0, 1) := by decide +kernel
theorem dL_law_1325 : decode cL_law 1325 = .ok (.iload_n 3, 1) := by decide +kernel
theorem dL_law_1326 : decode cL_law 1326 = .ok (.iconst 2, 1) := by decide +kernel
theorem dL_law_1327 : decode cL_law 1327 = .ok (.iadd, 1) := by decide +kernel
theorem dL_law_1328 : decode cL_law 1328 = .ok (.iaload, 1) := by decide +kernel
theorem dL_law_1329 : decode cL_law 1329 = .ok (.aload_n 0, 1) := by decide +kernel
theorem dL_law_1330 : decode cL_law 1330 = .ok (.iload_n 3, 1) := by decide +kernel
theorem dL_law_1331 : decode cL_law 1331 = .ok (.iconst 3, 1) := by decide +kernel
theorem dL_law_1332 : decode cL_law 1332 = .ok (.iadd, 1) := by decide +kernel
theorem dL_law_1333 : decode cL_law 1333 = .ok (.iaload, 1) := by decide +kernel
theorem dL_law_1334 : decode cL_law 1334 = .ok (.invokevirtual 152, 3) := by decide +kernel
theorem dL_law_1337 : decode cL_law 1337 = .ok (.if_icmp .eq 130, 3) := by decide +kernel
theorem dL_law_1340 : decode cL_law 1340 = .ok (.iconst 0, 1) := by decide +kernel
theorem dL_law_1341 : decode cL_law 1341 = .ok (.ireturn, 1) := by decide +kernel
theorem dL_law_1342 : decode cL_law 1342 = .ok (.aload_n 1, 1) := by decide +kernel
theorem dL_law_1343 : decode cL_law 1343 = .ok (.aload_n 0, 1) := by decide +kernel
theorem dL_law_1344 : decode cL_law 1344 = .ok (.iload_n 3, 1) := by decide +kernel
theorem dL_law_1345 : decode cL_law 1345 = .ok (.iconst 1, 1) := by decide +kernel
theorem dL_law_1346 : decode cL_law 1346 = .ok (.iadd, 1) := by decide +kernel
theorem dL_law_1347 : decode cL_law 1347 = .ok (.iaload, 1) := by decide +kernel
theorem dL_law_1348 : decode cL_law 1348 = .ok (.aload_n 0, 1) := by decide +kernel
theorem dL_law_1349 : decode cL_law 1349 = .ok (.iload_n 3, 1) := by decide +kernel
theorem dL_law_1350 : decode cL_law 1350 = .ok (.iconst 2, 1) := by decide +kernel
theorem dL_law_1351 : decode cL_law 1351 = .ok (.iadd, 1) := by decide +kernel
theorem dL_law_1352 : decode cL_law 1352 = .ok (.iaload, 1) := by decide +kernel
theorem dL_law_1353 : decode cL_law 1353 = .ok (.aload_n 0, 1) := by decide +kernel
theorem dL_law_1354 : decode cL_law 1354 = .ok (.iload_n 3, 1) := by decide +kernel
theorem dL_law_1355 : decode cL_law 1355 = .ok (.iconst 3, 1) := by decide +kernel
theorem dL_law_1356 : decode cL_law 1356 = .ok (.iadd, 1) := by decide +kernel
theorem dL_law_1357 : decode cL_law 1357 = .ok (.iaload, 1) := by decide +kernel
theorem dL_law_1358 : decode cL_law 1358 = .ok (.invokevirtual 153, 3) := by decide +kernel
theorem dL_law_1361 : decode cL_law 1361 = .ok (.aload_n 2, 1) := by decide +kernel
theorem dL_law_1362 : decode cL_law 1362 = .ok (.aload_n 0, 1) := by decide +kernel
theorem dL_law_1363 : decode cL_law 1363 = .ok (.iload_n 3, 1) := by decide +kernel
theorem dL_law_1364 : decode cL_law 1364 = .ok (.iconst 1, 1) := by decide +kernel
theorem dL_law_1365 : decode cL_law 1365 = .ok (.iadd, 1) := by decide +kernel
theorem dL_law_1366 : decode cL_law 1366 = .ok (.iaload, 1) := by decide +kernel
theorem dL_law_1367 : decode cL_law 1367 = .ok (.aload_n 0, 1) := by decide +kernel
theorem dL_law_1368 : decode cL_law 1368 = .ok (.iload_n 3, 1) := by decide +kernel
theorem dL_law_1369 : decode cL_law 1369 = .ok (.iconst 2, 1) := by decide +kernel
theorem dL_law_1370 : decode cL_law 1370 = .ok (.iadd, 1) := by decide +kernel
theorem dL_law_1371 : decode cL_law 1371 = .ok (.iaload, 1) := by decide +kernel
theorem dL_law_1372 : decode cL_law 1372 = .ok (.aload_n 0, 1) := by decide +kernel
theorem dL_law_1373 : decode cL_law 1373 = .ok (.iload_n 3, 1) := by decide +kernel
theorem dL_law_1374 : decode cL_law 1374 = .ok (.iconst 3, 1) := by decide +kernel
theorem dL_law_1375 : decode cL_law 1375 = .ok (.iadd, 1) := by decide +kernel
theorem dL_law_1376 : decode cL_law 1376 = .ok (.iaload, 1) := by decide +kernel
theorem dL_law_1377 : decode cL_law 1377 = .ok (.invokevirtual 156, 3) := by decide +kernel
theorem dL_law_1380 : decode cL_law 1380 = .ok (.if_icmp .eq 87, 3) := by decide +kernel
theorem dL_law_1383 : decode cL_law 1383 = .ok (.iconst 0, 1) := by decide +kernel
theorem dL_law_1384 : decode cL_law 1384 = .ok (.ireturn, 1) := by decide +kernel
theorem dL_law_1385 : decode cL_law 1385 = .ok (.aload_n 1, 1) := by decide +kernel
theorem dL_law_1386 : decode cL_law 1386 = .ok (.aload_n 0, 1) := by decide +kernel
theorem dL_law_1387 : decode cL_law 1387 = .ok (.iload_n 3, 1) := by decide +kernel
theorem dL_law_1388 : decode cL_law 1388 = .ok (.iconst 1, 1) := by decide +kernel
theorem dL_law_1389 : decode cL_law 1389 = .ok (.iadd, 1) := by decide +kernel
theorem dL_law_1390 : decode cL_law 1390 = .ok (.iaload, 1) := by decide +kernel
theorem dL_law_1391 : decode cL_law 1391 = .ok (.aload_n 0, 1) := by decide +kernel
theorem dL_law_1392 : decode cL_law 1392 = .ok (.iload_n 3, 1) := by decide +kernel
theorem dL_law_1393 : decode cL_law 1393 = .ok (.iconst 2, 1) := by decide +kernel
theorem dL_law_1394 : decode cL_law 1394 = .ok (.iadd, 1) := by decide +kernel
theorem dL_law_1395 : decode cL_law 1395 = .ok (.iaload, 1) := by decide +kernel
theorem dL_law_1396 : decode cL_law 1396 = .ok (.invokevirtual 157, 3) := by decide +kernel
theorem dL_law_1399 : decode cL_law 1399 = .ok (.aload_n 2, 1) := by decide +kernel
theorem dL_law_1400 : decode cL_law 1400 = .ok (.aload_n 0, 1) := by decide +kernel
theorem dL_law_1401 : decode cL_law 1401 = .ok (.iload_n 3, 1) := by decide +kernel
theorem dL_law_1402 : decode cL_law 1402 = .ok (.iconst 1, 1) := by decide +kernel
theorem dL_law_1403 : decode cL_law 1403 = .ok (.iadd, 1) := by decide +kernel
theorem dL_law_1404 : decode cL_law 1404 = .ok (.iaload, 1) := by decide +kernel
theorem dL_law_1405 : decode cL_law 1405 = .ok (.aload_n 0, 1) := by decide +kernel
theorem dL_law_1406 : decode cL_law 1406 = .ok (.iload_n 3, 1) := by decide +kernel
theorem dL_law_1407 : decode cL_law 1407 = .ok (.iconst 2, 1) := by decide +kernel
theorem dL_law_1408 : decode cL_law 1408 = .ok (.iadd, 1) := by decide +kernel
theorem dL_law_1409 : decode cL_law 1409 = .ok (.iaload, 1) := by decide +kernel
theorem dL_law_1410 : decode cL_law 1410 = .ok (.invokevirtual 160, 3) := by decide +kernel
theorem dL_law_1413 : decode cL_law 1413 = .ok (.if_icmp .eq 54, 3) := by decide +kernel
theorem dL_law_1416 : decode cL_law 1416 = .ok (.iconst 0, 1) := by decide +kernel
theorem dL_law_1417 : decode cL_law 1417 = .ok (.ireturn, 1) := by decide +kernel
theorem dL_law_1418 : decode cL_law 1418 = .ok (.aload_n 1, 1) := by decide +kernel
theorem dL_law_1419 : decode cL_law 1419 = .ok (.invokevirtual 161, 3) := by decide +kernel
theorem dL_law_1422 : decode cL_law 1422 = .ok (.aload_n 2, 1) := by decide +kernel
theorem dL_law_1423 : decode cL_law 1423 = .ok (.invokevirtual 164, 3) := by decide +kernel
theorem dL_law_1426 : decode cL_law 1426 = .ok (.if_icmp .eq 41, 3) := by decide +kernel
theorem dL_law_1429 : decode cL_law 1429 = .ok (.iconst 0, 1) := by decide +kernel
theorem dL_law_1430 : decode cL_law 1430 = .ok (.ireturn, 1) := by decide +kernel
theorem dL_law_1431 : decode cL_law 1431 = .ok (.aload_n 1, 1) := by decide +kernel
theorem dL_law_1432 : decode cL_law 1432 = .ok (.invokevirtual 165, 3) := by decide +kernel
theorem dL_law_1435 : decode cL_law 1435 = .ok (.aload_n 2, 1) := by decide +kernel
theorem dL_law_1436 : decode cL_law 1436 = .ok (.invokevirtual 168, 3) := by decide +kernel
theorem dL_law_1439 : decode cL_law 1439 = .ok (.if_icmp .eq 28, 3) := by decide +kernel
theorem dL_law_1442 : decode cL_law 1442 = .ok (.iconst 0, 1) := by decide +kernel
theorem dL_law_1443 : decode cL_law 1443 = .ok (.ireturn, 1) := by decide +kernel
theorem dL_law_1444 : decode cL_law 1444 = .ok (.aload_n 1, 1) := by decide +kernel
theorem dL_law_1445 : decode cL_law 1445 = .ok (.aload_n 0, 1) := by decide +kernel
theorem dL_law_1446 : decode cL_law 1446 = .ok (.iload_n 3, 1) := by decide +kernel
theorem dL_law_1447 : decode cL_law 1447 = .ok (.iconst 1, 1) := by decide +kernel
theorem dL_law_1448 : decode cL_law 1448 = .ok (.iadd, 1) := by decide +kernel
theorem dL_law_1449 : decode cL_law 1449 = .ok (.iaload, 1) := by decide +kernel
theorem dL_law_1450 : decode cL_law 1450 = .ok (.invokevirtual 169, 3) := by decide +kernel
theorem dL_law_1453 : decode cL_law 1453 = .ok (.aload_n 2, 1) := by decide +kernel
theorem dL_law_1454 : decode cL_law 1454 = .ok (.aload_n 0, 1) := by decide +kernel
theorem dL_law_1455 : decode cL_law 1455 = .ok (.iload_n 3, 1) := by decide +kernel
theorem dL_law_1456 : decode cL_law 1456 = .ok (.iconst 1, 1) := by decide +kernel
theorem dL_law_1457 : decode cL_law 1457 = .ok (.iadd, 1) := by decide +kernel
theorem dL_law_1458 : decode cL_law 1458 = .ok (.iaload, 1) := by decide +kernel
theorem dL_law_1459 : decode cL_law 1459 = .ok (.invokevirtual 172, 3) := by decide +kernel
theorem dL_law_1462 : decode cL_law 1462 = .ok (.if_icmp .eq 5, 3) := by decide +kernel
theorem dL_law_1465 : decode cL_law 1465 = .ok (.iconst 0, 1) := by decide +kernel
theorem dL_law_1466 : decode cL_law 1466 = .ok (.ireturn, 1) := by decide +kernel
theorem dL_law_1467 : decode cL_law 1467 = .ok (.iinc 3 6, 3) := by decide +kernel
