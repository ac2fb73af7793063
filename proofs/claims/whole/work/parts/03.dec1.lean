theorem dX11_init_82 : decode cX11_init 82 = .ok (.new 45, 3) := by decide +kernel
theorem dX11_init_85 : decode cX11_init 85 = .ok (.dup, 1) := by decide +kernel
theorem dX11_init_86 : decode cX11_init 86 = .ok (.invokespecial 47, 3) := by decide +kernel
theorem dX11_init_89 : decode cX11_init 89 = .ok (.putfield 52, 3) := by decide +kernel
theorem dX11_init_92 : decode cX11_init 92 = .ok (.aload_n 0, 1) := by decide +kernel
theorem dX11_init_93 : decode cX11_init 93 = .ok (.iconst 4, 1) := by decide +kernel
theorem dX11_init_94 : decode cX11_init 94 = .ok (.anewarray 55, 3) := by decide +kernel
theorem dX11_init_97 : decode cX11_init 97 = .ok (.putfield 57, 3) := by decide +kernel
theorem dX11_init_100 : decode cX11_init 100 = .ok (.aload_n 0, 1) := by decide +kernel
theorem dX11_init_101 : decode cX11_init 101 = .ok (.iconst 3, 1) := by decide +kernel
theorem dX11_init_102 : decode cX11_init 102 = .ok (.anewarray 61, 3) := by decide +kernel
theorem dX11_init_105 : decode cX11_init 105 = .ok (.putfield 63, 3) := by decide +kernel
theorem dX11_init_108 : decode cX11_init 108 = .ok (.aload_n 0, 1) := by decide +kernel
theorem dX11_init_109 : decode cX11_init 109 = .ok (.new 67, 3) := by decide +kernel
theorem dX11_init_112 : decode cX11_init 112 = .ok (.dup, 1) := by decide +kernel
theorem dX11_init_113 : decode cX11_init 113 = .ok (.invokespecial 69, 3) := by decide +kernel
theorem dX11_init_116 : decode cX11_init 116 = .ok (.putfield 70, 3) := by decide +kernel
theorem dX11_init_119 : decode cX11_init 119 = .ok (.aload_n 0, 1) := by decide +kernel
theorem dX11_init_120 : decode cX11_init 120 = .ok (.new 74, 3) := by decide +kernel
theorem dX11_init_123 : decode cX11_init 123 = .ok (.dup, 1) := by decide +kernel
theorem dX11_init_124 : decode cX11_init 124 = .ok (.invokespecial 76, 3) := by decide +kernel
theorem dX11_init_127 : decode cX11_init 127 = .ok (.putfield 77, 3) := by decide +kernel
theorem dX11_init_130 : decode cX11_init 130 = .ok (.aload_n 0, 1) := by decide +kernel
theorem dX11_init_131 : decode cX11_init 131 = .ok (.new 74, 3) := by decide +kernel
theorem dX11_init_134 : decode cX11_init 134 = .ok (.dup, 1) := by decide +kernel
theorem dX11_init_135 : decode cX11_init 135 = .ok (.invokespecial 76, 3) := by decide +kernel
theorem dX11_init_138 : decode cX11_init 138 = .ok (.putfield 81, 3) := by decide +kernel
theorem dX11_init_141 : decode cX11_init 141 = .ok (.aload_n 0, 1) := by decide +kernel
theorem dX11_init_142 : decode cX11_init 142 = .ok (.iconst 3, 1) := by decide +kernel
theorem dX11_init_143 : decode cX11_init 143 = .ok (.anewarray 84, 3) := by decide +kernel
theorem dX11_init_146 : decode cX11_init 146 = .ok (.putfield 86, 3) := by decide +kernel
theorem dX11_init_149 : decode cX11_init 149 = .ok (.aload_n 0, 1) := by decide +kernel
theorem dX11_init_150 : decode cX11_init 150 = .ok (.getfield 21, 3) := by decide +kernel
theorem dX11_init_153 : decode cX11_init 153 = .ok (.invokevirtual 90, 3) := by decide +kernel
theorem dX11_init_156 : decode cX11_init 156 = .ok (.iconst 0, 1) := by decide +kernel
theorem dX11_init_157 : decode cX11_init 157 = .ok (.istore_n 1, 1) := by decide +kernel
theorem dX11_init_158 : decode cX11_init 158 = .ok (.iload_n 1, 1) := by decide +kernel
theorem dX11_init_159 : decode cX11_init 159 = .ok (.iconst 4, 1) := by decide +kernel
theorem dX11_init_160 : decode cX11_init 160 = .ok (.if_icmp .ge 22, 3) := by decide +kernel
theorem dX11_init_163 : decode cX11_init 163 = .ok (.aload_n 0, 1) := by decide +kernel
theorem dX11_init_164 : decode cX11_init 164 = .ok (.getfield 57, 3) := by decide +kernel
theorem dX11_init_167 : decode cX11_init 167 = .ok (.iload_n 1, 1) := by decide +kernel
theorem dX11_init_168 : decode cX11_init 168 = .ok (.new 55, 3) := by decide +kernel
theorem dX11_init_171 : decode cX11_init 171 = .ok (.dup, 1) := by decide +kernel
theorem dX11_init_172 : decode cX11_init 172 = .ok (.invokespecial 93, 3) := by decide +kernel
theorem dX11_init_175 : decode cX11_init 175 = .ok (.aastore, 1) := by decide +kernel
theorem dX11_init_176 : decode cX11_init 176 = .ok (.iinc 1 1, 3) := by decide +kernel
theorem dX11_init_179 : decode cX11_init 179 = .ok (.goto (-21), 3) := by decide +kernel
theorem dX11_init_182 : decode cX11_init 182 = .ok (.iconst 0, 1) := by decide +kernel
theorem dX11_init_183 : decode cX11_init 183 = .ok (.istore_n 1, 1) := by decide +kernel
theorem dX11_init_184 : decode cX11_init 184 = .ok (.iload_n 1, 1) := by decide +kernel
theorem dX11_init_185 : decode cX11_init 185 = .ok (.iconst 3, 1) := by decide +kernel
theorem dX11_init_186 : decode cX11_init 186 = .ok (.if_icmp .ge 23, 3) := by decide +kernel
theorem dX11_init_189 : decode cX11_init 189 = .ok (.aload_n 0, 1) := by decide +kernel
theorem dX11_init_190 : decode cX11_init 190 = .ok (.getfield 63, 3) := by decide +kernel
theorem dX11_init_193 : decode cX11_init 193 = .ok (.iload_n 1, 1) := by decide +kernel
theorem dX11_init_194 : decode cX11_init 194 = .ok (.new 61, 3) := by decide +kernel
theorem dX11_init_197 : decode cX11_init 197 = .ok (.dup, 1) := by decide +kernel
theorem dX11_init_198 : decode cX11_init 198 = .ok (.iload_n 1, 1) := by decide +kernel
theorem dX11_init_199 : decode cX11_init 199 = .ok (.invokespecial 94, 3) := by decide +kernel
theorem dX11_init_202 : decode cX11_init 202 = .ok (.aastore, 1) := by decide +kernel
theorem dX11_init_203 : decode cX11_init 203 = .ok (.iinc 1 1, 3) := by decide +kernel
theorem dX11_init_206 : decode cX11_init 206 = .ok (.goto (-22), 3) := by decide +kernel
theorem dX11_init_209 : decode cX11_init 209 = .ok (.return_, 1) := by decide +kernel
theorem dX11_feed_0 : decode cX11_feed 0 = .ok (.iload_n 1, 1) := by decide +kernel
theorem dX11_feed_1 : decode cX11_feed 1 = .ok (.iconst 1, 1) := by decide +kernel
theorem dX11_feed_2 : decode cX11_feed 2 = .ok (.if_icmp .lt 9, 3) := by decide +kernel
theorem dX11_feed_5 : decode cX11_feed 5 = .ok (.iload_n 1, 1) := by decide +kernel
theorem dX11_feed_6 : decode cX11_feed 6 = .ok (.bipush 127, 2) := by decide +kernel
theorem dX11_feed_8 : decode cX11_feed 8 = .ok (.if_icmp .le 6, 3) := by decide +kernel
theorem dX11_feed_11 : decode cX11_feed 11 = .ok (.bipush (-2), 2) := by decide +kernel
theorem dX11_feed_13 : decode cX11_feed 13 = .ok (.ireturn, 1) := by decide +kernel
theorem dX11_feed_14 : decode cX11_feed 14 = .ok (.aload_n 0, 1) := by decide +kernel
theorem dX11_feed_15 : decode cX11_feed 15 = .ok (.getfield 12, 3) := by decide +kernel
theorem dX11_feed_18 : decode cX11_feed 18 = .ok (.iload_n 1, 1) := by decide +kernel
theorem dX11_feed_19 : decode cX11_feed 19 = .ok (.invokevirtual 97, 3) := by decide +kernel
theorem dX11_feed_22 : decode cX11_feed 22 = .ok (.ifCond .eq 13, 3) := by decide +kernel
theorem dX11_feed_25 : decode cX11_feed 25 = .ok (.aload_n 0, 1) := by decide +kernel
theorem dX11_feed_26 : decode cX11_feed 26 = .ok (.getfield 12, 3) := by decide +kernel
theorem dX11_feed_29 : decode cX11_feed 29 = .ok (.getfield 101, 3) := by decide +kernel
theorem dX11_feed_32 : decode cX11_feed 32 = .ok (.goto 5, 3) := by decide +kernel
theorem dX11_feed_35 : decode cX11_feed 35 = .ok (.bipush (-4), 2) := by decide +kernel
theorem dX11_feed_37 : decode cX11_feed 37 = .ok (.ireturn, 1) := by decide +kernel
theorem dX11_define_0 : decode cX11_define 0 = .ok (.aload_n 0, 1) := by decide +kernel
theorem dX11_define_1 : decode cX11_define 1 = .ok (.getfield 41, 3) := by decide +kernel
theorem dX11_define_4 : decode cX11_define 4 = .ok (.aload_n 0, 1) := by decide +kernel
theorem dX11_define_5 : decode cX11_define 5 = .ok (.getfield 12, 3) := by decide +kernel
theorem dX11_define_8 : decode cX11_define 8 = .ok (.invokevirtual 105, 3) := by decide +kernel
theorem dX11_define_11 : decode cX11_define 11 = .ok (.ifCond .eq 21, 3) := by decide +kernel
theorem dX11_define_14 : decode cX11_define 14 = .ok (.aload_n 0, 1) := by decide +kernel
theorem dX11_define_15 : decode cX11_define 15 = .ok (.getfield 41, 3) := by decide +kernel
theorem dX11_define_18 : decode cX11_define 18 = .ok (.aload_n 0, 1) := by decide +kernel
theorem dX11_define_19 : decode cX11_define 19 = .ok (.getfield 21, 3) := by decide +kernel
theorem dX11_define_22 : decode cX11_define 22 = .ok (.aload_n 0, 1) := by decide +kernel
theorem dX11_define_23 : decode cX11_define 23 = .ok (.getfield 12, 3) := by decide +kernel
theorem dX11_define_26 : decode cX11_define 26 = .ok (.invokevirtual 109, 3) := by decide +kernel
theorem dX11_define_29 : decode cX11_define 29 = .ok (.goto 13, 3) := by decide +kernel
theorem dX11_define_32 : decode cX11_define 32 = .ok (.bipush (-100), 2) := by decide +kernel
theorem dX11_define_34 : decode cX11_define 34 = .ok (.aload_n 0, 1) := by decide +kernel
theorem dX11_define_35 : decode cX11_define 35 = .ok (.getfield 12, 3) := by decide +kernel
theorem dX11_define_38 : decode cX11_define 38 = .ok (.getfield 113, 3) := by decide +kernel
theorem dX11_define_41 : decode cX11_define 41 = .ok (.isub, 1) := by decide +kernel
theorem dX11_define_42 : decode cX11_define 42 = .ok (.istore_n 1, 1) := by decide +kernel
theorem dX11_define_43 : decode cX11_define 43 = .ok (.aload_n 0, 1) := by decide +kernel
theorem dX11_define_44 : decode cX11_define 44 = .ok (.getfield 12, 3) := by decide +kernel
theorem dX11_define_47 : decode cX11_define 47 = .ok (.invokevirtual 116, 3) := by decide +kernel
theorem dX11_define_50 : decode cX11_define 50 = .ok (.iload_n 1, 1) := by decide +kernel
theorem dX11_define_51 : decode cX11_define 51 = .ok (.ireturn, 1) := by decide +kernel
theorem dX11_drop_0 : decode cX11_drop 0 = .ok (.aload_n 0, 1) := by decide +kernel
theorem dX11_drop_1 : decode cX11_drop 1 = .ok (.getfield 21, 3) := by decide +kernel
theorem dX11_drop_4 : decode cX11_drop 4 = .ok (.getfield 119, 3) := by decide +kernel
theorem dX11_drop_7 : decode cX11_drop 7 = .ok (.iconst 5, 1) := by decide +kernel
theorem dX11_drop_8 : decode cX11_drop 8 = .ok (.if_icmp .gt 6, 3) := by decide +kernel
theorem dX11_drop_11 : decode cX11_drop 11 = .ok (.bipush (-3), 2) := by decide +kernel
theorem dX11_drop_13 : decode cX11_drop 13 = .ok (.ireturn, 1) := by decide +kernel
theorem dX11_drop_14 : decode cX11_drop 14 = .ok (.aload_n 0, 1) := by decide +kernel
theorem dX11_drop_15 : decode cX11_drop 15 = .ok (.getfield 21, 3) := by decide +kernel
theorem dX11_drop_18 : decode cX11_drop 18 = .ok (.dup, 1) := by decide +kernel
theorem dX11_drop_19 : decode cX11_drop 19 = .ok (.getfield 119, 3) := by decide +kernel
theorem dX11_drop_22 : decode cX11_drop 22 = .ok (.iconst 1, 1) := by decide +kernel
theorem dX11_drop_23 : decode cX11_drop 23 = .ok (.isub, 1) := by decide +kernel
theorem dX11_drop_24 : decode cX11_drop 24 = .ok (.putfield 119, 3) := by decide +kernel
theorem dX11_drop_27 : decode cX11_drop 27 = .ok (.aload_n 0, 1) := by decide +kernel
theorem dX11_drop_28 : decode cX11_drop 28 = .ok (.getfield 28, 3) := by decide +kernel
theorem dX11_drop_31 : decode cX11_drop 31 = .ok (.aload_n 0, 1) := by decide +kernel
theorem dX11_drop_32 : decode cX11_drop 32 = .ok (.getfield 21, 3) := by decide +kernel
theorem dX11_drop_35 : decode cX11_drop 35 = .ok (.getfield 119, 3) := by decide +kernel
theorem dX11_drop_38 : decode cX11_drop 38 = .ok (.invokevirtual 122, 3) := by decide +kernel
theorem dX11_drop_41 : decode cX11_drop 41 = .ok (.aload_n 0, 1) := by decide +kernel
theorem dX11_drop_42 : decode cX11_drop 42 = .ok (.getfield 21, 3) := by decide +kernel
theorem dX11_drop_45 : decode cX11_drop 45 = .ok (.getfield 119, 3) := by decide +kernel
theorem dX11_drop_48 : decode cX11_drop 48 = .ok (.ireturn, 1) := by decide +kernel
theorem dX11_find_0 : decode cX11_find 0 = .ok (.aload_n 0, 1) := by decide +kernel
theorem dX11_find_1 : decode cX11_find 1 = .ok (.getfield 21, 3) := by decide +kernel
theorem dX11_find_4 : decode cX11_find 4 = .ok (.aload_n 0, 1) := by decide +kernel
theorem dX11_find_5 : decode cX11_find 5 = .ok (.getfield 12, 3) := by decide +kernel
theorem dX11_find_8 : decode cX11_find 8 = .ok (.iconst 0, 1) := by decide +kernel
theorem dX11_find_9 : decode cX11_find 9 = .ok (.aload_n 0, 1) := by decide +kernel
theorem dX11_find_10 : decode cX11_find 10 = .ok (.getfield 12, 3) := by decide +kernel
theorem dX11_find_13 : decode cX11_find 13 = .ok (.getfield 101, 3) := by decide +kernel
theorem dX11_find_16 : decode cX11_find 16 = .ok (.invokevirtual 125, 3) := by decide +kernel
theorem dX11_find_19 : decode cX11_find 19 = .ok (.istore_n 1, 1) := by decide +kernel
theorem dX11_find_20 : decode cX11_find 20 = .ok (.aload_n 0, 1) := by decide +kernel
theorem dX11_find_21 : decode cX11_find 21 = .ok (.getfield 12, 3) := by decide +kernel
theorem dX11_find_24 : decode cX11_find 24 = .ok (.invokevirtual 116, 3) := by decide +kernel
theorem dX11_find_27 : decode cX11_find 27 = .ok (.iload_n 1, 1) := by decide +kernel
theorem dX11_find_28 : decode cX11_find 28 = .ok (.ifCond .ge 8, 3) := by decide +kernel
theorem dX11_find_31 : decode cX11_find 31 = .ok (.bipush (-5), 2) := by decide +kernel
theorem dX11_find_33 : decode cX11_find 33 = .ok (.goto 4, 3) := by decide +kernel
theorem dX11_find_36 : decode cX11_find 36 = .ok (.iload_n 1, 1) := by decide +kernel
theorem dX11_find_37 : decode cX11_find 37 = .ok (.ireturn, 1) := by decide +kernel
theorem dX11_name_0 : decode cX11_name 0 = .ok (.aload_n 0, 1) := by decide +kernel
theorem dX11_name_1 : decode cX11_name 1 = .ok (.getfield 21, 3) := by decide +kernel
theorem dX11_name_4 : decode cX11_name 4 = .ok (.iload_n 1, 1) := by decide +kernel
theorem dX11_name_5 : decode cX11_name 5 = .ok (.invokevirtual 129, 3) := by decide +kernel
theorem dX11_name_8 : decode cX11_name 8 = .ok (.astore_n 3, 1) := by decide +kernel
theorem dX11_name_9 : decode cX11_name 9 = .ok (.aload_n 3, 1) := by decide +kernel
theorem dX11_name_10 : decode cX11_name 10 = .ok (.ifnull 16, 3) := by decide +kernel
theorem dX11_name_13 : decode cX11_name 13 = .ok (.iload_n 2, 1) := by decide +kernel
theorem dX11_name_14 : decode cX11_name 14 = .ok (.iconst (-1), 1) := by decide +kernel
theorem dX11_name_15 : decode cX11_name 15 = .ok (.if_icmp .lt 11, 3) := by decide +kernel
theorem dX11_name_18 : decode cX11_name 18 = .ok (.iload_n 2, 1) := by decide +kernel
theorem dX11_name_19 : decode cX11_name 19 = .ok (.aload_n 3, 1) := by decide +kernel
theorem dX11_name_20 : decode cX11_name 20 = .ok (.getfield 132, 3) := by decide +kernel
theorem dX11_name_23 : decode cX11_name 23 = .ok (.if_icmp .lt 5, 3) := by decide +kernel
theorem dX11_name_26 : decode cX11_name 26 = .ok (.iconst (-1), 1) := by decide +kernel
theorem dX11_name_27 : decode cX11_name 27 = .ok (.ireturn, 1) := by decide +kernel
theorem dX11_name_28 : decode cX11_name 28 = .ok (.iload_n 2, 1) := by decide +kernel
theorem dX11_name_29 : decode cX11_name 29 = .ok (.iconst (-1), 1) := by decide +kernel
theorem dX11_name_30 : decode cX11_name 30 = .ok (.if_icmp .ne 10, 3) := by decide +kernel
theorem dX11_name_33 : decode cX11_name 33 = .ok (.aload_n 3, 1) := by decide +kernel
theorem dX11_name_34 : decode cX11_name 34 = .ok (.getfield 132, 3) := by decide +kernel
theorem dX11_name_37 : decode cX11_name 37 = .ok (.goto 9, 3) := by decide +kernel
theorem dX11_name_40 : decode cX11_name 40 = .ok (.aload_n 3, 1) := by decide +kernel
theorem dX11_name_41 : decode cX11_name 41 = .ok (.getfield 133, 3) := by decide +kernel
theorem dX11_name_44 : decode cX11_name 44 = .ok (.iload_n 2, 1) := by decide +kernel
theorem dX11_name_45 : decode cX11_name 45 = .ok (.baload, 1) := by decide +kernel
theorem dX11_name_46 : decode cX11_name 46 = .ok (.ireturn, 1) := by decide +kernel
theorem dX11_power_0 : decode cX11_power 0 = .ok (.aload_n 0, 1) := by decide +kernel
theorem dX11_power_1 : decode cX11_power 1 = .ok (.getfield 21, 3) := by decide +kernel
theorem dX11_power_4 : decode cX11_power 4 = .ok (.iload_n 1, 1) := by decide +kernel
theorem dX11_power_5 : decode cX11_power 5 = .ok (.invokevirtual 129, 3) := by decide +kernel
theorem dX11_power_8 : decode cX11_power 8 = .ok (.astore_n 3, 1) := by decide +kernel
theorem dX11_power_9 : decode cX11_power 9 = .ok (.aload_n 3, 1) := by decide +kernel
theorem dX11_power_10 : decode cX11_power 10 = .ok (.ifnull 12, 3) := by decide +kernel
theorem dX11_power_13 : decode cX11_power 13 = .ok (.iload_n 2, 1) := by decide +kernel
theorem dX11_power_14 : decode cX11_power 14 = .ok (.ifCond .lt 8, 3) := by decide +kernel
theorem dX11_power_17 : decode cX11_power 17 = .ok (.iload_n 2, 1) := by decide +kernel
theorem dX11_power_18 : decode cX11_power 18 = .ok (.iconst 5, 1) := by decide +kernel
theorem dX11_power_19 : decode cX11_power 19 = .ok (.if_icmp .lt 5, 3) := by decide +kernel
theorem dX11_power_22 : decode cX11_power 22 = .ok (.iconst (-1), 1) := by decide +kernel
theorem dX11_power_23 : decode cX11_power 23 = .ok (.ireturn, 1) := by decide +kernel
theorem dX11_power_24 : decode cX11_power 24 = .ok (.aload_n 3, 1) := by decide +kernel
theorem dX11_power_25 : decode cX11_power 25 = .ok (.getfield 137, 3) := by decide +kernel
theorem dX11_power_28 : decode cX11_power 28 = .ok (.iload_n 2, 1) := by decide +kernel
theorem dX11_power_29 : decode cX11_power 29 = .ok (.iaload, 1) := by decide +kernel
theorem dX11_power_30 : decode cX11_power 30 = .ok (.bipush 10, 2) := by decide +kernel
theorem dX11_power_32 : decode cX11_power 32 = .ok (.iadd, 1) := by decide +kernel
theorem dX11_power_33 : decode cX11_power 33 = .ok (.ireturn, 1) := by decide +kernel
theorem dX11_scale_0 : decode cX11_scale 0 = .ok (.aload_n 0, 1) := by decide +kernel
theorem dX11_scale_1 : decode cX11_scale 1 = .ok (.getfield 21, 3) := by decide +kernel
theorem dX11_scale_4 : decode cX11_scale 4 = .ok (.iload_n 1, 1) := by decide +kernel
theorem dX11_scale_5 : decode cX11_scale 5 = .ok (.invokevirtual 129, 3) := by decide +kernel
theorem dX11_scale_8 : decode cX11_scale 8 = .ok (.astore 4, 2) := by decide +kernel
theorem dX11_scale_10 : decode cX11_scale 10 = .ok (.aload 4, 2) := by decide +kernel
theorem dX11_scale_12 : decode cX11_scale 12 = .ok (.ifnull 12, 3) := by decide +kernel
theorem dX11_scale_15 : decode cX11_scale 15 = .ok (.iload_n 2, 1) := by decide +kernel
theorem dX11_scale_16 : decode cX11_scale 16 = .ok (.ifCond .lt 8, 3) := by decide +kernel
theorem dX11_scale_19 : decode cX11_scale 19 = .ok (.iload_n 2, 1) := by decide +kernel
theorem dX11_scale_20 : decode cX11_scale 20 = .ok (.iconst 1, 1) := by decide +kernel
theorem dX11_scale_21 : decode cX11_scale 21 = .ok (.if_icmp .le 7, 3) := by decide +kernel
theorem dX11_scale_24 : decode cX11_scale 24 = .ok (.ldc2_w 141, 3) := by decide +kernel
theorem dX11_scale_27 : decode cX11_scale 27 = .ok (.lreturn, 1) := by decide +kernel
theorem dX11_scale_28 : decode cX11_scale 28 = .ok (.iload_n 2, 1) := by decide +kernel
theorem dX11_scale_29 : decode cX11_scale 29 = .ok (.ifCond .ne 15, 3) := by decide +kernel
theorem dX11_scale_32 : decode cX11_scale 32 = .ok (.aload 4, 2) := by decide +kernel
theorem dX11_scale_34 : decode cX11_scale 34 = .ok (.getfield 143, 3) := by decide +kernel
theorem dX11_scale_37 : decode cX11_scale 37 = .ok (.iload_n 3, 1) := by decide +kernel
theorem dX11_scale_38 : decode cX11_scale 38 = .ok (.invokevirtual 146, 3) := by decide +kernel
theorem dX11_scale_41 : decode cX11_scale 41 = .ok (.goto 12, 3) := by decide +kernel
theorem dX11_scale_44 : decode cX11_scale 44 = .ok (.aload 4, 2) := by decide +kernel
theorem dX11_scale_46 : decode cX11_scale 46 = .ok (.getfield 150, 3) := by decide +kernel
theorem dX11_scale_49 : decode cX11_scale 49 = .ok (.iload_n 3, 1) := by decide +kernel
theorem dX11_scale_50 : decode cX11_scale 50 = .ok (.invokevirtual 146, 3) := by decide +kernel
theorem dX11_scale_53 : decode cX11_scale 53 = .ok (.lreturn, 1) := by decide +kernel
theorem dX11_ratio_0 : decode cX11_ratio 0 = .ok (.aload_n 0, 1) := by decide +kernel
theorem dX11_ratio_1 : decode cX11_ratio 1 = .ok (.getfield 21, 3) := by decide +kernel
theorem dX11_ratio_4 : decode cX11_ratio 4 = .ok (.iload_n 1, 1) := by decide +kernel
theorem dX11_ratio_5 : decode cX11_ratio 5 = .ok (.invokevirtual 129, 3) := by decide +kernel
theorem dX11_ratio_8 : decode cX11_ratio 8 = .ok (.astore 4, 2) := by decide +kernel
theorem dX11_ratio_10 : decode cX11_ratio 10 = .ok (.aload_n 0, 1) := by decide +kernel
theorem dX11_ratio_11 : decode cX11_ratio 11 = .ok (.getfield 21, 3) := by decide +kernel
theorem dX11_ratio_14 : decode cX11_ratio 14 = .ok (.iload_n 2, 1) := by decide +kernel
theorem dX11_ratio_15 : decode cX11_ratio 15 = .ok (.invokevirtual 129, 3) := by decide +kernel
theorem dX11_ratio_18 : decode cX11_ratio 18 = .ok (.astore 5, 2) := by decide +kernel
theorem dX11_ratio_20 : decode cX11_ratio 20 = .ok (.aload 4, 2) := by decide +kernel
theorem dX11_ratio_22 : decode cX11_ratio 22 = .ok (.ifnull 34, 3) := by decide +kernel
theorem dX11_ratio_25 : decode cX11_ratio 25 = .ok (.aload 5, 2) := by decide +kernel
theorem dX11_ratio_27 : decode cX11_ratio 27 = .ok (.ifnull 29, 3) := by decide +kernel
theorem dX11_ratio_30 : decode cX11_ratio 30 = .ok (.aload 4, 2) := by decide +kernel
theorem dX11_ratio_32 : decode cX11_ratio 32 = .ok (.aload 5, 2) := by decide +kernel
theorem dX11_ratio_34 : decode cX11_ratio 34 = .ok (.invokevirtual 153, 3) := by decide +kernel
theorem dX11_ratio_37 : decode cX11_ratio 37 = .ok (.ifCond .eq 19, 3) := by decide +kernel
theorem dX11_ratio_40 : decode cX11_ratio 40 = .ok (.aload 4, 2) := by decide +kernel
theorem dX11_ratio_42 : decode cX11_ratio 42 = .ok (.invokevirtual 157, 3) := by decide +kernel
theorem dX11_ratio_45 : decode cX11_ratio 45 = .ok (.ifCond .ne 11, 3) := by decide +kernel
theorem dX11_ratio_48 : decode cX11_ratio 48 = .ok (.aload 5, 2) := by decide +kernel
theorem dX11_ratio_50 : decode cX11_ratio 50 = .ok (.invokevirtual 157, 3) := by decide +kernel
theorem dX11_ratio_53 : decode cX11_ratio 53 = .ok (.ifCond .eq 7, 3) := by decide +kernel
theorem dX11_ratio_56 : decode cX11_ratio 56 = .ok (.ldc2_w 141, 3) := by decide +kernel
theorem dX11_ratio_59 : decode cX11_ratio 59 = .ok (.lreturn, 1) := by decide +kernel
theorem dX11_ratio_60 : decode cX11_ratio 60 = .ok (.aload_n 0, 1) := by decide +kernel
theorem dX11_ratio_61 : decode cX11_ratio 61 = .ok (.getfield 77, 3) := by decide +kernel
theorem dX11_ratio_64 : decode cX11_ratio 64 = .ok (.aload 5, 2) := by decide +kernel
theorem dX11_ratio_66 : decode cX11_ratio 66 = .ok (.getfield 143, 3) := by decide +kernel
theorem dX11_ratio_69 : decode cX11_ratio 69 = .ok (.invokevirtual 161, 3) := by decide +kernel
theorem dX11_ratio_72 : decode cX11_ratio 72 = .ok (.aload_n 0, 1) := by decide +kernel
theorem dX11_ratio_73 : decode cX11_ratio 73 = .ok (.getfield 77, 3) := by decide +kernel
theorem dX11_ratio_76 : decode cX11_ratio 76 = .ok (.aload 4, 2) := by decide +kernel
theorem dX11_ratio_78 : decode cX11_ratio 78 = .ok (.getfield 143, 3) := by decide +kernel
theorem dX11_ratio_81 : decode cX11_ratio 81 = .ok (.invokevirtual 165, 3) := by decide +kernel
theorem dX11_ratio_84 : decode cX11_ratio 84 = .ok (.ifCond .eq 14, 3) := by decide +kernel
theorem dX11_ratio_87 : decode cX11_ratio 87 = .ok (.aload_n 0, 1) := by decide +kernel
theorem dX11_ratio_88 : decode cX11_ratio 88 = .ok (.getfield 77, 3) := by decide +kernel
theorem dX11_ratio_91 : decode cX11_ratio 91 = .ok (.iload_n 3, 1) := by decide +kernel
theorem dX11_ratio_92 : decode cX11_ratio 92 = .ok (.invokevirtual 146, 3) := by decide +kernel
theorem dX11_ratio_95 : decode cX11_ratio 95 = .ok (.goto 6, 3) := by decide +kernel
theorem dX11_ratio_98 : decode cX11_ratio 98 = .ok (.ldc2_w 141, 3) := by decide +kernel
theorem dX11_ratio_101 : decode cX11_ratio 101 = .ok (.lreturn, 1) := by decide +kernel
theorem dX11_nearest_0 : decode cX11_nearest 0 = .ok (.aload_n 0, 1) := by decide +kernel
theorem dX11_nearest_1 : decode cX11_nearest 1 = .ok (.getfield 21, 3) := by decide +kernel
theorem dX11_nearest_4 : decode cX11_nearest 4 = .ok (.iload_n 1, 1) := by decide +kernel
theorem dX11_nearest_5 : decode cX11_nearest 5 = .ok (.invokevirtual 129, 3) := by decide +kernel
theorem dX11_nearest_8 : decode cX11_nearest 8 = .ok (.astore 4, 2) := by decide +kernel
theorem dX11_nearest_10 : decode cX11_nearest 10 = .ok (.aload 4, 2) := by decide +kernel
theorem dX11_nearest_12 : decode cX11_nearest 12 = .ok (.ifnonnull 5, 3) := by decide +kernel
theorem dX11_nearest_15 : decode cX11_nearest 15 = .ok (.iconst (-1), 1) := by decide +kernel
theorem dX11_nearest_16 : decode cX11_nearest 16 = .ok (.ireturn, 1) := by decide +kernel
theorem dX11_nearest_17 : decode cX11_nearest 17 = .ok (.iload_n 2, 1) := by decide +kernel
theorem dX11_nearest_18 : decode cX11_nearest 18 = .ok (.invokestatic 169, 3) := by decide +kernel
theorem dX11_nearest_21 : decode cX11_nearest 21 = .ok (.ifCond .eq 10, 3) := by decide +kernel
theorem dX11_nearest_24 : decode cX11_nearest 24 = .ok (.iload_n 3, 1) := by decide +kernel
theorem dX11_nearest_25 : decode cX11_nearest 25 = .ok (.invokestatic 169, 3) := by decide +kernel
theorem dX11_nearest_28 : decode cX11_nearest 28 = .ok (.ifCond .ne 6, 3) := by decide +kernel
theorem dX11_nearest_31 : decode cX11_nearest 31 = .ok (.bipush (-2), 2) := by decide +kernel
theorem dX11_nearest_33 : decode cX11_nearest 33 = .ok (.ireturn, 1) := by decide +kernel
theorem dX11_nearest_34 : decode cX11_nearest 34 = .ok (.aload_n 0, 1) := by decide +kernel
theorem dX11_nearest_35 : decode cX11_nearest 35 = .ok (.getfield 77, 3) := by decide +kernel
theorem dX11_nearest_38 : decode cX11_nearest 38 = .ok (.iload_n 2, 1) := by decide +kernel
theorem dX11_nearest_39 : decode cX11_nearest 39 = .ok (.i2l, 1) := by decide +kernel
theorem dX11_nearest_40 : decode cX11_nearest 40 = .ok (.iload_n 3, 1) := by decide +kernel
theorem dX11_nearest_41 : decode cX11_nearest 41 = .ok (.i2l, 1) := by decide +kernel
theorem dX11_nearest_42 : decode cX11_nearest 42 = .ok (.invokevirtual 172, 3) := by decide +kernel
theorem dX11_nearest_45 : decode cX11_nearest 45 = .ok (.aload_n 0, 1) := by decide +kernel
theorem dX11_nearest_46 : decode cX11_nearest 46 = .ok (.getfield 77, 3) := by decide +kernel
theorem dX11_nearest_49 : decode cX11_nearest 49 = .ok (.aload 4, 2) := by decide +kernel
theorem dX11_nearest_51 : decode cX11_nearest 51 = .ok (.getfield 143, 3) := by decide +kernel
theorem dX11_nearest_54 : decode cX11_nearest 54 = .ok (.invokevirtual 176, 3) := by decide +kernel
theorem dX11_nearest_57 : decode cX11_nearest 57 = .ok (.ifCond .eq 19, 3) := by decide +kernel
theorem dX11_nearest_60 : decode cX11_nearest 60 = .ok (.aload_n 0, 1) := by decide +kernel
theorem dX11_nearest_61 : decode cX11_nearest 61 = .ok (.getfield 21, 3) := by decide +kernel
theorem dX11_nearest_64 : decode cX11_nearest 64 = .ok (.aload 4, 2) := by decide +kernel
theorem dX11_nearest_66 : decode cX11_nearest 66 = .ok (.aload_n 0, 1) := by decide +kernel
theorem dX11_nearest_67 : decode cX11_nearest 67 = .ok (.getfield 77, 3) := by decide +kernel
theorem dX11_nearest_70 : decode cX11_nearest 70 = .ok (.invokevirtual 179, 3) := by decide +kernel
theorem dX11_nearest_73 : decode cX11_nearest 73 = .ok (.goto 5, 3) := by decide +kernel
theorem dX11_nearest_76 : decode cX11_nearest 76 = .ok (.bipush (-5), 2) := by decide +kernel
theorem dX11_nearest_78 : decode cX11_nearest 78 = .ok (.ireturn, 1) := by decide +kernel
theorem dX11_prove_0 : decode cX11_prove 0 = .ok (.aload_n 0, 1) := by decide +kernel
theorem dX11_prove_1 : decode cX11_prove 1 = .ok (.getfield 52, 3) := by decide +kernel
theorem dX11_prove_4 : decode cX11_prove 4 = .ok (.aload_n 0, 1) := by decide +kernel
theorem dX11_prove_5 : decode cX11_prove 5 = .ok (.getfield 12, 3) := by decide +kernel
theorem dX11_prove_8 : decode cX11_prove 8 = .ok (.invokevirtual 183, 3) := by decide +kernel
theorem dX11_prove_11 : decode cX11_prove 11 = .ok (.istore_n 1, 1) := by decide +kernel
theorem dX11_prove_12 : decode cX11_prove 12 = .ok (.iload_n 1, 1) := by decide +kernel
theorem dX11_prove_13 : decode cX11_prove 13 = .ok (.ifCond .eq 41, 3) := by decide +kernel
theorem dX11_prove_16 : decode cX11_prove 16 = .ok (.aload_n 0, 1) := by decide +kernel
theorem dX11_prove_17 : decode cX11_prove 17 = .ok (.getfield 52, 3) := by decide +kernel
theorem dX11_prove_20 : decode cX11_prove 20 = .ok (.aload_n 0, 1) := by decide +kernel
theorem dX11_prove_21 : decode cX11_prove 21 = .ok (.getfield 12, 3) := by decide +kernel
theorem dX11_prove_24 : decode cX11_prove 24 = .ok (.aload_n 0, 1) := by decide +kernel
theorem dX11_prove_25 : decode cX11_prove 25 = .ok (.getfield 21, 3) := by decide +kernel
theorem dX11_prove_28 : decode cX11_prove 28 = .ok (.invokevirtual 184, 3) := by decide +kernel
theorem dX11_prove_31 : decode cX11_prove 31 = .ok (.aload_n 0, 1) := by decide +kernel
theorem dX11_prove_32 : decode cX11_prove 32 = .ok (.getfield 48, 3) := by decide +kernel
theorem dX11_prove_35 : decode cX11_prove 35 = .ok (.astore_n 2, 1) := by decide +kernel
theorem dX11_prove_36 : decode cX11_prove 36 = .ok (.aload_n 0, 1) := by decide +kernel
theorem dX11_prove_37 : decode cX11_prove 37 = .ok (.aload_n 0, 1) := by decide +kernel
theorem dX11_prove_38 : decode cX11_prove 38 = .ok (.getfield 52, 3) := by decide +kernel
theorem dX11_prove_41 : decode cX11_prove 41 = .ok (.putfield 48, 3) := by decide +kernel
theorem dX11_prove_44 : decode cX11_prove 44 = .ok (.aload_n 0, 1) := by decide +kernel
theorem dX11_prove_45 : decode cX11_prove 45 = .ok (.aload_n 2, 1) := by decide +kernel
theorem dX11_prove_46 : decode cX11_prove 46 = .ok (.putfield 52, 3) := by decide +kernel
theorem dX11_prove_49 : decode cX11_prove 49 = .ok (.aload_n 0, 1) := by decide +kernel
theorem dX11_prove_50 : decode cX11_prove 50 = .ok (.iconst 1, 1) := by decide +kernel
theorem dX11_prove_51 : decode cX11_prove 51 = .ok (.putfield 188, 3) := by decide +kernel
theorem dX11_prove_54 : decode cX11_prove 54 = .ok (.iload_n 1, 1) := by decide +kernel
theorem dX11_prove_55 : decode cX11_prove 55 = .ok (.ifCond .eq 13, 3) := by decide +kernel
theorem dX11_prove_58 : decode cX11_prove 58 = .ok (.aload_n 0, 1) := by decide +kernel
theorem dX11_prove_59 : decode cX11_prove 59 = .ok (.getfield 48, 3) := by decide +kernel
theorem dX11_prove_62 : decode cX11_prove 62 = .ok (.getfield 192, 3) := by decide +kernel
theorem dX11_prove_65 : decode cX11_prove 65 = .ok (.goto 13, 3) := by decide +kernel
theorem dX11_prove_68 : decode cX11_prove 68 = .ok (.bipush (-100), 2) := by decide +kernel
theorem dX11_prove_70 : decode cX11_prove 70 = .ok (.aload_n 0, 1) := by decide +kernel
theorem dX11_prove_71 : decode cX11_prove 71 = .ok (.getfield 12, 3) := by decide +kernel
theorem dX11_prove_74 : decode cX11_prove 74 = .ok (.getfield 113, 3) := by decide +kernel
theorem dX11_prove_77 : decode cX11_prove 77 = .ok (.isub, 1) := by decide +kernel
theorem dX11_prove_78 : decode cX11_prove 78 = .ok (.istore_n 2, 1) := by decide +kernel
theorem dX11_prove_79 : decode cX11_prove 79 = .ok (.aload_n 0, 1) := by decide +kernel
theorem dX11_prove_80 : decode cX11_prove 80 = .ok (.getfield 12, 3) := by decide +kernel
theorem dX11_prove_83 : decode cX11_prove 83 = .ok (.invokevirtual 116, 3) := by decide +kernel
theorem dX11_prove_86 : decode cX11_prove 86 = .ok (.iload_n 2, 1) := by decide +kernel
theorem dX11_prove_87 : decode cX11_prove 87 = .ok (.ireturn, 1) := by decide +kernel
theorem dX11_proof_0 : decode cX11_proof 0 = .ok (.aload_n 0, 1) := by decide +kernel
theorem dX11_proof_1 : decode cX11_proof 1 = .ok (.getfield 188, 3) := by decide +kernel
theorem dX11_proof_4 : decode cX11_proof 4 = .ok (.ifCond .ne 6, 3) := by decide +kernel
theorem dX11_proof_7 : decode cX11_proof 7 = .ok (.bipush (-3), 2) := by decide +kernel
theorem dX11_proof_9 : decode cX11_proof 9 = .ok (.ireturn, 1) := by decide +kernel
theorem dX11_proof_10 : decode cX11_proof 10 = .ok (.iload_n 1, 1) := by decide +kernel
theorem dX11_proof_11 : decode cX11_proof 11 = .ok (.tableswitch 103 0 4 #[33, 55, 63, 79, 95], 33) := by decide +kernel
theorem dX11_proof_44 : decode cX11_proof 44 = .ok (.aload_n 0, 1) := by decide +kernel
theorem dX11_proof_45 : decode cX11_proof 45 = .ok (.getfield 48, 3) := by decide +kernel
theorem dX11_proof_48 : decode cX11_proof 48 = .ok (.invokevirtual 195, 3) := by decide +kernel
theorem dX11_proof_51 : decode cX11_proof 51 = .ok (.ifCond .eq 7, 3) := by decide +kernel
theorem dX11_proof_54 : decode cX11_proof 54 = .ok (.iconst 1, 1) := by decide +kernel
theorem dX11_proof_55 : decode cX11_proof 55 = .ok (.goto 10, 3) := by decide +kernel
theorem dX11_proof_58 : decode cX11_proof 58 = .ok (.aload_n 0, 1) := by decide +kernel
theorem dX11_proof_59 : decode cX11_proof 59 = .ok (.getfield 48, 3) := by decide +kernel
theorem dX11_proof_62 : decode cX11_proof 62 = .ok (.getfield 198, 3) := by decide +kernel
theorem dX11_proof_65 : decode cX11_proof 65 = .ok (.ireturn, 1) := by decide +kernel
theorem dX11_proof_66 : decode cX11_proof 66 = .ok (.aload_n 0, 1) := by decide +kernel
theorem dX11_proof_67 : decode cX11_proof 67 = .ok (.getfield 48, 3) := by decide +kernel
theorem dX11_proof_70 : decode cX11_proof 70 = .ok (.getfield 192, 3) := by decide +kernel
theorem dX11_proof_73 : decode cX11_proof 73 = .ok (.ireturn, 1) := by decide +kernel
theorem dX11_proof_74 : decode cX11_proof 74 = .ok (.aload_n 0, 1) := by decide +kernel
theorem dX11_proof_75 : decode cX11_proof 75 = .ok (.getfield 48, 3) := by decide +kernel
theorem dX11_proof_78 : decode cX11_proof 78 = .ok (.getfield 201, 3) := by decide +kernel
theorem dX11_proof_81 : decode cX11_proof 81 = .ok (.ifCond .eq 7, 3) := by decide +kernel
theorem dX11_proof_84 : decode cX11_proof 84 = .ok (.iconst 1, 1) := by decide +kernel
theorem dX11_proof_85 : decode cX11_proof 85 = .ok (.goto 4, 3) := by decide +kernel
theorem dX11_proof_88 : decode cX11_proof 88 = .ok (.iconst 0, 1) := by decide +kernel
theorem dX11_proof_89 : decode cX11_proof 89 = .ok (.ireturn, 1) := by decide +kernel
theorem dX11_proof_90 : decode cX11_proof 90 = .ok (.aload_n 0, 1) := by decide +kernel
theorem dX11_proof_91 : decode cX11_proof 91 = .ok (.getfield 48, 3) := by decide +kernel
theorem dX11_proof_94 : decode cX11_proof 94 = .ok (.invokevirtual 204, 3) := by decide +kernel
theorem dX11_proof_97 : decode cX11_proof 97 = .ok (.ifCond .eq 7, 3) := by decide +kernel
theorem dX11_proof_100 : decode cX11_proof 100 = .ok (.iconst 1, 1) := by decide +kernel
theorem dX11_proof_101 : decode cX11_proof 101 = .ok (.goto 4, 3) := by decide +kernel
theorem dX11_proof_104 : decode cX11_proof 104 = .ok (.iconst 0, 1) := by decide +kernel
theorem dX11_proof_105 : decode cX11_proof 105 = .ok (.ireturn, 1) := by decide +kernel
theorem dX11_proof_106 : decode cX11_proof 106 = .ok (.aload_n 0, 1) := by decide +kernel
theorem dX11_proof_107 : decode cX11_proof 107 = .ok (.getfield 48, 3) := by decide +kernel
theorem dX11_proof_110 : decode cX11_proof 110 = .ok (.invokevirtual 207, 3) := by decide +kernel
theorem dX11_proof_113 : decode cX11_proof 113 = .ok (.ireturn, 1) := by decide +kernel
theorem dX11_proof_114 : decode cX11_proof 114 = .ok (.iconst (-1), 1) := by decide +kernel
theorem dX11_proof_115 : decode cX11_proof 115 = .ok (.ireturn, 1) := by decide +kernel
theorem dX11_step_0 : decode cX11_step 0 = .ok (.aload_n 0, 1) := by decide +kernel
theorem dX11_step_1 : decode cX11_step 1 = .ok (.getfield 188, 3) := by decide +kernel
theorem dX11_step_4 : decode cX11_step 4 = .ok (.ifCond .ne 6, 3) := by decide +kernel
theorem dX11_step_7 : decode cX11_step 7 = .ok (.bipush (-3), 2) := by decide +kernel
theorem dX11_step_9 : decode cX11_step 9 = .ok (.ireturn, 1) := by decide +kernel
theorem dX11_step_10 : decode cX11_step 10 = .ok (.aload_n 0, 1) := by decide +kernel
theorem dX11_step_11 : decode cX11_step 11 = .ok (.getfield 48, 3) := by decide +kernel
theorem dX11_step_14 : decode cX11_step 14 = .ok (.iload_n 1, 1) := by decide +kernel
theorem dX11_step_15 : decode cX11_step 15 = .ok (.invokevirtual 211, 3) := by decide +kernel
theorem dX11_step_18 : decode cX11_step 18 = .ok (.astore_n 3, 1) := by decide +kernel
theorem dX11_step_19 : decode cX11_step 19 = .ok (.aload_n 3, 1) := by decide +kernel
theorem dX11_step_20 : decode cX11_step 20 = .ok (.ifnull 13, 3) := by decide +kernel
theorem dX11_step_23 : decode cX11_step 23 = .ok (.iload_n 2, 1) := by decide +kernel
theorem dX11_step_24 : decode cX11_step 24 = .ok (.ifCond .lt 9, 3) := by decide +kernel
theorem dX11_step_27 : decode cX11_step 27 = .ok (.iload_n 2, 1) := by decide +kernel
theorem dX11_step_28 : decode cX11_step 28 = .ok (.bipush 6, 2) := by decide +kernel
theorem dX11_step_30 : decode cX11_step 30 = .ok (.if_icmp .le 5, 3) := by decide +kernel
theorem dX11_step_33 : decode cX11_step 33 = .ok (.iconst (-1), 1) := by decide +kernel
theorem dX11_step_34 : decode cX11_step 34 = .ok (.ireturn, 1) := by decide +kernel
theorem dX11_step_35 : decode cX11_step 35 = .ok (.iload_n 2, 1) := by decide +kernel
theorem dX11_step_36 : decode cX11_step 36 = .ok (.ifCond .ne 8, 3) := by decide +kernel
theorem dX11_step_39 : decode cX11_step 39 = .ok (.aload_n 3, 1) := by decide +kernel
theorem dX11_step_40 : decode cX11_step 40 = .ok (.getfield 215, 3) := by decide +kernel
theorem dX11_step_43 : decode cX11_step 43 = .ok (.ireturn, 1) := by decide +kernel
theorem dX11_step_44 : decode cX11_step 44 = .ok (.iload_n 2, 1) := by decide +kernel
theorem dX11_step_45 : decode cX11_step 45 = .ok (.bipush 6, 2) := by decide +kernel
theorem dX11_step_47 : decode cX11_step 47 = .ok (.if_icmp .ne 19, 3) := by decide +kernel
theorem dX11_step_50 : decode cX11_step 50 = .ok (.aload_n 3, 1) := by decide +kernel
theorem dX11_step_51 : decode cX11_step 51 = .ok (.getfield 220, 3) := by decide +kernel
theorem dX11_step_54 : decode cX11_step 54 = .ok (.getfield 223, 3) := by decide +kernel
theorem dX11_step_57 : decode cX11_step 57 = .ok (.lconst 0, 1) := by decide +kernel
theorem dX11_step_58 : decode cX11_step 58 = .ok (.invokestatic 227, 3) := by decide +kernel
theorem dX11_step_61 : decode cX11_step 61 = .ok (.iconst 1, 1) := by decide +kernel
theorem dX11_step_62 : decode cX11_step 62 = .ok (.iadd, 1) := by decide +kernel
theorem dX11_step_63 : decode cX11_step 63 = .ok (.goto 14, 3) := by decide +kernel
theorem dX11_step_66 : decode cX11_step 66 = .ok (.aload_n 3, 1) := by decide +kernel
theorem dX11_step_67 : decode cX11_step 67 = .ok (.getfield 231, 3) := by decide +kernel
theorem dX11_step_70 : decode cX11_step 70 = .ok (.iload_n 2, 1) := by decide +kernel
theorem dX11_step_71 : decode cX11_step 71 = .ok (.iconst 1, 1) := by decide +kernel
theorem dX11_step_72 : decode cX11_step 72 = .ok (.isub, 1) := by decide +kernel
theorem dX11_step_73 : decode cX11_step 73 = .ok (.iaload, 1) := by decide +kernel
theorem dX11_step_74 : decode cX11_step 74 = .ok (.bipush 100, 2) := by decide +kernel
theorem dX11_step_76 : decode cX11_step 76 = .ok (.iadd, 1) := by decide +kernel
theorem dX11_step_77 : decode cX11_step 77 = .ok (.ireturn, 1) := by decide +kernel
theorem dX11_value_0 : decode cX11_value 0 = .ok (.aload_n 0, 1) := by decide +kernel
theorem dX11_value_1 : decode cX11_value 1 = .ok (.iload_n 1, 1) := by decide +kernel
theorem dX11_value_2 : decode cX11_value 2 = .ok (.invokevirtual 232, 3) := by decide +kernel
theorem dX11_value_5 : decode cX11_value 5 = .ok (.astore_n 3, 1) := by decide +kernel
theorem dX11_value_6 : decode cX11_value 6 = .ok (.aload_n 3, 1) := by decide +kernel
theorem dX11_value_7 : decode cX11_value 7 = .ok (.ifnonnull 9, 3) := by decide +kernel
theorem dX11_value_10 : decode cX11_value 10 = .ok (.ldc2_w 141, 3) := by decide +kernel
theorem dX11_value_13 : decode cX11_value 13 = .ok (.goto 11, 3) := by decide +kernel
theorem dX11_value_16 : decode cX11_value 16 = .ok (.aload_n 3, 1) := by decide +kernel
theorem dX11_value_17 : decode cX11_value 17 = .ok (.getfield 220, 3) := by decide +kernel
theorem dX11_value_20 : decode cX11_value 20 = .ok (.iload_n 2, 1) := by decide +kernel
theorem dX11_value_21 : decode cX11_value 21 = .ok (.invokevirtual 146, 3) := by decide +kernel
theorem dX11_value_24 : decode cX11_value 24 = .ok (.lreturn, 1) := by decide +kernel
theorem dX11_same_0 : decode cX11_same 0 = .ok (.aload_n 0, 1) := by decide +kernel
theorem dX11_same_1 : decode cX11_same 1 = .ok (.getfield 188, 3) := by decide +kernel
theorem dX11_same_4 : decode cX11_same 4 = .ok (.ifCond .ne 6, 3) := by decide +kernel
theorem dX11_same_7 : decode cX11_same 7 = .ok (.bipush (-3), 2) := by decide +kernel
theorem dX11_same_9 : decode cX11_same 9 = .ok (.ireturn, 1) := by decide +kernel
theorem dX11_same_10 : decode cX11_same 10 = .ok (.aload_n 0, 1) := by decide +kernel
theorem dX11_same_11 : decode cX11_same 11 = .ok (.getfield 48, 3) := by decide +kernel
theorem dX11_same_14 : decode cX11_same 14 = .ok (.iload_n 1, 1) := by decide +kernel
theorem dX11_same_15 : decode cX11_same 15 = .ok (.invokevirtual 211, 3) := by decide +kernel
theorem dX11_same_18 : decode cX11_same 18 = .ok (.astore_n 3, 1) := by decide +kernel
theorem dX11_same_19 : decode cX11_same 19 = .ok (.aload_n 0, 1) := by decide +kernel
theorem dX11_same_20 : decode cX11_same 20 = .ok (.getfield 48, 3) := by decide +kernel
theorem dX11_same_23 : decode cX11_same 23 = .ok (.iload_n 2, 1) := by decide +kernel
theorem dX11_same_24 : decode cX11_same 24 = .ok (.invokevirtual 211, 3) := by decide +kernel
theorem dX11_same_27 : decode cX11_same 27 = .ok (.astore 4, 2) := by decide +kernel
theorem dX11_same_29 : decode cX11_same 29 = .ok (.aload_n 3, 1) := by decide +kernel
theorem dX11_same_30 : decode cX11_same 30 = .ok (.ifnull 8, 3) := by decide +kernel
theorem dX11_same_33 : decode cX11_same 33 = .ok (.aload 4, 2) := by decide +kernel
theorem dX11_same_35 : decode cX11_same 35 = .ok (.ifnonnull 5, 3) := by decide +kernel
theorem dX11_same_38 : decode cX11_same 38 = .ok (.iconst (-1), 1) := by decide +kernel
theorem dX11_same_39 : decode cX11_same 39 = .ok (.ireturn, 1) := by decide +kernel
theorem dX11_same_40 : decode cX11_same 40 = .ok (.aload_n 3, 1) := by decide +kernel
theorem dX11_same_41 : decode cX11_same 41 = .ok (.getfield 231, 3) := by decide +kernel
theorem dX11_same_44 : decode cX11_same 44 = .ok (.aload 4, 2) := by decide +kernel
theorem dX11_same_46 : decode cX11_same 46 = .ok (.getfield 231, 3) := by decide +kernel
theorem dX11_same_49 : decode cX11_same 49 = .ok (.invokestatic 235, 3) := by decide +kernel
theorem dX11_same_52 : decode cX11_same 52 = .ok (.ifCond .ne 5, 3) := by decide +kernel
theorem dX11_same_55 : decode cX11_same 55 = .ok (.iconst 0, 1) := by decide +kernel
theorem dX11_same_56 : decode cX11_same 56 = .ok (.ireturn, 1) := by decide +kernel
theorem dX11_same_57 : decode cX11_same 57 = .ok (.aload_n 3, 1) := by decide +kernel
theorem dX11_same_58 : decode cX11_same 58 = .ok (.getfield 220, 3) := by decide +kernel
theorem dX11_same_61 : decode cX11_same 61 = .ok (.aload 4, 2) := by decide +kernel
theorem dX11_same_63 : decode cX11_same 63 = .ok (.getfield 220, 3) := by decide +kernel
theorem dX11_same_66 : decode cX11_same 66 = .ok (.invokevirtual 239, 3) := by decide +kernel
theorem dX11_same_69 : decode cX11_same 69 = .ok (.ifCond .ne 7, 3) := by decide +kernel
theorem dX11_same_72 : decode cX11_same 72 = .ok (.iconst 2, 1) := by decide +kernel
theorem dX11_same_73 : decode cX11_same 73 = .ok (.goto 4, 3) := by decide +kernel
theorem dX11_same_76 : decode cX11_same 76 = .ok (.iconst 1, 1) := by decide +kernel
theorem dX11_same_77 : decode cX11_same 77 = .ok (.ireturn, 1) := by decide +kernel
theorem dX11_in_0 : decode cX11_in 0 = .ok (.aload_n 0, 1) := by decide +kernel
theorem dX11_in_1 : decode cX11_in 1 = .ok (.iload_n 1, 1) := by decide +kernel
theorem dX11_in_2 : decode cX11_in 2 = .ok (.iload_n 2, 1) := by decide +kernel
theorem dX11_in_3 : decode cX11_in 3 = .ok (.invokevirtual 243, 3) := by decide +kernel
theorem dX11_in_6 : decode cX11_in 6 = .ok (.ifCond .eq 14, 3) := by decide +kernel
theorem dX11_in_9 : decode cX11_in 9 = .ok (.aload_n 0, 1) := by decide +kernel
theorem dX11_in_10 : decode cX11_in 10 = .ok (.getfield 77, 3) := by decide +kernel
theorem dX11_in_13 : decode cX11_in 13 = .ok (.iload_n 3, 1) := by decide +kernel
theorem dX11_in_14 : decode cX11_in 14 = .ok (.invokevirtual 146, 3) := by decide +kernel
theorem dX11_in_17 : decode cX11_in 17 = .ok (.goto 6, 3) := by decide +kernel
theorem dX11_in_20 : decode cX11_in 20 = .ok (.ldc2_w 141, 3) := by decide +kernel
theorem dX11_in_23 : decode cX11_in 23 = .ok (.lreturn, 1) := by decide +kernel
theorem dX11_bits_0 : decode cX11_bits 0 = .ok (.iload_n 3, 1) := by decide +kernel
theorem dX11_bits_1 : decode cX11_bits 1 = .ok (.ifCond .lt 17, 3) := by decide +kernel
theorem dX11_bits_4 : decode cX11_bits 4 = .ok (.iload_n 3, 1) := by decide +kernel
theorem dX11_bits_5 : decode cX11_bits 5 = .ok (.iconst 1, 1) := by decide +kernel
theorem dX11_bits_6 : decode cX11_bits 6 = .ok (.if_icmp .gt 12, 3) := by decide +kernel
theorem dX11_bits_9 : decode cX11_bits 9 = .ok (.aload_n 0, 1) := by decide +kernel
theorem dX11_bits_10 : decode cX11_bits 10 = .ok (.iload_n 1, 1) := by decide +kernel
theorem dX11_bits_11 : decode cX11_bits 11 = .ok (.iload_n 2, 1) := by decide +kernel
theorem dX11_bits_12 : decode cX11_bits 12 = .ok (.invokevirtual 243, 3) := by decide +kernel
theorem dX11_bits_15 : decode cX11_bits 15 = .ok (.ifCond .ne 7, 3) := by decide +kernel
theorem dX11_bits_18 : decode cX11_bits 18 = .ok (.ldc2_w 141, 3) := by decide +kernel
theorem dX11_bits_21 : decode cX11_bits 21 = .ok (.lreturn, 1) := by decide +kernel
theorem dX11_bits_22 : decode cX11_bits 22 = .ok (.aload_n 0, 1) := by decide +kernel
theorem dX11_bits_23 : decode cX11_bits 23 = .ok (.getfield 77, 3) := by decide +kernel
theorem dX11_bits_26 : decode cX11_bits 26 = .ok (.invokevirtual 247, 3) := by decide +kernel
theorem dX11_bits_29 : decode cX11_bits 29 = .ok (.dstore 4, 2) := by decide +kernel
theorem dX11_bits_31 : decode cX11_bits 31 = .ok (.iload_n 3, 1) := by decide +kernel
theorem dX11_bits_32 : decode cX11_bits 32 = .ok (.iconst 1, 1) := by decide +kernel
theorem dX11_bits_33 : decode cX11_bits 33 = .ok (.if_icmp .ne 15, 3) := by decide +kernel
theorem dX11_bits_36 : decode cX11_bits 36 = .ok (.aload_n 0, 1) := by decide +kernel
theorem dX11_bits_37 : decode cX11_bits 37 = .ok (.getfield 70, 3) := by decide +kernel
theorem dX11_bits_40 : decode cX11_bits 40 = .ok (.dload 4, 2) := by decide +kernel
theorem dX11_bits_42 : decode cX11_bits 42 = .ok (.invokevirtual 251, 3) := by decide +kernel
theorem dX11_bits_45 : decode cX11_bits 45 = .ok (.goto 13, 3) := by decide +kernel
theorem dX11_bits_48 : decode cX11_bits 48 = .ok (.aload_n 0, 1) := by decide +kernel
theorem dX11_bits_49 : decode cX11_bits 49 = .ok (.getfield 70, 3) := by decide +kernel
theorem dX11_bits_52 : decode cX11_bits 52 = .ok (.dload 4, 2) := by decide +kernel
theorem dX11_bits_54 : decode cX11_bits 54 = .ok (.d2f, 1) := by decide +kernel
theorem dX11_bits_55 : decode cX11_bits 55 = .ok (.invokevirtual 255, 3) := by decide +kernel
theorem dX11_bits_58 : decode cX11_bits 58 = .ok (.lreturn, 1) := by decide +kernel
theorem dX11_parted_0 : decode cX11_parted 0 = .ok (.iload_n 2, 1) := by decide +kernel
theorem dX11_parted_1 : decode cX11_parted 1 = .ok (.iconst (-1), 1) := by decide +kernel
theorem dX11_parted_2 : decode cX11_parted 2 = .ok (.if_icmp .ne 12, 3) := by decide +kernel
theorem dX11_parted_5 : decode cX11_parted 5 = .ok (.iload_n 3, 1) := by decide +kernel
theorem dX11_parted_6 : decode cX11_parted 6 = .ok (.iconst (-1), 1) := by decide +kernel
theorem dX11_parted_7 : decode cX11_parted 7 = .ok (.if_icmp .eq 7, 3) := by decide +kernel
theorem dX11_parted_10 : decode cX11_parted 10 = .ok (.ldc2_w 141, 3) := by decide +kernel
theorem dX11_parted_13 : decode cX11_parted 13 = .ok (.lreturn, 1) := by decide +kernel
theorem dX11_parted_14 : decode cX11_parted 14 = .ok (.iload_n 2, 1) := by decide +kernel
theorem dX11_parted_15 : decode cX11_parted 15 = .ok (.iconst (-1), 1) := by decide +kernel
theorem dX11_parted_16 : decode cX11_parted 16 = .ok (.if_icmp .ne 7, 3) := by decide +kernel
theorem dX11_parted_19 : decode cX11_parted 19 = .ok (.iconst 1, 1) := by decide +kernel
theorem dX11_parted_20 : decode cX11_parted 20 = .ok (.goto 13, 3) := by decide +kernel
theorem dX11_parted_23 : decode cX11_parted 23 = .ok (.iload_n 3, 1) := by decide +kernel
theorem dX11_parted_24 : decode cX11_parted 24 = .ok (.iconst (-1), 1) := by decide +kernel
theorem dX11_parted_25 : decode cX11_parted 25 = .ok (.if_icmp .ne 7, 3) := by decide +kernel
theorem dX11_parted_28 : decode cX11_parted 28 = .ok (.iconst 2, 1) := by decide +kernel
theorem dX11_parted_29 : decode cX11_parted 29 = .ok (.goto 4, 3) := by decide +kernel
theorem dX11_parted_32 : decode cX11_parted 32 = .ok (.iconst 3, 1) := by decide +kernel
theorem dX11_parted_33 : decode cX11_parted 33 = .ok (.istore 6, 2) := by decide +kernel
theorem dX11_parted_35 : decode cX11_parted 35 = .ok (.aload_n 0, 1) := by decide +kernel
theorem dX11_parted_36 : decode cX11_parted 36 = .ok (.getfield 86, 3) := by decide +kernel
theorem dX11_parted_39 : decode cX11_parted 39 = .ok (.iconst 0, 1) := by decide +kernel
theorem dX11_parted_40 : decode cX11_parted 40 = .ok (.aload_n 0, 1) := by decide +kernel
theorem dX11_parted_41 : decode cX11_parted 41 = .ok (.getfield 21, 3) := by decide +kernel
theorem dX11_parted_44 : decode cX11_parted 44 = .ok (.iload_n 1, 1) := by decide +kernel
theorem dX11_parted_45 : decode cX11_parted 45 = .ok (.invokevirtual 129, 3) := by decide +kernel
theorem dX11_parted_48 : decode cX11_parted 48 = .ok (.aastore, 1) := by decide +kernel
theorem dX11_parted_49 : decode cX11_parted 49 = .ok (.aload_n 0, 1) := by decide +kernel
theorem dX11_parted_50 : decode cX11_parted 50 = .ok (.getfield 86, 3) := by decide +kernel
theorem dX11_parted_53 : decode cX11_parted 53 = .ok (.iconst 1, 1) := by decide +kernel
theorem dX11_parted_54 : decode cX11_parted 54 = .ok (.aload_n 0, 1) := by decide +kernel
theorem dX11_parted_55 : decode cX11_parted 55 = .ok (.getfield 21, 3) := by decide +kernel
theorem dX11_parted_58 : decode cX11_parted 58 = .ok (.iload_n 2, 1) := by decide +kernel
theorem dX11_parted_59 : decode cX11_parted 59 = .ok (.invokevirtual 129, 3) := by decide +kernel
theorem dX11_parted_62 : decode cX11_parted 62 = .ok (.aastore, 1) := by decide +kernel
theorem dX11_parted_63 : decode cX11_parted 63 = .ok (.aload_n 0, 1) := by decide +kernel
theorem dX11_parted_64 : decode cX11_parted 64 = .ok (.getfield 86, 3) := by decide +kernel
theorem dX11_parted_67 : decode cX11_parted 67 = .ok (.iconst 2, 1) := by decide +kernel
theorem dX11_parted_68 : decode cX11_parted 68 = .ok (.aload_n 0, 1) := by decide +kernel
theorem dX11_parted_69 : decode cX11_parted 69 = .ok (.getfield 21, 3) := by decide +kernel
theorem dX11_parted_72 : decode cX11_parted 72 = .ok (.iload_n 3, 1) := by decide +kernel
theorem dX11_parted_73 : decode cX11_parted 73 = .ok (.invokevirtual 129, 3) := by decide +kernel
theorem dX11_parted_76 : decode cX11_parted 76 = .ok (.aastore, 1) := by decide +kernel
theorem dX11_parted_77 : decode cX11_parted 77 = .ok (.aload_n 0, 1) := by decide +kernel
theorem dX11_parted_78 : decode cX11_parted 78 = .ok (.iconst 0, 1) := by decide +kernel
theorem dX11_parted_79 : decode cX11_parted 79 = .ok (.invokevirtual 259, 3) := by decide +kernel
theorem dX11_parted_82 : decode cX11_parted 82 = .ok (.astore 7, 2) := by decide +kernel
theorem dX11_parted_84 : decode cX11_parted 84 = .ok (.iload 4, 2) := by decide +kernel
theorem dX11_parted_86 : decode cX11_parted 86 = .ok (.ifCond .lt 39, 3) := by decide +kernel
theorem dX11_parted_89 : decode cX11_parted 89 = .ok (.iload 4, 2) := by decide +kernel
theorem dX11_parted_91 : decode cX11_parted 91 = .ok (.iload 6, 2) := by decide +kernel
theorem dX11_parted_93 : decode cX11_parted 93 = .ok (.if_icmp .ge 32, 3) := by decide +kernel
theorem dX11_parted_96 : decode cX11_parted 96 = .ok (.aload 7, 2) := by decide +kernel
theorem dX11_parted_98 : decode cX11_parted 98 = .ok (.ifnull 27, 3) := by decide +kernel
theorem dX11_parted_101 : decode cX11_parted 101 = .ok (.aload 7, 2) := by decide +kernel
theorem dX11_parted_103 : decode cX11_parted 103 = .ok (.getfield 220, 3) := by decide +kernel
theorem dX11_parted_106 : decode cX11_parted 106 = .ok (.getfield 223, 3) := by decide +kernel
theorem dX11_parted_109 : decode cX11_parted 109 = .ok (.lconst 0, 1) := by decide +kernel
theorem dX11_parted_110 : decode cX11_parted 110 = .ok (.lcmp, 1) := by decide +kernel
theorem dX11_parted_111 : decode cX11_parted 111 = .ok (.ifCond .lt 14, 3) := by decide +kernel
theorem dX11_parted_114 : decode cX11_parted 114 = .ok (.aload_n 0, 1) := by decide +kernel
theorem dX11_parted_115 : decode cX11_parted 115 = .ok (.aload 7, 2) := by decide +kernel
theorem dX11_parted_117 : decode cX11_parted 117 = .ok (.iload 6, 2) := by decide +kernel
theorem dX11_parted_119 : decode cX11_parted 119 = .ok (.invokevirtual 262, 3) := by decide +kernel
theorem dX11_parted_122 : decode cX11_parted 122 = .ok (.ifCond .ne 7, 3) := by decide +kernel
theorem dX11_parted_125 : decode cX11_parted 125 = .ok (.ldc2_w 141, 3) := by decide +kernel
theorem dX11_parted_128 : decode cX11_parted 128 = .ok (.lreturn, 1) := by decide +kernel
theorem dX11_parted_129 : decode cX11_parted 129 = .ok (.aload_n 0, 1) := by decide +kernel
theorem dX11_parted_130 : decode cX11_parted 130 = .ok (.aload 7, 2) := by decide +kernel
theorem dX11_parted_132 : decode cX11_parted 132 = .ok (.iload 6, 2) := by decide +kernel
theorem dX11_parted_134 : decode cX11_parted 134 = .ok (.iload 4, 2) := by decide +kernel
theorem dX11_parted_136 : decode cX11_parted 136 = .ok (.invokevirtual 266, 3) := by decide +kernel
theorem dX11_parted_139 : decode cX11_parted 139 = .ok (.ifCond .eq 15, 3) := by decide +kernel
theorem dX11_parted_142 : decode cX11_parted 142 = .ok (.aload_n 0, 1) := by decide +kernel
theorem dX11_parted_143 : decode cX11_parted 143 = .ok (.getfield 77, 3) := by decide +kernel
theorem dX11_parted_146 : decode cX11_parted 146 = .ok (.iload 5, 2) := by decide +kernel
theorem dX11_parted_148 : decode cX11_parted 148 = .ok (.invokevirtual 146, 3) := by decide +kernel
theorem dX11_parted_151 : decode cX11_parted 151 = .ok (.goto 6, 3) := by decide +kernel
theorem dX11_parted_154 : decode cX11_parted 154 = .ok (.ldc2_w 141, 3) := by decide +kernel
theorem dX11_parted_157 : decode cX11_parted 157 = .ok (.lreturn, 1) := by decide +kernel
theorem dX11_claim_0 : decode cX11_claim 0 = .ok (.aload_n 0, 1) := by decide +kernel
theorem dX11_claim_1 : decode cX11_claim 1 = .ok (.getfield 21, 3) := by decide +kernel
theorem dX11_claim_4 : decode cX11_claim 4 = .ok (.iload_n 1, 1) := by decide +kernel
theorem dX11_claim_5 : decode cX11_claim 5 = .ok (.invokevirtual 129, 3) := by decide +kernel
theorem dX11_claim_8 : decode cX11_claim 8 = .ok (.ifnull 19, 3) := by decide +kernel
theorem dX11_claim_11 : decode cX11_claim 11 = .ok (.aload_n 0, 1) := by decide +kernel
theorem dX11_claim_12 : decode cX11_claim 12 = .ok (.getfield 21, 3) := by decide +kernel
theorem dX11_claim_15 : decode cX11_claim 15 = .ok (.iload_n 2, 1) := by decide +kernel
theorem dX11_claim_16 : decode cX11_claim 16 = .ok (.invokevirtual 129, 3) := by decide +kernel
theorem dX11_claim_19 : decode cX11_claim 19 = .ok (.ifnull 8, 3) := by decide +kernel
theorem dX11_claim_22 : decode cX11_claim 22 = .ok (.iload_n 1, 1) := by decide +kernel
theorem dX11_claim_23 : decode cX11_claim 23 = .ok (.iload_n 2, 1) := by decide +kernel
theorem dX11_claim_24 : decode cX11_claim 24 = .ok (.if_icmp .ne 5, 3) := by decide +kernel
theorem dX11_claim_27 : decode cX11_claim 27 = .ok (.iconst (-1), 1) := by decide +kernel
theorem dX11_claim_28 : decode cX11_claim 28 = .ok (.ireturn, 1) := by decide +kernel
theorem dX11_claim_29 : decode cX11_claim 29 = .ok (.iload_n 3, 1) := by decide +kernel
theorem dX11_claim_30 : decode cX11_claim 30 = .ok (.invokestatic 169, 3) := by decide +kernel
theorem dX11_claim_33 : decode cX11_claim 33 = .ok (.ifCond .eq 11, 3) := by decide +kernel
theorem dX11_claim_36 : decode cX11_claim 36 = .ok (.iload 4, 2) := by decide +kernel
theorem dX11_claim_38 : decode cX11_claim 38 = .ok (.invokestatic 169, 3) := by decide +kernel
theorem dX11_claim_41 : decode cX11_claim 41 = .ok (.ifCond .ne 6, 3) := by decide +kernel
theorem dX11_claim_44 : decode cX11_claim 44 = .ok (.bipush (-2), 2) := by decide +kernel
theorem dX11_claim_46 : decode cX11_claim 46 = .ok (.ireturn, 1) := by decide +kernel
theorem dX11_claim_47 : decode cX11_claim 47 = .ok (.aload_n 0, 1) := by decide +kernel
theorem dX11_claim_48 : decode cX11_claim 48 = .ok (.getfield 28, 3) := by decide +kernel
theorem dX11_claim_51 : decode cX11_claim 51 = .ok (.iload_n 1, 1) := by decide +kernel
theorem dX11_claim_52 : decode cX11_claim 52 = .ok (.iload_n 2, 1) := by decide +kernel
theorem dX11_claim_53 : decode cX11_claim 53 = .ok (.iload_n 3, 1) := by decide +kernel
theorem dX11_claim_54 : decode cX11_claim 54 = .ok (.iload 4, 2) := by decide +kernel
theorem dX11_claim_56 : decode cX11_claim 56 = .ok (.invokevirtual 270, 3) := by decide +kernel
theorem dX11_claim_59 : decode cX11_claim 59 = .ok (.ifCond .eq 13, 3) := by decide +kernel
theorem dX11_claim_62 : decode cX11_claim 62 = .ok (.aload_n 0, 1) := by decide +kernel
theorem dX11_claim_63 : decode cX11_claim 63 = .ok (.getfield 28, 3) := by decide +kernel
theorem dX11_claim_66 : decode cX11_claim 66 = .ok (.getfield 273, 3) := by decide +kernel
theorem dX11_claim_69 : decode cX11_claim 69 = .ok (.goto 5, 3) := by decide +kernel
theorem dX11_claim_72 : decode cX11_claim 72 = .ok (.bipush (-4), 2) := by decide +kernel
theorem dX11_claim_74 : decode cX11_claim 74 = .ok (.ireturn, 1) := by decide +kernel
theorem dX11_unclaim_0 : decode cX11_unclaim 0 = .ok (.iload_n 1, 1) := by decide +kernel
theorem dX11_unclaim_1 : decode cX11_unclaim 1 = .ok (.ifCond .lt 14, 3) := by decide +kernel
theorem dX11_unclaim_4 : decode cX11_unclaim 4 = .ok (.iload_n 1, 1) := by decide +kernel
theorem dX11_unclaim_5 : decode cX11_unclaim 5 = .ok (.aload_n 0, 1) := by decide +kernel
theorem dX11_unclaim_6 : decode cX11_unclaim 6 = .ok (.getfield 28, 3) := by decide +kernel
theorem dX11_unclaim_9 : decode cX11_unclaim 9 = .ok (.getfield 273, 3) := by decide +kernel
theorem dX11_unclaim_12 : decode cX11_unclaim 12 = .ok (.if_icmp .lt 5, 3) := by decide +kernel
theorem dX11_unclaim_15 : decode cX11_unclaim 15 = .ok (.iconst (-1), 1) := by decide +kernel
theorem dX11_unclaim_16 : decode cX11_unclaim 16 = .ok (.ireturn, 1) := by decide +kernel
theorem dX11_unclaim_17 : decode cX11_unclaim 17 = .ok (.aload_n 0, 1) := by decide +kernel
theorem dX11_unclaim_18 : decode cX11_unclaim 18 = .ok (.getfield 28, 3) := by decide +kernel
theorem dX11_unclaim_21 : decode cX11_unclaim 21 = .ok (.iload_n 1, 1) := by decide +kernel
theorem dX11_unclaim_22 : decode cX11_unclaim 22 = .ok (.invokevirtual 274, 3) := by decide +kernel
theorem dX11_unclaim_25 : decode cX11_unclaim 25 = .ok (.aload_n 0, 1) := by decide +kernel
theorem dX11_unclaim_26 : decode cX11_unclaim 26 = .ok (.getfield 28, 3) := by decide +kernel
theorem dX11_unclaim_29 : decode cX11_unclaim 29 = .ok (.getfield 273, 3) := by decide +kernel
theorem dX11_unclaim_32 : decode cX11_unclaim 32 = .ok (.ireturn, 1) := by decide +kernel
theorem dX11_claimOf_0 : decode cX11_claimOf 0 = .ok (.iload_n 1, 1) := by decide +kernel
theorem dX11_claimOf_1 : decode cX11_claimOf 1 = .ok (.ifCond .lt 14, 3) := by decide +kernel
theorem dX11_claimOf_4 : decode cX11_claimOf 4 = .ok (.iload_n 1, 1) := by decide +kernel
theorem dX11_claimOf_5 : decode cX11_claimOf 5 = .ok (.aload_n 0, 1) := by decide +kernel
theorem dX11_claimOf_6 : decode cX11_claimOf 6 = .ok (.getfield 28, 3) := by decide +kernel
theorem dX11_claimOf_9 : decode cX11_claimOf 9 = .ok (.getfield 273, 3) := by decide +kernel
theorem dX11_claimOf_12 : decode cX11_claimOf 12 = .ok (.if_icmp .lt 5, 3) := by decide +kernel
theorem dX11_claimOf_15 : decode cX11_claimOf 15 = .ok (.iconst (-1), 1) := by decide +kernel
theorem dX11_claimOf_16 : decode cX11_claimOf 16 = .ok (.ireturn, 1) := by decide +kernel
theorem dX11_claimOf_17 : decode cX11_claimOf 17 = .ok (.iload_n 2, 1) := by decide +kernel
theorem dX11_claimOf_18 : decode cX11_claimOf 18 = .ok (.tableswitch 94 0 5 #[38, 48, 58, 68, 78, 88], 38) := by decide +kernel
theorem dX11_claimOf_56 : decode cX11_claimOf 56 = .ok (.aload_n 0, 1) := by decide +kernel
theorem dX11_claimOf_57 : decode cX11_claimOf 57 = .ok (.getfield 28, 3) := by decide +kernel
theorem dX11_claimOf_60 : decode cX11_claimOf 60 = .ok (.getfield 277, 3) := by decide +kernel
theorem dX11_claimOf_63 : decode cX11_claimOf 63 = .ok (.iload_n 1, 1) := by decide +kernel
theorem dX11_claimOf_64 : decode cX11_claimOf 64 = .ok (.iaload, 1) := by decide +kernel
theorem dX11_claimOf_65 : decode cX11_claimOf 65 = .ok (.ireturn, 1) := by decide +kernel
theorem dX11_claimOf_66 : decode cX11_claimOf 66 = .ok (.aload_n 0, 1) := by decide +kernel
theorem dX11_claimOf_67 : decode cX11_claimOf 67 = .ok (.getfield 28, 3) := by decide +kernel
theorem dX11_claimOf_70 : decode cX11_claimOf 70 = .ok (.getfield 280, 3) := by decide +kernel
theorem dX11_claimOf_73 : decode cX11_claimOf 73 = .ok (.iload_n 1, 1) := by decide +kernel
theorem dX11_claimOf_74 : decode cX11_claimOf 74 = .ok (.iaload, 1) := by decide +kernel
theorem dX11_claimOf_75 : decode cX11_claimOf 75 = .ok (.ireturn, 1) := by decide +kernel
theorem dX11_claimOf_76 : decode cX11_claimOf 76 = .ok (.aload_n 0, 1) := by decide +kernel
theorem dX11_claimOf_77 : decode cX11_claimOf 77 = .ok (.getfield 28, 3) := by decide +kernel
theorem dX11_claimOf_80 : decode cX11_claimOf 80 = .ok (.getfield 283, 3) := by decide +kernel
theorem dX11_claimOf_83 : decode cX11_claimOf 83 = .ok (.iload_n 1, 1) := by decide +kernel
theorem dX11_claimOf_84 : decode cX11_claimOf 84 = .ok (.iaload, 1) := by decide +kernel
theorem dX11_claimOf_85 : decode cX11_claimOf 85 = .ok (.ireturn, 1) := by decide +kernel
theorem dX11_claimOf_86 : decode cX11_claimOf 86 = .ok (.aload_n 0, 1) := by decide +kernel
theorem dX11_claimOf_87 : decode cX11_claimOf 87 = .ok (.getfield 28, 3) := by decide +kernel
theorem dX11_claimOf_90 : decode cX11_claimOf 90 = .ok (.getfield 286, 3) := by decide +kernel
theorem dX11_claimOf_93 : decode cX11_claimOf 93 = .ok (.iload_n 1, 1) := by decide +kernel
theorem dX11_claimOf_94 : decode cX11_claimOf 94 = .ok (.iaload, 1) := by decide +kernel
theorem dX11_claimOf_95 : decode cX11_claimOf 95 = .ok (.ireturn, 1) := by decide +kernel
theorem dX11_claimOf_96 : decode cX11_claimOf 96 = .ok (.aload_n 0, 1) := by decide +kernel
theorem dX11_claimOf_97 : decode cX11_claimOf 97 = .ok (.getfield 28, 3) := by decide +kernel
theorem dX11_claimOf_100 : decode cX11_claimOf 100 = .ok (.getfield 289, 3) := by decide +kernel
theorem dX11_claimOf_103 : decode cX11_claimOf 103 = .ok (.iload_n 1, 1) := by decide +kernel
theorem dX11_claimOf_104 : decode cX11_claimOf 104 = .ok (.iaload, 1) := by decide +kernel
theorem dX11_claimOf_105 : decode cX11_claimOf 105 = .ok (.ireturn, 1) := by decide +kernel
theorem dX11_claimOf_106 : decode cX11_claimOf 106 = .ok (.aload_n 0, 1) := by decide +kernel
theorem dX11_claimOf_107 : decode cX11_claimOf 107 = .ok (.iload_n 1, 1) := by decide +kernel
theorem dX11_claimOf_108 : decode cX11_claimOf 108 = .ok (.invokevirtual 292, 3) := by decide +kernel
theorem dX11_claimOf_111 : decode cX11_claimOf 111 = .ok (.ireturn, 1) := by decide +kernel
theorem dX11_claimOf_112 : decode cX11_claimOf 112 = .ok (.iconst (-1), 1) := by decide +kernel
theorem dX11_claimOf_113 : decode cX11_claimOf 113 = .ok (.ireturn, 1) := by decide +kernel
theorem dX11_rings_0 : decode cX11_rings 0 = .ok (.iload_n 1, 1) := by decide +kernel
theorem dX11_rings_1 : decode cX11_rings 1 = .ok (.tableswitch 114 0 3 #[31, 54, 93, 98], 31) := by decide +kernel
theorem dX11_rings_32 : decode cX11_rings 32 = .ok (.aload_n 0, 1) := by decide +kernel
theorem dX11_rings_33 : decode cX11_rings 33 = .ok (.getfield 28, 3) := by decide +kernel
theorem dX11_rings_36 : decode cX11_rings 36 = .ok (.invokevirtual 296, 3) := by decide +kernel
theorem dX11_rings_39 : decode cX11_rings 39 = .ok (.ifCond .eq 8, 3) := by decide +kernel
theorem dX11_rings_42 : decode cX11_rings 42 = .ok (.bipush (-15), 2) := by decide +kernel
theorem dX11_rings_44 : decode cX11_rings 44 = .ok (.goto 10, 3) := by decide +kernel
theorem dX11_rings_47 : decode cX11_rings 47 = .ok (.aload_n 0, 1) := by decide +kernel
theorem dX11_rings_48 : decode cX11_rings 48 = .ok (.getfield 28, 3) := by decide +kernel
theorem dX11_rings_51 : decode cX11_rings 51 = .ok (.invokevirtual 299, 3) := by decide +kernel
theorem dX11_rings_54 : decode cX11_rings 54 = .ok (.ireturn, 1) := by decide +kernel
theorem dX11_rings_55 : decode cX11_rings 55 = .ok (.aload_n 0, 1) := by decide +kernel
theorem dX11_rings_56 : decode cX11_rings 56 = .ok (.getfield 28, 3) := by decide +kernel
theorem dX11_rings_59 : decode cX11_rings 59 = .ok (.invokevirtual 296, 3) := by decide +kernel
theorem dX11_rings_62 : decode cX11_rings 62 = .ok (.ifCond .eq 8, 3) := by decide +kernel
theorem dX11_rings_65 : decode cX11_rings 65 = .ok (.bipush (-15), 2) := by decide +kernel
theorem dX11_rings_67 : decode cX11_rings 67 = .ok (.goto 26, 3) := by decide +kernel
theorem dX11_rings_70 : decode cX11_rings 70 = .ok (.aload_n 0, 1) := by decide +kernel
theorem dX11_rings_71 : decode cX11_rings 71 = .ok (.getfield 28, 3) := by decide +kernel
theorem dX11_rings_74 : decode cX11_rings 74 = .ok (.getfield 273, 3) := by decide +kernel
theorem dX11_rings_77 : decode cX11_rings 77 = .ok (.aload_n 0, 1) := by decide +kernel
theorem dX11_rings_78 : decode cX11_rings 78 = .ok (.getfield 28, 3) := by decide +kernel
theorem dX11_rings_81 : decode cX11_rings 81 = .ok (.invokevirtual 302, 3) := by decide +kernel
theorem dX11_rings_84 : decode cX11_rings 84 = .ok (.isub, 1) := by decide +kernel
theorem dX11_rings_85 : decode cX11_rings 85 = .ok (.aload_n 0, 1) := by decide +kernel
theorem dX11_rings_86 : decode cX11_rings 86 = .ok (.getfield 28, 3) := by decide +kernel
theorem dX11_rings_89 : decode cX11_rings 89 = .ok (.invokevirtual 299, 3) := by decide +kernel
theorem dX11_rings_92 : decode cX11_rings 92 = .ok (.isub, 1) := by decide +kernel
theorem dX11_rings_93 : decode cX11_rings 93 = .ok (.ireturn, 1) := by decide +kernel
theorem dX11_rings_94 : decode cX11_rings 94 = .ok (.aload_n 0, 1) := by decide +kernel
theorem dX11_rings_95 : decode cX11_rings 95 = .ok (.invokevirtual 305, 3) := by decide +kernel
theorem dX11_rings_98 : decode cX11_rings 98 = .ok (.ireturn, 1) := by decide +kernel
theorem dX11_rings_99 : decode cX11_rings 99 = .ok (.aload_n 0, 1) := by decide +kernel
theorem dX11_rings_100 : decode cX11_rings 100 = .ok (.getfield 21, 3) := by decide +kernel
theorem dX11_rings_103 : decode cX11_rings 103 = .ok (.getfield 119, 3) := by decide +kernel
theorem dX11_rings_106 : decode cX11_rings 106 = .ok (.aload_n 0, 1) := by decide +kernel
theorem dX11_rings_107 : decode cX11_rings 107 = .ok (.getfield 28, 3) := by decide +kernel
theorem dX11_rings_110 : decode cX11_rings 110 = .ok (.invokevirtual 302, 3) := by decide +kernel
theorem dX11_rings_113 : decode cX11_rings 113 = .ok (.isub, 1) := by decide +kernel
theorem dX11_rings_114 : decode cX11_rings 114 = .ok (.ireturn, 1) := by decide +kernel
theorem dX11_rings_115 : decode cX11_rings 115 = .ok (.iconst (-1), 1) := by decide +kernel
theorem dX11_rings_116 : decode cX11_rings 116 = .ok (.ireturn, 1) := by decide +kernel
theorem dX11_by_0 : decode cX11_by 0 = .ok (.aload_n 0, 1) := by decide +kernel
theorem dX11_by_1 : decode cX11_by 1 = .ok (.getfield 21, 3) := by decide +kernel
theorem dX11_by_4 : decode cX11_by 4 = .ok (.iload_n 1, 1) := by decide +kernel
theorem dX11_by_5 : decode cX11_by 5 = .ok (.invokevirtual 129, 3) := by decide +kernel
theorem dX11_by_8 : decode cX11_by 8 = .ok (.ifnull 14, 3) := by decide +kernel
theorem dX11_by_11 : decode cX11_by 11 = .ok (.aload_n 0, 1) := by decide +kernel
theorem dX11_by_12 : decode cX11_by 12 = .ok (.getfield 21, 3) := by decide +kernel
theorem dX11_by_15 : decode cX11_by 15 = .ok (.iload_n 2, 1) := by decide +kernel
theorem dX11_by_16 : decode cX11_by 16 = .ok (.invokevirtual 129, 3) := by decide +kernel
theorem dX11_by_19 : decode cX11_by 19 = .ok (.ifnonnull 7, 3) := by decide +kernel
theorem dX11_by_22 : decode cX11_by 22 = .ok (.ldc2_w 141, 3) := by decide +kernel
theorem dX11_by_25 : decode cX11_by 25 = .ok (.lreturn, 1) := by decide +kernel
theorem dX11_by_26 : decode cX11_by 26 = .ok (.aload_n 0, 1) := by decide +kernel
theorem dX11_by_27 : decode cX11_by 27 = .ok (.getfield 28, 3) := by decide +kernel
theorem dX11_by_30 : decode cX11_by 30 = .ok (.iload_n 1, 1) := by decide +kernel
theorem dX11_by_31 : decode cX11_by 31 = .ok (.iload_n 2, 1) := by decide +kernel
theorem dX11_by_32 : decode cX11_by 32 = .ok (.invokevirtual 308, 3) := by decide +kernel
theorem dX11_by_35 : decode cX11_by 35 = .ok (.ifCond .ne 17, 3) := by decide +kernel
theorem dX11_by_38 : decode cX11_by 38 = .ok (.aload_n 0, 1) := by decide +kernel
theorem dX11_by_39 : decode cX11_by 39 = .ok (.getfield 28, 3) := by decide +kernel
theorem dX11_by_42 : decode cX11_by 42 = .ok (.getfield 312, 3) := by decide +kernel
theorem dX11_by_45 : decode cX11_by 45 = .ok (.iload_n 3, 1) := by decide +kernel
theorem dX11_by_46 : decode cX11_by 46 = .ok (.invokevirtual 146, 3) := by decide +kernel
theorem dX11_by_49 : decode cX11_by 49 = .ok (.goto 6, 3) := by decide +kernel
theorem dX11_by_52 : decode cX11_by 52 = .ok (.ldc2_w 141, 3) := by decide +kernel
theorem dX11_by_55 : decode cX11_by 55 = .ok (.lreturn, 1) := by decide +kernel
theorem dX11_track_0 : decode cX11_track 0 = .ok (.aload_n 0, 1) := by decide +kernel
theorem dX11_track_1 : decode cX11_track 1 = .ok (.iload_n 1, 1) := by decide +kernel
theorem dX11_track_2 : decode cX11_track 2 = .ok (.invokevirtual 315, 3) := by decide +kernel
theorem dX11_track_5 : decode cX11_track 5 = .ok (.astore 4, 2) := by decide +kernel
theorem dX11_track_7 : decode cX11_track 7 = .ok (.aload 4, 2) := by decide +kernel
theorem dX11_track_9 : decode cX11_track 9 = .ok (.ifnonnull 5, 3) := by decide +kernel
theorem dX11_track_12 : decode cX11_track 12 = .ok (.iconst (-1), 1) := by decide +kernel
theorem dX11_track_13 : decode cX11_track 13 = .ok (.ireturn, 1) := by decide +kernel
theorem dX11_track_14 : decode cX11_track 14 = .ok (.iload_n 2, 1) := by decide +kernel
theorem dX11_track_15 : decode cX11_track 15 = .ok (.iconst (-1), 1) := by decide +kernel
theorem dX11_track_16 : decode cX11_track 16 = .ok (.if_icmp .lt 22, 3) := by decide +kernel
theorem dX11_track_19 : decode cX11_track 19 = .ok (.iload_n 2, 1) := by decide +kernel
theorem dX11_track_20 : decode cX11_track 20 = .ok (.iconst 1, 1) := by decide +kernel
theorem dX11_track_21 : decode cX11_track 21 = .ok (.if_icmp .gt 17, 3) := by decide +kernel
theorem dX11_track_24 : decode cX11_track 24 = .ok (.iload_n 2, 1) := by decide +kernel
theorem dX11_track_25 : decode cX11_track 25 = .ok (.ifCond .lt 16, 3) := by decide +kernel
theorem dX11_track_28 : decode cX11_track 28 = .ok (.iload_n 3, 1) := by decide +kernel
theorem dX11_track_29 : decode cX11_track 29 = .ok (.ifCond .lt 9, 3) := by decide +kernel
theorem dX11_track_32 : decode cX11_track 32 = .ok (.iload_n 3, 1) := by decide +kernel
theorem dX11_track_33 : decode cX11_track 33 = .ok (.bipush 30, 2) := by decide +kernel
theorem dX11_track_35 : decode cX11_track 35 = .ok (.if_icmp .le 6, 3) := by decide +kernel
theorem dX11_track_38 : decode cX11_track 38 = .ok (.bipush (-2), 2) := by decide +kernel
theorem dX11_track_40 : decode cX11_track 40 = .ok (.ireturn, 1) := by decide +kernel
theorem dX11_track_41 : decode cX11_track 41 = .ok (.aload 4, 2) := by decide +kernel
theorem dX11_track_43 : decode cX11_track 43 = .ok (.iload_n 2, 1) := by decide +kernel
theorem dX11_track_44 : decode cX11_track 44 = .ok (.iload_n 2, 1) := by decide +kernel
theorem dX11_track_45 : decode cX11_track 45 = .ok (.ifCond .ge 7, 3) := by decide +kernel
theorem dX11_track_48 : decode cX11_track 48 = .ok (.iconst 0, 1) := by decide +kernel
theorem dX11_track_49 : decode cX11_track 49 = .ok (.goto 4, 3) := by decide +kernel
theorem dX11_track_52 : decode cX11_track 52 = .ok (.iload_n 3, 1) := by decide +kernel
theorem dX11_track_53 : decode cX11_track 53 = .ok (.invokevirtual 319, 3) := by decide +kernel
theorem dX11_track_56 : decode cX11_track 56 = .ok (.iconst 1, 1) := by decide +kernel
theorem dX11_track_57 : decode cX11_track 57 = .ok (.ireturn, 1) := by decide +kernel
theorem dX11_put_0 : decode cX11_put 0 = .ok (.aload_n 0, 1) := by decide +kernel
theorem dX11_put_1 : decode cX11_put 1 = .ok (.iload_n 1, 1) := by decide +kernel
theorem dX11_put_2 : decode cX11_put 2 = .ok (.iload_n 2, 1) := by decide +kernel
theorem dX11_put_3 : decode cX11_put 3 = .ok (.invokevirtual 323, 3) := by decide +kernel
theorem dX11_put_6 : decode cX11_put 6 = .ok (.istore 4, 2) := by decide +kernel
theorem dX11_put_8 : decode cX11_put 8 = .ok (.iload 4, 2) := by decide +kernel
theorem dX11_put_10 : decode cX11_put 10 = .ok (.ifCond .eq 6, 3) := by decide +kernel
theorem dX11_put_13 : decode cX11_put 13 = .ok (.iload 4, 2) := by decide +kernel
theorem dX11_put_15 : decode cX11_put 15 = .ok (.ireturn, 1) := by decide +kernel
theorem dX11_put_16 : decode cX11_put 16 = .ok (.aload_n 0, 1) := by decide +kernel
theorem dX11_put_17 : decode cX11_put 17 = .ok (.getfield 57, 3) := by decide +kernel
theorem dX11_put_20 : decode cX11_put 20 = .ok (.iload_n 1, 1) := by decide +kernel
theorem dX11_put_21 : decode cX11_put 21 = .ok (.aaload, 1) := by decide +kernel
theorem dX11_put_22 : decode cX11_put 22 = .ok (.astore 5, 2) := by decide +kernel
theorem dX11_put_24 : decode cX11_put 24 = .ok (.aload 5, 2) := by decide +kernel
theorem dX11_put_26 : decode cX11_put 26 = .ok (.iload_n 2, 1) := by decide +kernel
theorem dX11_put_27 : decode cX11_put 27 = .ok (.aload 5, 2) := by decide +kernel
theorem dX11_put_29 : decode cX11_put 29 = .ok (.getfield 326, 3) := by decide +kernel
theorem dX11_put_32 : decode cX11_put 32 = .ok (.ifCond .ne 13, 3) := by decide +kernel
theorem dX11_put_35 : decode cX11_put 35 = .ok (.iload_n 3, 1) := by decide +kernel
theorem dX11_put_36 : decode cX11_put 36 = .ok (.i2f, 1) := by decide +kernel
theorem dX11_put_37 : decode cX11_put 37 = .ok (.ldc_w 329, 3) := by decide +kernel
theorem dX11_put_40 : decode cX11_put 40 = .ok (.fdiv, 1) := by decide +kernel
theorem dX11_put_41 : decode cX11_put 41 = .ok (.f2d, 1) := by decide +kernel
theorem dX11_put_42 : decode cX11_put 42 = .ok (.goto 9, 3) := by decide +kernel
theorem dX11_put_45 : decode cX11_put 45 = .ok (.iload_n 3, 1) := by decide +kernel
theorem dX11_put_46 : decode cX11_put 46 = .ok (.i2d, 1) := by decide +kernel
theorem dX11_put_47 : decode cX11_put 47 = .ok (.ldc2_w 330, 3) := by decide +kernel
theorem dX11_put_50 : decode cX11_put 50 = .ok (.ddiv, 1) := by decide +kernel
theorem dX11_put_51 : decode cX11_put 51 = .ok (.invokevirtual 332, 3) := by decide +kernel
theorem dX11_put_54 : decode cX11_put 54 = .ok (.iconst 1, 1) := by decide +kernel
theorem dX11_put_55 : decode cX11_put 55 = .ok (.ireturn, 1) := by decide +kernel
theorem dX11_putBits_0 : decode cX11_putBits 0 = .ok (.aload_n 0, 1) := by decide +kernel
theorem dX11_putBits_1 : decode cX11_putBits 1 = .ok (.iload_n 1, 1) := by decide +kernel
theorem dX11_putBits_2 : decode cX11_putBits 2 = .ok (.iload_n 2, 1) := by decide +kernel
theorem dX11_putBits_3 : decode cX11_putBits 3 = .ok (.invokevirtual 323, 3) := by decide +kernel
theorem dX11_putBits_6 : decode cX11_putBits 6 = .ok (.istore 5, 2) := by decide +kernel
theorem dX11_putBits_8 : decode cX11_putBits 8 = .ok (.iload 5, 2) := by decide +kernel
theorem dX11_putBits_10 : decode cX11_putBits 10 = .ok (.ifCond .eq 6, 3) := by decide +kernel
theorem dX11_putBits_13 : decode cX11_putBits 13 = .ok (.iload 5, 2) := by decide +kernel
theorem dX11_putBits_15 : decode cX11_putBits 15 = .ok (.ireturn, 1) := by decide +kernel
theorem dX11_putBits_16 : decode cX11_putBits 16 = .ok (.aload_n 0, 1) := by decide +kernel
theorem dX11_putBits_17 : decode cX11_putBits 17 = .ok (.getfield 57, 3) := by decide +kernel
theorem dX11_putBits_20 : decode cX11_putBits 20 = .ok (.iload_n 1, 1) := by decide +kernel
theorem dX11_putBits_21 : decode cX11_putBits 21 = .ok (.aaload, 1) := by decide +kernel
theorem dX11_putBits_22 : decode cX11_putBits 22 = .ok (.iload_n 2, 1) := by decide +kernel
theorem dX11_putBits_23 : decode cX11_putBits 23 = .ok (.lload_n 3, 1) := by decide +kernel
theorem dX11_putBits_24 : decode cX11_putBits 24 = .ok (.aload_n 0, 1) := by decide +kernel
theorem dX11_putBits_25 : decode cX11_putBits 25 = .ok (.getfield 70, 3) := by decide +kernel
theorem dX11_putBits_28 : decode cX11_putBits 28 = .ok (.invokevirtual 336, 3) := by decide +kernel
theorem dX11_putBits_31 : decode cX11_putBits 31 = .ok (.iconst 1, 1) := by decide +kernel
theorem dX11_putBits_32 : decode cX11_putBits 32 = .ok (.ireturn, 1) := by decide +kernel
theorem dX11_item_0 : decode cX11_item 0 = .ok (.aload_n 0, 1) := by decide +kernel
theorem dX11_item_1 : decode cX11_item 1 = .ok (.iload_n 1, 1) := by decide +kernel
theorem dX11_item_2 : decode cX11_item 2 = .ok (.iload_n 2, 1) := by decide +kernel
theorem dX11_item_3 : decode cX11_item 3 = .ok (.invokevirtual 323, 3) := by decide +kernel
theorem dX11_item_6 : decode cX11_item 6 = .ok (.ifCond .eq 7, 3) := by decide +kernel
theorem dX11_item_9 : decode cX11_item 9 = .ok (.ldc2_w 141, 3) := by decide +kernel
theorem dX11_item_12 : decode cX11_item 12 = .ok (.lreturn, 1) := by decide +kernel
theorem dX11_item_13 : decode cX11_item 13 = .ok (.aload_n 0, 1) := by decide +kernel
theorem dX11_item_14 : decode cX11_item 14 = .ok (.getfield 57, 3) := by decide +kernel
theorem dX11_item_17 : decode cX11_item 17 = .ok (.iload_n 1, 1) := by decide +kernel
theorem dX11_item_18 : decode cX11_item 18 = .ok (.aaload, 1) := by decide +kernel
theorem dX11_item_19 : decode cX11_item 19 = .ok (.astore_n 3, 1) := by decide +kernel
theorem dX11_item_20 : decode cX11_item 20 = .ok (.aload_n 3, 1) := by decide +kernel
theorem dX11_item_21 : decode cX11_item 21 = .ok (.aload_n 3, 1) := by decide +kernel
theorem dX11_item_22 : decode cX11_item 22 = .ok (.getfield 340, 3) := by decide +kernel
theorem dX11_item_25 : decode cX11_item 25 = .ok (.iload_n 2, 1) := by decide +kernel
theorem dX11_item_26 : decode cX11_item 26 = .ok (.daload, 1) := by decide +kernel
theorem dX11_item_27 : decode cX11_item 27 = .ok (.aload_n 3, 1) := by decide +kernel
theorem dX11_item_28 : decode cX11_item 28 = .ok (.getfield 344, 3) := by decide +kernel
theorem dX11_item_31 : decode cX11_item 31 = .ok (.iload_n 2, 1) := by decide +kernel
theorem dX11_item_32 : decode cX11_item 32 = .ok (.baload, 1) := by decide +kernel
theorem dX11_item_33 : decode cX11_item 33 = .ok (.aload_n 0, 1) := by decide +kernel
theorem dX11_item_34 : decode cX11_item 34 = .ok (.getfield 70, 3) := by decide +kernel
theorem dX11_item_37 : decode cX11_item 37 = .ok (.invokevirtual 348, 3) := by decide +kernel
theorem dX11_item_40 : decode cX11_item 40 = .ok (.lreturn, 1) := by decide +kernel
theorem dX11_change_0 : decode cX11_change 0 = .ok (.aload_n 0, 1) := by decide +kernel
theorem dX11_change_1 : decode cX11_change 1 = .ok (.iload_n 1, 1) := by decide +kernel
theorem dX11_change_2 : decode cX11_change 2 = .ok (.invokevirtual 315, 3) := by decide +kernel
theorem dX11_change_5 : decode cX11_change 5 = .ok (.astore 4, 2) := by decide +kernel
theorem dX11_change_7 : decode cX11_change 7 = .ok (.aload_n 0, 1) := by decide +kernel
theorem dX11_change_8 : decode cX11_change 8 = .ok (.getfield 21, 3) := by decide +kernel
theorem dX11_change_11 : decode cX11_change 11 = .ok (.iload_n 2, 1) := by decide +kernel
theorem dX11_change_12 : decode cX11_change 12 = .ok (.invokevirtual 129, 3) := by decide +kernel
theorem dX11_change_15 : decode cX11_change 15 = .ok (.astore 5, 2) := by decide +kernel
theorem dX11_change_17 : decode cX11_change 17 = .ok (.aload_n 0, 1) := by decide +kernel
theorem dX11_change_18 : decode cX11_change 18 = .ok (.getfield 21, 3) := by decide +kernel
theorem dX11_change_21 : decode cX11_change 21 = .ok (.iload_n 3, 1) := by decide +kernel
theorem dX11_change_22 : decode cX11_change 22 = .ok (.invokevirtual 129, 3) := by decide +kernel
theorem dX11_change_25 : decode cX11_change 25 = .ok (.astore 6, 2) := by decide +kernel
theorem dX11_change_27 : decode cX11_change 27 = .ok (.aload 4, 2) := by decide +kernel
theorem dX11_change_29 : decode cX11_change 29 = .ok (.ifnull 13, 3) := by decide +kernel
theorem dX11_change_32 : decode cX11_change 32 = .ok (.aload 5, 2) := by decide +kernel
theorem dX11_change_34 : decode cX11_change 34 = .ok (.ifnull 8, 3) := by decide +kernel
theorem dX11_change_37 : decode cX11_change 37 = .ok (.aload 6, 2) := by decide +kernel
theorem dX11_change_39 : decode cX11_change 39 = .ok (.ifnonnull 5, 3) := by decide +kernel
theorem dX11_change_42 : decode cX11_change 42 = .ok (.iconst (-1), 1) := by decide +kernel
theorem dX11_change_43 : decode cX11_change 43 = .ok (.ireturn, 1) := by decide +kernel
theorem dX11_change_44 : decode cX11_change 44 = .ok (.aload 4, 2) := by decide +kernel
theorem dX11_change_46 : decode cX11_change 46 = .ok (.invokevirtual 352, 3) := by decide +kernel
theorem dX11_change_49 : decode cX11_change 49 = .ok (.ifCond .eq 6, 3) := by decide +kernel
theorem dX11_change_52 : decode cX11_change 52 = .ok (.bipush (-6), 2) := by decide +kernel
theorem dX11_change_54 : decode cX11_change 54 = .ok (.ireturn, 1) := by decide +kernel
theorem dX11_change_55 : decode cX11_change 55 = .ok (.aload 5, 2) := by decide +kernel
theorem dX11_change_57 : decode cX11_change 57 = .ok (.aload 6, 2) := by decide +kernel
theorem dX11_change_59 : decode cX11_change 59 = .ok (.invokevirtual 153, 3) := by decide +kernel
theorem dX11_change_62 : decode cX11_change 62 = .ok (.ifCond .ne 6, 3) := by decide +kernel
theorem dX11_change_65 : decode cX11_change 65 = .ok (.bipush (-13), 2) := by decide +kernel
theorem dX11_change_67 : decode cX11_change 67 = .ok (.ireturn, 1) := by decide +kernel
theorem dX11_change_68 : decode cX11_change 68 = .ok (.aload 4, 2) := by decide +kernel
theorem dX11_change_70 : decode cX11_change 70 = .ok (.aload 5, 2) := by decide +kernel
theorem dX11_change_72 : decode cX11_change 72 = .ok (.aload 6, 2) := by decide +kernel
theorem dX11_change_74 : decode cX11_change 74 = .ok (.invokevirtual 355, 3) := by decide +kernel
theorem dX11_change_77 : decode cX11_change 77 = .ok (.aload 4, 2) := by decide +kernel
theorem dX11_change_79 : decode cX11_change 79 = .ok (.getfield 359, 3) := by decide +kernel
theorem dX11_change_82 : decode cX11_change 82 = .ok (.ireturn, 1) := by decide +kernel
theorem dX11_added_0 : decode cX11_added 0 = .ok (.aload_n 0, 1) := by decide +kernel
theorem dX11_added_1 : decode cX11_added 1 = .ok (.iload_n 1, 1) := by decide +kernel
theorem dX11_added_2 : decode cX11_added 2 = .ok (.invokevirtual 315, 3) := by decide +kernel
theorem dX11_added_5 : decode cX11_added 5 = .ok (.astore_n 2, 1) := by decide +kernel
theorem dX11_added_6 : decode cX11_added 6 = .ok (.aload_n 2, 1) := by decide +kernel
theorem dX11_added_7 : decode cX11_added 7 = .ok (.ifnull 10, 3) := by decide +kernel
theorem dX11_added_10 : decode cX11_added 10 = .ok (.aload_n 2, 1) := by decide +kernel
theorem dX11_added_11 : decode cX11_added 11 = .ok (.invokevirtual 352, 3) := by decide +kernel
theorem dX11_added_14 : decode cX11_added 14 = .ok (.ifCond .eq 7, 3) := by decide +kernel
theorem dX11_added_17 : decode cX11_added 17 = .ok (.ldc2_w 141, 3) := by decide +kernel
theorem dX11_added_20 : decode cX11_added 20 = .ok (.lreturn, 1) := by decide +kernel
theorem dX11_added_21 : decode cX11_added 21 = .ok (.aload_n 2, 1) := by decide +kernel
theorem dX11_added_22 : decode cX11_added 22 = .ok (.aload_n 0, 1) := by decide +kernel
theorem dX11_added_23 : decode cX11_added 23 = .ok (.getfield 70, 3) := by decide +kernel
theorem dX11_added_26 : decode cX11_added 26 = .ok (.invokevirtual 360, 3) := by decide +kernel
theorem dX11_added_29 : decode cX11_added 29 = .ok (.lreturn, 1) := by decide +kernel
theorem dX11_cast_0 : decode cX11_cast 0 = .ok (.aload_n 0, 1) := by decide +kernel
theorem dX11_cast_1 : decode cX11_cast 1 = .ok (.iload_n 1, 1) := by decide +kernel
theorem dX11_cast_2 : decode cX11_cast 2 = .ok (.iload_n 2, 1) := by decide +kernel
theorem dX11_cast_3 : decode cX11_cast 3 = .ok (.invokevirtual 323, 3) := by decide +kernel
theorem dX11_cast_6 : decode cX11_cast 6 = .ok (.ifCond .eq 7, 3) := by decide +kernel
theorem dX11_cast_9 : decode cX11_cast 9 = .ok (.ldc2_w 141, 3) := by decide +kernel
theorem dX11_cast_12 : decode cX11_cast 12 = .ok (.lreturn, 1) := by decide +kernel
theorem dX11_cast_13 : decode cX11_cast 13 = .ok (.aload_n 0, 1) := by decide +kernel
theorem dX11_cast_14 : decode cX11_cast 14 = .ok (.getfield 57, 3) := by decide +kernel
theorem dX11_cast_17 : decode cX11_cast 17 = .ok (.iload_n 1, 1) := by decide +kernel
theorem dX11_cast_18 : decode cX11_cast 18 = .ok (.aaload, 1) := by decide +kernel
theorem dX11_cast_19 : decode cX11_cast 19 = .ok (.iload_n 2, 1) := by decide +kernel
theorem dX11_cast_20 : decode cX11_cast 20 = .ok (.invokevirtual 364, 3) := by decide +kernel
theorem dX11_cast_23 : decode cX11_cast 23 = .ok (.dstore 4, 2) := by decide +kernel
theorem dX11_cast_25 : decode cX11_cast 25 = .ok (.iload_n 3, 1) := by decide +kernel
theorem dX11_cast_26 : decode cX11_cast 26 = .ok (.tableswitch 51 0 3 #[30, 35, 41, 47], 30) := by decide +kernel
theorem dX11_cast_56 : decode cX11_cast 56 = .ok (.dload 4, 2) := by decide +kernel
theorem dX11_cast_58 : decode cX11_cast 58 = .ok (.d2i, 1) := by decide +kernel
theorem dX11_cast_59 : decode cX11_cast 59 = .ok (.i2l, 1) := by decide +kernel
theorem dX11_cast_60 : decode cX11_cast 60 = .ok (.lreturn, 1) := by decide +kernel
theorem dX11_cast_61 : decode cX11_cast 61 = .ok (.dload 4, 2) := by decide +kernel
theorem dX11_cast_63 : decode cX11_cast 63 = .ok (.d2i, 1) := by decide +kernel
theorem dX11_cast_64 : decode cX11_cast 64 = .ok (.i2b, 1) := by decide +kernel
theorem dX11_cast_65 : decode cX11_cast 65 = .ok (.i2l, 1) := by decide +kernel
theorem dX11_cast_66 : decode cX11_cast 66 = .ok (.lreturn, 1) := by decide +kernel
theorem dX11_cast_67 : decode cX11_cast 67 = .ok (.dload 4, 2) := by decide +kernel
theorem dX11_cast_69 : decode cX11_cast 69 = .ok (.d2i, 1) := by decide +kernel
theorem dX11_cast_70 : decode cX11_cast 70 = .ok (.i2s, 1) := by decide +kernel
theorem dX11_cast_71 : decode cX11_cast 71 = .ok (.i2l, 1) := by decide +kernel
theorem dX11_cast_72 : decode cX11_cast 72 = .ok (.lreturn, 1) := by decide +kernel
theorem dX11_cast_73 : decode cX11_cast 73 = .ok (.dload 4, 2) := by decide +kernel
theorem dX11_cast_75 : decode cX11_cast 75 = .ok (.d2l, 1) := by decide +kernel
theorem dX11_cast_76 : decode cX11_cast 76 = .ok (.lreturn, 1) := by decide +kernel
theorem dX11_cast_77 : decode cX11_cast 77 = .ok (.ldc2_w 141, 3) := by decide +kernel
theorem dX11_cast_80 : decode cX11_cast 80 = .ok (.lreturn, 1) := by decide +kernel
theorem dX11_twin_0 : decode cX11_twin 0 = .ok (.aload_n 0, 1) := by decide +kernel
theorem dX11_twin_1 : decode cX11_twin 1 = .ok (.iload_n 1, 1) := by decide +kernel
theorem dX11_twin_2 : decode cX11_twin 2 = .ok (.invokevirtual 315, 3) := by decide +kernel
theorem dX11_twin_5 : decode cX11_twin 5 = .ok (.astore_n 3, 1) := by decide +kernel
theorem dX11_twin_6 : decode cX11_twin 6 = .ok (.aload_n 0, 1) := by decide +kernel
theorem dX11_twin_7 : decode cX11_twin 7 = .ok (.iload_n 2, 1) := by decide +kernel
theorem dX11_twin_8 : decode cX11_twin 8 = .ok (.invokevirtual 315, 3) := by decide +kernel
theorem dX11_twin_11 : decode cX11_twin 11 = .ok (.astore 4, 2) := by decide +kernel
theorem dX11_twin_13 : decode cX11_twin 13 = .ok (.aload_n 3, 1) := by decide +kernel
theorem dX11_twin_14 : decode cX11_twin 14 = .ok (.ifnull 8, 3) := by decide +kernel
theorem dX11_twin_17 : decode cX11_twin 17 = .ok (.aload 4, 2) := by decide +kernel
theorem dX11_twin_19 : decode cX11_twin 19 = .ok (.ifnonnull 5, 3) := by decide +kernel
theorem dX11_twin_22 : decode cX11_twin 22 = .ok (.iconst (-1), 1) := by decide +kernel
theorem dX11_twin_23 : decode cX11_twin 23 = .ok (.ireturn, 1) := by decide +kernel
theorem dX11_twin_24 : decode cX11_twin 24 = .ok (.aload 4, 2) := by decide +kernel
theorem dX11_twin_26 : decode cX11_twin 26 = .ok (.invokevirtual 352, 3) := by decide +kernel
theorem dX11_twin_29 : decode cX11_twin 29 = .ok (.ifCond .eq 6, 3) := by decide +kernel
theorem dX11_twin_32 : decode cX11_twin 32 = .ok (.bipush (-6), 2) := by decide +kernel
theorem dX11_twin_34 : decode cX11_twin 34 = .ok (.ireturn, 1) := by decide +kernel
theorem dX11_twin_35 : decode cX11_twin 35 = .ok (.aload_n 3, 1) := by decide +kernel
theorem dX11_twin_36 : decode cX11_twin 36 = .ok (.aload 4, 2) := by decide +kernel
theorem dX11_twin_38 : decode cX11_twin 38 = .ok (.invokevirtual 368, 3) := by decide +kernel
theorem dX11_twin_41 : decode cX11_twin 41 = .ok (.aload_n 3, 1) := by decide +kernel
theorem dX11_twin_42 : decode cX11_twin 42 = .ok (.getfield 359, 3) := by decide +kernel
theorem dX11_twin_45 : decode cX11_twin 45 = .ok (.ireturn, 1) := by decide +kernel
theorem dX11_hang_0 : decode cX11_hang 0 = .ok (.aload_n 0, 1) := by decide +kernel
theorem dX11_hang_1 : decode cX11_hang 1 = .ok (.iload_n 1, 1) := by decide +kernel
theorem dX11_hang_2 : decode cX11_hang 2 = .ok (.invokevirtual 371, 3) := by decide +kernel
theorem dX11_hang_5 : decode cX11_hang 5 = .ok (.astore 4, 2) := by decide +kernel
theorem dX11_hang_7 : decode cX11_hang 7 = .ok (.aload 4, 2) := by decide +kernel
theorem dX11_hang_9 : decode cX11_hang 9 = .ok (.ifnull 14, 3) := by decide +kernel
theorem dX11_hang_12 : decode cX11_hang 12 = .ok (.aload_n 0, 1) := by decide +kernel
theorem dX11_hang_13 : decode cX11_hang 13 = .ok (.getfield 21, 3) := by decide +kernel
theorem dX11_hang_16 : decode cX11_hang 16 = .ok (.iload_n 3, 1) := by decide +kernel
theorem dX11_hang_17 : decode cX11_hang 17 = .ok (.invokevirtual 129, 3) := by decide +kernel
theorem dX11_hang_20 : decode cX11_hang 20 = .ok (.ifnonnull 5, 3) := by decide +kernel
theorem dX11_hang_23 : decode cX11_hang 23 = .ok (.iconst (-1), 1) := by decide +kernel
theorem dX11_hang_24 : decode cX11_hang 24 = .ok (.ireturn, 1) := by decide +kernel
theorem dX11_hang_25 : decode cX11_hang 25 = .ok (.iload_n 2, 1) := by decide +kernel
theorem dX11_hang_26 : decode cX11_hang 26 = .ok (.invokestatic 375, 3) := by decide +kernel
theorem dX11_hang_29 : decode cX11_hang 29 = .ok (.ifCond .ne 6, 3) := by decide +kernel
theorem dX11_hang_32 : decode cX11_hang 32 = .ok (.bipush (-7), 2) := by decide +kernel
theorem dX11_hang_34 : decode cX11_hang 34 = .ok (.ireturn, 1) := by decide +kernel
theorem dX11_hang_35 : decode cX11_hang 35 = .ok (.aload 4, 2) := by decide +kernel
theorem dX11_hang_37 : decode cX11_hang 37 = .ok (.iload_n 2, 1) := by decide +kernel
theorem dX11_hang_38 : decode cX11_hang 38 = .ok (.iconst 0, 1) := by decide +kernel
theorem dX11_hang_39 : decode cX11_hang 39 = .ok (.iload_n 3, 1) := by decide +kernel
theorem dX11_hang_40 : decode cX11_hang 40 = .ok (.i2l, 1) := by decide +kernel
theorem dX11_hang_41 : decode cX11_hang 41 = .ok (.invokevirtual 378, 3) := by decide +kernel
theorem dX11_hang_44 : decode cX11_hang 44 = .ok (.ifCond .eq 7, 3) := by decide +kernel
theorem dX11_hang_47 : decode cX11_hang 47 = .ok (.iconst 1, 1) := by decide +kernel
theorem dX11_hang_48 : decode cX11_hang 48 = .ok (.goto 5, 3) := by decide +kernel
theorem dX11_hang_51 : decode cX11_hang 51 = .ok (.bipush (-16), 2) := by decide +kernel
theorem dX11_hang_53 : decode cX11_hang 53 = .ok (.ireturn, 1) := by decide +kernel
theorem dX11_hold_0 : decode cX11_hold 0 = .ok (.aload_n 0, 1) := by decide +kernel
theorem dX11_hold_1 : decode cX11_hold 1 = .ok (.iload_n 1, 1) := by decide +kernel
theorem dX11_hold_2 : decode cX11_hold 2 = .ok (.invokevirtual 371, 3) := by decide +kernel
theorem dX11_hold_5 : decode cX11_hold 5 = .ok (.astore 4, 2) := by decide +kernel
theorem dX11_hold_7 : decode cX11_hold 7 = .ok (.aload 4, 2) := by decide +kernel
theorem dX11_hold_9 : decode cX11_hold 9 = .ok (.ifnonnull 5, 3) := by decide +kernel
theorem dX11_hold_12 : decode cX11_hold 12 = .ok (.iconst (-1), 1) := by decide +kernel
theorem dX11_hold_13 : decode cX11_hold 13 = .ok (.ireturn, 1) := by decide +kernel
theorem dX11_hold_14 : decode cX11_hold 14 = .ok (.iload_n 2, 1) := by decide +kernel
theorem dX11_hold_15 : decode cX11_hold 15 = .ok (.invokestatic 375, 3) := by decide +kernel
theorem dX11_hold_18 : decode cX11_hold 18 = .ok (.ifCond .ne 6, 3) := by decide +kernel
theorem dX11_hold_21 : decode cX11_hold 21 = .ok (.bipush (-7), 2) := by decide +kernel
theorem dX11_hold_23 : decode cX11_hold 23 = .ok (.ireturn, 1) := by decide +kernel
theorem dX11_hold_24 : decode cX11_hold 24 = .ok (.aload_n 0, 1) := by decide +kernel
theorem dX11_hold_25 : decode cX11_hold 25 = .ok (.getfield 188, 3) := by decide +kernel
theorem dX11_hold_28 : decode cX11_hold 28 = .ok (.ifCond .ne 6, 3) := by decide +kernel
theorem dX11_hold_31 : decode cX11_hold 31 = .ok (.bipush (-3), 2) := by decide +kernel
theorem dX11_hold_33 : decode cX11_hold 33 = .ok (.ireturn, 1) := by decide +kernel
theorem dX11_hold_34 : decode cX11_hold 34 = .ok (.aload_n 0, 1) := by decide +kernel
theorem dX11_hold_35 : decode cX11_hold 35 = .ok (.getfield 48, 3) := by decide +kernel
theorem dX11_hold_38 : decode cX11_hold 38 = .ok (.iload_n 3, 1) := by decide +kernel
theorem dX11_hold_39 : decode cX11_hold 39 = .ok (.invokevirtual 211, 3) := by decide +kernel
theorem dX11_hold_42 : decode cX11_hold 42 = .ok (.astore 5, 2) := by decide +kernel
theorem dX11_hold_44 : decode cX11_hold 44 = .ok (.aload 5, 2) := by decide +kernel
theorem dX11_hold_46 : decode cX11_hold 46 = .ok (.ifnonnull 5, 3) := by decide +kernel
theorem dX11_hold_49 : decode cX11_hold 49 = .ok (.iconst (-1), 1) := by decide +kernel
theorem dX11_hold_50 : decode cX11_hold 50 = .ok (.ireturn, 1) := by decide +kernel
theorem dX11_hold_51 : decode cX11_hold 51 = .ok (.aload 4, 2) := by decide +kernel
theorem dX11_hold_53 : decode cX11_hold 53 = .ok (.iload_n 2, 1) := by decide +kernel
theorem dX11_hold_54 : decode cX11_hold 54 = .ok (.iconst 1, 1) := by decide +kernel
theorem dX11_hold_55 : decode cX11_hold 55 = .ok (.aload 5, 2) := by decide +kernel
theorem dX11_hold_57 : decode cX11_hold 57 = .ok (.getfield 220, 3) := by decide +kernel
theorem dX11_hold_60 : decode cX11_hold 60 = .ok (.getfield 223, 3) := by decide +kernel
theorem dX11_hold_63 : decode cX11_hold 63 = .ok (.invokevirtual 378, 3) := by decide +kernel
theorem dX11_hold_66 : decode cX11_hold 66 = .ok (.ifCond .eq 7, 3) := by decide +kernel
theorem dX11_hold_69 : decode cX11_hold 69 = .ok (.iconst 1, 1) := by decide +kernel
theorem dX11_hold_70 : decode cX11_hold 70 = .ok (.goto 5, 3) := by decide +kernel
theorem dX11_hold_73 : decode cX11_hold 73 = .ok (.bipush (-16), 2) := by decide +kernel
theorem dX11_hold_75 : decode cX11_hold 75 = .ok (.ireturn, 1) := by decide +kernel
theorem dX11_rack_0 : decode cX11_rack 0 = .ok (.aload_n 0, 1) := by decide +kernel
theorem dX11_rack_1 : decode cX11_rack 1 = .ok (.iload_n 1, 1) := by decide +kernel
theorem dX11_rack_2 : decode cX11_rack 2 = .ok (.invokevirtual 371, 3) := by decide +kernel
theorem dX11_rack_5 : decode cX11_rack 5 = .ok (.astore 4, 2) := by decide +kernel
theorem dX11_rack_7 : decode cX11_rack 7 = .ok (.aload 4, 2) := by decide +kernel
theorem dX11_rack_9 : decode cX11_rack 9 = .ok (.ifnull 12, 3) := by decide +kernel
theorem dX11_rack_12 : decode cX11_rack 12 = .ok (.iload_n 3, 1) := by decide +kernel
theorem dX11_rack_13 : decode cX11_rack 13 = .ok (.ifCond .lt 8, 3) := by decide +kernel
theorem dX11_rack_16 : decode cX11_rack 16 = .ok (.iload_n 3, 1) := by decide +kernel
theorem dX11_rack_17 : decode cX11_rack 17 = .ok (.iconst 1, 1) := by decide +kernel
theorem dX11_rack_18 : decode cX11_rack 18 = .ok (.if_icmp .le 5, 3) := by decide +kernel
theorem dX11_rack_21 : decode cX11_rack 21 = .ok (.iconst (-1), 1) := by decide +kernel
theorem dX11_rack_22 : decode cX11_rack 22 = .ok (.ireturn, 1) := by decide +kernel
theorem dX11_rack_23 : decode cX11_rack 23 = .ok (.iload_n 2, 1) := by decide +kernel
theorem dX11_rack_24 : decode cX11_rack 24 = .ok (.invokestatic 375, 3) := by decide +kernel
theorem dX11_rack_27 : decode cX11_rack 27 = .ok (.ifCond .ne 6, 3) := by decide +kernel
theorem dX11_rack_30 : decode cX11_rack 30 = .ok (.bipush (-7), 2) := by decide +kernel
theorem dX11_rack_32 : decode cX11_rack 32 = .ok (.ireturn, 1) := by decide +kernel
theorem dX11_rack_33 : decode cX11_rack 33 = .ok (.aload 4, 2) := by decide +kernel
theorem dX11_rack_35 : decode cX11_rack 35 = .ok (.getfield 381, 3) := by decide +kernel
theorem dX11_rack_38 : decode cX11_rack 38 = .ok (.iload_n 2, 1) := by decide +kernel
theorem dX11_rack_39 : decode cX11_rack 39 = .ok (.iaload, 1) := by decide +kernel
theorem dX11_rack_40 : decode cX11_rack 40 = .ok (.iconst (-1), 1) := by decide +kernel
theorem dX11_rack_41 : decode cX11_rack 41 = .ok (.if_icmp .ne 6, 3) := by decide +kernel
theorem dX11_rack_44 : decode cX11_rack 44 = .ok (.bipush (-6), 2) := by decide +kernel
theorem dX11_rack_46 : decode cX11_rack 46 = .ok (.ireturn, 1) := by decide +kernel
theorem dX11_rack_47 : decode cX11_rack 47 = .ok (.iload_n 3, 1) := by decide +kernel
theorem dX11_rack_48 : decode cX11_rack 48 = .ok (.ifCond .ne 13, 3) := by decide +kernel
theorem dX11_rack_51 : decode cX11_rack 51 = .ok (.aload 4, 2) := by decide +kernel
theorem dX11_rack_53 : decode cX11_rack 53 = .ok (.getfield 381, 3) := by decide +kernel
theorem dX11_rack_56 : decode cX11_rack 56 = .ok (.iload_n 2, 1) := by decide +kernel
theorem dX11_rack_57 : decode cX11_rack 57 = .ok (.iaload, 1) := by decide +kernel
theorem dX11_rack_58 : decode cX11_rack 58 = .ok (.goto 11, 3) := by decide +kernel
theorem dX11_rack_61 : decode cX11_rack 61 = .ok (.aload 4, 2) := by decide +kernel
theorem dX11_rack_63 : decode cX11_rack 63 = .ok (.getfield 384, 3) := by decide +kernel
theorem dX11_rack_66 : decode cX11_rack 66 = .ok (.iload_n 2, 1) := by decide +kernel
theorem dX11_rack_67 : decode cX11_rack 67 = .ok (.laload, 1) := by decide +kernel
theorem dX11_rack_68 : decode cX11_rack 68 = .ok (.l2i, 1) := by decide +kernel
theorem dX11_rack_69 : decode cX11_rack 69 = .ok (.ireturn, 1) := by decide +kernel
theorem dX11_shift_0 : decode cX11_shift 0 = .ok (.aload_n 0, 1) := by decide +kernel
theorem dX11_shift_1 : decode cX11_shift 1 = .ok (.iload_n 1, 1) := by decide +kernel
theorem dX11_shift_2 : decode cX11_shift 2 = .ok (.invokevirtual 371, 3) := by decide +kernel
theorem dX11_shift_5 : decode cX11_shift 5 = .ok (.astore_n 3, 1) := by decide +kernel
theorem dX11_shift_6 : decode cX11_shift 6 = .ok (.aload_n 0, 1) := by decide +kernel
theorem dX11_shift_7 : decode cX11_shift 7 = .ok (.iload_n 2, 1) := by decide +kernel
theorem dX11_shift_8 : decode cX11_shift 8 = .ok (.invokevirtual 371, 3) := by decide +kernel
theorem dX11_shift_11 : decode cX11_shift 11 = .ok (.astore 4, 2) := by decide +kernel
theorem dX11_shift_13 : decode cX11_shift 13 = .ok (.aload_n 3, 1) := by decide +kernel
theorem dX11_shift_14 : decode cX11_shift 14 = .ok (.ifnull 8, 3) := by decide +kernel
theorem dX11_shift_17 : decode cX11_shift 17 = .ok (.aload 4, 2) := by decide +kernel
theorem dX11_shift_19 : decode cX11_shift 19 = .ok (.ifnonnull 5, 3) := by decide +kernel
theorem dX11_shift_22 : decode cX11_shift 22 = .ok (.iconst (-1), 1) := by decide +kernel
theorem dX11_shift_23 : decode cX11_shift 23 = .ok (.ireturn, 1) := by decide +kernel
theorem dX11_shift_24 : decode cX11_shift 24 = .ok (.iconst 0, 1) := by decide +kernel
theorem dX11_shift_25 : decode cX11_shift 25 = .ok (.istore 5, 2) := by decide +kernel
theorem dX11_shift_27 : decode cX11_shift 27 = .ok (.iload 5, 2) := by decide +kernel
theorem dX11_shift_29 : decode cX11_shift 29 = .ok (.bipush 6, 2) := by decide +kernel
theorem dX11_shift_31 : decode cX11_shift 31 = .ok (.if_icmp .ge 36, 3) := by decide +kernel
theorem dX11_shift_34 : decode cX11_shift 34 = .ok (.aload 4, 2) := by decide +kernel
theorem dX11_shift_36 : decode cX11_shift 36 = .ok (.iload 5, 2) := by decide +kernel
theorem dX11_shift_38 : decode cX11_shift 38 = .ok (.aload_n 3, 1) := by decide +kernel
theorem dX11_shift_39 : decode cX11_shift 39 = .ok (.getfield 381, 3) := by decide +kernel
theorem dX11_shift_42 : decode cX11_shift 42 = .ok (.iload 5, 2) := by decide +kernel
theorem dX11_shift_44 : decode cX11_shift 44 = .ok (.iaload, 1) := by decide +kernel
theorem dX11_shift_45 : decode cX11_shift 45 = .ok (.aload_n 3, 1) := by decide +kernel
theorem dX11_shift_46 : decode cX11_shift 46 = .ok (.getfield 384, 3) := by decide +kernel
theorem dX11_shift_49 : decode cX11_shift 49 = .ok (.iload 5, 2) := by decide +kernel
theorem dX11_shift_51 : decode cX11_shift 51 = .ok (.laload, 1) := by decide +kernel
theorem dX11_shift_52 : decode cX11_shift 52 = .ok (.invokevirtual 378, 3) := by decide +kernel
theorem dX11_shift_55 : decode cX11_shift 55 = .ok (.ifCond .ne 6, 3) := by decide +kernel
theorem dX11_shift_58 : decode cX11_shift 58 = .ok (.iload 5, 2) := by decide +kernel
theorem dX11_shift_60 : decode cX11_shift 60 = .ok (.ireturn, 1) := by decide +kernel
theorem dX11_shift_61 : decode cX11_shift 61 = .ok (.iinc 5 1, 3) := by decide +kernel
theorem dX11_shift_64 : decode cX11_shift 64 = .ok (.goto (-37), 3) := by decide +kernel
theorem dX11_shift_67 : decode cX11_shift 67 = .ok (.bipush 6, 2) := by decide +kernel
theorem dX11_shift_69 : decode cX11_shift 69 = .ok (.ireturn, 1) := by decide +kernel
theorem dX11_image_0 : decode cX11_image 0 = .ok (.aload_n 0, 1) := by decide +kernel
theorem dX11_image_1 : decode cX11_image 1 = .ok (.getfield 32, 3) := by decide +kernel
theorem dX11_image_4 : decode cX11_image 4 = .ok (.aload_n 0, 1) := by decide +kernel
theorem dX11_image_5 : decode cX11_image 5 = .ok (.getfield 21, 3) := by decide +kernel
theorem dX11_image_8 : decode cX11_image 8 = .ok (.invokevirtual 388, 3) := by decide +kernel
theorem dX11_image_11 : decode cX11_image 11 = .ok (.aload_n 0, 1) := by decide +kernel
theorem dX11_image_12 : decode cX11_image 12 = .ok (.getfield 35, 3) := by decide +kernel
theorem dX11_image_15 : decode cX11_image 15 = .ok (.aload_n 0, 1) := by decide +kernel
theorem dX11_image_16 : decode cX11_image 16 = .ok (.getfield 28, 3) := by decide +kernel
theorem dX11_image_19 : decode cX11_image 19 = .ok (.invokevirtual 391, 3) := by decide +kernel
theorem dX11_image_22 : decode cX11_image 22 = .ok (.aload_n 0, 1) := by decide +kernel
theorem dX11_image_23 : decode cX11_image 23 = .ok (.iconst 1, 1) := by decide +kernel
theorem dX11_image_24 : decode cX11_image 24 = .ok (.putfield 394, 3) := by decide +kernel
theorem dX11_image_27 : decode cX11_image 27 = .ok (.aload_n 0, 1) := by decide +kernel
theorem dX11_image_28 : decode cX11_image 28 = .ok (.getfield 21, 3) := by decide +kernel
theorem dX11_image_31 : decode cX11_image 31 = .ok (.getfield 119, 3) := by decide +kernel
theorem dX11_image_34 : decode cX11_image 34 = .ok (.ireturn, 1) := by decide +kernel
theorem dX11_undo_0 : decode cX11_undo 0 = .ok (.aload_n 0, 1) := by decide +kernel
theorem dX11_undo_1 : decode cX11_undo 1 = .ok (.getfield 394, 3) := by decide +kernel
theorem dX11_undo_4 : decode cX11_undo 4 = .ok (.ifCond .ne 6, 3) := by decide +kernel
theorem dX11_undo_7 : decode cX11_undo 7 = .ok (.bipush (-3), 2) := by decide +kernel
theorem dX11_undo_9 : decode cX11_undo 9 = .ok (.ireturn, 1) := by decide +kernel
theorem dX11_undo_10 : decode cX11_undo 10 = .ok (.aload_n 0, 1) := by decide +kernel
theorem dX11_undo_11 : decode cX11_undo 11 = .ok (.getfield 21, 3) := by decide +kernel
theorem dX11_undo_14 : decode cX11_undo 14 = .ok (.aload_n 0, 1) := by decide +kernel
theorem dX11_undo_15 : decode cX11_undo 15 = .ok (.getfield 32, 3) := by decide +kernel
theorem dX11_undo_18 : decode cX11_undo 18 = .ok (.invokevirtual 388, 3) := by decide +kernel
theorem dX11_undo_21 : decode cX11_undo 21 = .ok (.aload_n 0, 1) := by decide +kernel
theorem dX11_undo_22 : decode cX11_undo 22 = .ok (.getfield 28, 3) := by decide +kernel
theorem dX11_undo_25 : decode cX11_undo 25 = .ok (.aload_n 0, 1) := by decide +kernel
theorem dX11_undo_26 : decode cX11_undo 26 = .ok (.getfield 35, 3) := by decide +kernel
theorem dX11_undo_29 : decode cX11_undo 29 = .ok (.invokevirtual 391, 3) := by decide +kernel
theorem dX11_undo_32 : decode cX11_undo 32 = .ok (.aload_n 0, 1) := by decide +kernel
theorem dX11_undo_33 : decode cX11_undo 33 = .ok (.getfield 21, 3) := by decide +kernel
theorem dX11_undo_36 : decode cX11_undo 36 = .ok (.getfield 119, 3) := by decide +kernel
theorem dX11_undo_39 : decode cX11_undo 39 = .ok (.ireturn, 1) := by decide +kernel
theorem dX11_count_0 : decode cX11_count 0 = .ok (.iload_n 1, 1) := by decide +kernel
theorem dX11_count_1 : decode cX11_count 1 = .ok (.tableswitch 81 0 5 #[39, 47, 55, 63, 71, 76], 39) := by decide +kernel
theorem dX11_count_40 : decode cX11_count 40 = .ok (.aload_n 0, 1) := by decide +kernel
theorem dX11_count_41 : decode cX11_count 41 = .ok (.getfield 21, 3) := by decide +kernel
theorem dX11_count_44 : decode cX11_count 44 = .ok (.getfield 119, 3) := by decide +kernel
theorem dX11_count_47 : decode cX11_count 47 = .ok (.ireturn, 1) := by decide +kernel
theorem dX11_count_48 : decode cX11_count 48 = .ok (.aload_n 0, 1) := by decide +kernel
theorem dX11_count_49 : decode cX11_count 49 = .ok (.getfield 28, 3) := by decide +kernel
theorem dX11_count_52 : decode cX11_count 52 = .ok (.getfield 273, 3) := by decide +kernel
theorem dX11_count_55 : decode cX11_count 55 = .ok (.ireturn, 1) := by decide +kernel
theorem dX11_count_56 : decode cX11_count 56 = .ok (.aload_n 0, 1) := by decide +kernel
theorem dX11_count_57 : decode cX11_count 57 = .ok (.getfield 12, 3) := by decide +kernel
theorem dX11_count_60 : decode cX11_count 60 = .ok (.getfield 101, 3) := by decide +kernel
theorem dX11_count_63 : decode cX11_count 63 = .ok (.ireturn, 1) := by decide +kernel
theorem dX11_count_64 : decode cX11_count 64 = .ok (.aload_n 0, 1) := by decide +kernel
theorem dX11_count_65 : decode cX11_count 65 = .ok (.getfield 48, 3) := by decide +kernel
theorem dX11_count_68 : decode cX11_count 68 = .ok (.getfield 192, 3) := by decide +kernel
theorem dX11_count_71 : decode cX11_count 71 = .ok (.ireturn, 1) := by decide +kernel
theorem dX11_count_72 : decode cX11_count 72 = .ok (.aload_n 0, 1) := by decide +kernel
theorem dX11_count_73 : decode cX11_count 73 = .ok (.invokevirtual 397, 3) := by decide +kernel
theorem dX11_count_76 : decode cX11_count 76 = .ok (.ireturn, 1) := by decide +kernel
theorem dX11_count_77 : decode cX11_count 77 = .ok (.aload_n 0, 1) := by decide +kernel
theorem dX11_count_78 : decode cX11_count 78 = .ok (.invokevirtual 400, 3) := by decide +kernel
theorem dX11_count_81 : decode cX11_count 81 = .ok (.ireturn, 1) := by decide +kernel
theorem dX11_count_82 : decode cX11_count 82 = .ok (.bipush (-2), 2) := by decide +kernel
theorem dX11_count_84 : decode cX11_count 84 = .ok (.ireturn, 1) := by decide +kernel
theorem dX11_isTold_0 : decode cX11_isTold 0 = .ok (.iload_n 0, 1) := by decide +kernel
theorem dX11_isTold_1 : decode cX11_isTold 1 = .ok (.iconst 1, 1) := by decide +kernel
theorem dX11_isTold_2 : decode cX11_isTold 2 = .ok (.if_icmp .lt 14, 3) := by decide +kernel
theorem dX11_isTold_5 : decode cX11_isTold 5 = .ok (.iload_n 0, 1) := by decide +kernel
theorem dX11_isTold_6 : decode cX11_isTold 6 = .ok (.ldc_w 403, 3) := by decide +kernel
theorem dX11_isTold_9 : decode cX11_isTold 9 = .ok (.if_icmp .gt 7, 3) := by decide +kernel
theorem dX11_isTold_12 : decode cX11_isTold 12 = .ok (.iconst 1, 1) := by decide +kernel
theorem dX11_isTold_13 : decode cX11_isTold 13 = .ok (.goto 4, 3) := by decide +kernel
theorem dX11_isTold_16 : decode cX11_isTold 16 = .ok (.iconst 0, 1) := by decide +kernel
theorem dX11_isTold_17 : decode cX11_isTold 17 = .ok (.ireturn, 1) := by decide +kernel
theorem dX11_isPlace_0 : decode cX11_isPlace 0 = .ok (.iload_n 0, 1) := by decide +kernel
theorem dX11_isPlace_1 : decode cX11_isPlace 1 = .ok (.ifCond .lt 13, 3) := by decide +kernel
theorem dX11_isPlace_4 : decode cX11_isPlace 4 = .ok (.iload_n 0, 1) := by decide +kernel
theorem dX11_isPlace_5 : decode cX11_isPlace 5 = .ok (.bipush 6, 2) := by decide +kernel
theorem dX11_isPlace_7 : decode cX11_isPlace 7 = .ok (.if_icmp .ge 7, 3) := by decide +kernel
theorem dX11_isPlace_10 : decode cX11_isPlace 10 = .ok (.iconst 1, 1) := by decide +kernel
theorem dX11_isPlace_11 : decode cX11_isPlace 11 = .ok (.goto 4, 3) := by decide +kernel
theorem dX11_isPlace_14 : decode cX11_isPlace 14 = .ok (.iconst 0, 1) := by decide +kernel
theorem dX11_isPlace_15 : decode cX11_isPlace 15 = .ok (.ireturn, 1) := by decide +kernel
theorem dX11_equalRows_0 : decode cX11_equalRows 0 = .ok (.iconst 0, 1) := by decide +kernel
theorem dX11_equalRows_1 : decode cX11_equalRows 1 = .ok (.istore_n 2, 1) := by decide +kernel
theorem dX11_equalRows_2 : decode cX11_equalRows 2 = .ok (.iload_n 2, 1) := by decide +kernel
theorem dX11_equalRows_3 : decode cX11_equalRows 3 = .ok (.iconst 5, 1) := by decide +kernel
theorem dX11_equalRows_4 : decode cX11_equalRows 4 = .ok (.if_icmp .ge 20, 3) := by decide +kernel
theorem dX11_equalRows_7 : decode cX11_equalRows 7 = .ok (.aload_n 0, 1) := by decide +kernel
theorem dX11_equalRows_8 : decode cX11_equalRows 8 = .ok (.iload_n 2, 1) := by decide +kernel
theorem dX11_equalRows_9 : decode cX11_equalRows 9 = .ok (.iaload, 1) := by decide +kernel
theorem dX11_equalRows_10 : decode cX11_equalRows 10 = .ok (.aload_n 1, 1) := by decide +kernel
theorem dX11_equalRows_11 : decode cX11_equalRows 11 = .ok (.iload_n 2, 1) := by decide +kernel
theorem dX11_equalRows_12 : decode cX11_equalRows 12 = .ok (.iaload, 1) := by decide +kernel
theorem dX11_equalRows_13 : decode cX11_equalRows 13 = .ok (.if_icmp .eq 5, 3) := by decide +kernel
theorem dX11_equalRows_16 : decode cX11_equalRows 16 = .ok (.iconst 0, 1) := by decide +kernel
theorem dX11_equalRows_17 : decode cX11_equalRows 17 = .ok (.ireturn, 1) := by decide +kernel
theorem dX11_equalRows_18 : decode cX11_equalRows 18 = .ok (.iinc 2 1, 3) := by decide +kernel
theorem dX11_equalRows_21 : decode cX11_equalRows 21 = .ok (.goto (-19), 3) := by decide +kernel
theorem dX11_equalRows_24 : decode cX11_equalRows 24 = .ok (.iconst 1, 1) := by decide +kernel
theorem dX11_equalRows_25 : decode cX11_equalRows 25 = .ok (.ireturn, 1) := by decide +kernel
theorem dX11_goesBeyond_0 : decode cX11_goesBeyond 0 = .ok (.iconst 0, 1) := by decide +kernel
theorem dX11_goesBeyond_1 : decode cX11_goesBeyond 1 = .ok (.istore_n 2, 1) := by decide +kernel
theorem dX11_goesBeyond_2 : decode cX11_goesBeyond 2 = .ok (.iload_n 2, 1) := by decide +kernel
theorem dX11_goesBeyond_3 : decode cX11_goesBeyond 3 = .ok (.iconst 5, 1) := by decide +kernel
theorem dX11_goesBeyond_4 : decode cX11_goesBeyond 4 = .ok (.if_icmp .ge 21, 3) := by decide +kernel
theorem dX11_goesBeyond_7 : decode cX11_goesBeyond 7 = .ok (.aload_n 0, 1) := by decide +kernel
theorem dX11_goesBeyond_8 : decode cX11_goesBeyond 8 = .ok (.iload_n 2, 1) := by decide +kernel
theorem dX11_goesBeyond_9 : decode cX11_goesBeyond 9 = .ok (.iaload, 1) := by decide +kernel
theorem dX11_goesBeyond_10 : decode cX11_goesBeyond 10 = .ok (.invokestatic 404, 3) := by decide +kernel
theorem dX11_goesBeyond_13 : decode cX11_goesBeyond 13 = .ok (.iload_n 1, 1) := by decide +kernel
theorem dX11_goesBeyond_14 : decode cX11_goesBeyond 14 = .ok (.if_icmp .le 5, 3) := by decide +kernel
theorem dX11_goesBeyond_17 : decode cX11_goesBeyond 17 = .ok (.iconst 1, 1) := by decide +kernel
theorem dX11_goesBeyond_18 : decode cX11_goesBeyond 18 = .ok (.ireturn, 1) := by decide +kernel
theorem dX11_goesBeyond_19 : decode cX11_goesBeyond 19 = .ok (.iinc 2 1, 3) := by decide +kernel
theorem dX11_goesBeyond_22 : decode cX11_goesBeyond 22 = .ok (.goto (-20), 3) := by decide +kernel
theorem dX11_goesBeyond_25 : decode cX11_goesBeyond 25 = .ok (.iconst 0, 1) := by decide +kernel
theorem dX11_goesBeyond_26 : decode cX11_goesBeyond 26 = .ok (.ireturn, 1) := by decide +kernel
theorem dX11_provedStep_0 : decode cX11_provedStep 0 = .ok (.aload_n 0, 1) := by decide +kernel
theorem dX11_provedStep_1 : decode cX11_provedStep 1 = .ok (.getfield 188, 3) := by decide +kernel
theorem dX11_provedStep_4 : decode cX11_provedStep 4 = .ok (.ifCond .eq 14, 3) := by decide +kernel
theorem dX11_provedStep_7 : decode cX11_provedStep 7 = .ok (.aload_n 0, 1) := by decide +kernel
theorem dX11_provedStep_8 : decode cX11_provedStep 8 = .ok (.getfield 48, 3) := by decide +kernel
theorem dX11_provedStep_11 : decode cX11_provedStep 11 = .ok (.iload_n 1, 1) := by decide +kernel
theorem dX11_provedStep_12 : decode cX11_provedStep 12 = .ok (.invokevirtual 211, 3) := by decide +kernel
theorem dX11_provedStep_15 : decode cX11_provedStep 15 = .ok (.goto 4, 3) := by decide +kernel
theorem dX11_provedStep_18 : decode cX11_provedStep 18 = .ok (.aconst_null, 1) := by decide +kernel
theorem dX11_provedStep_19 : decode cX11_provedStep 19 = .ok (.areturn, 1) := by decide +kernel
theorem dX11_resultSide_0 : decode cX11_resultSide 0 = .ok (.aload_n 0, 1) := by decide +kernel
theorem dX11_resultSide_1 : decode cX11_resultSide 1 = .ok (.getfield 188, 3) := by decide +kernel
theorem dX11_resultSide_4 : decode cX11_resultSide 4 = .ok (.ifCond .eq 14, 3) := by decide +kernel
theorem dX11_resultSide_7 : decode cX11_resultSide 7 = .ok (.aload_n 0, 1) := by decide +kernel
theorem dX11_resultSide_8 : decode cX11_resultSide 8 = .ok (.getfield 48, 3) := by decide +kernel
theorem dX11_resultSide_11 : decode cX11_resultSide 11 = .ok (.iload_n 1, 1) := by decide +kernel
theorem dX11_resultSide_12 : decode cX11_resultSide 12 = .ok (.invokevirtual 409, 3) := by decide +kernel
theorem dX11_resultSide_15 : decode cX11_resultSide 15 = .ok (.goto 4, 3) := by decide +kernel
theorem dX11_resultSide_18 : decode cX11_resultSide 18 = .ok (.aconst_null, 1) := by decide +kernel
theorem dX11_resultSide_19 : decode cX11_resultSide 19 = .ok (.areturn, 1) := by decide +kernel
theorem dX11_answerIn_0 : decode cX11_answerIn 0 = .ok (.aload_n 0, 1) := by decide +kernel
theorem dX11_answerIn_1 : decode cX11_answerIn 1 = .ok (.getfield 21, 3) := by decide +kernel
theorem dX11_answerIn_4 : decode cX11_answerIn 4 = .ok (.iload_n 2, 1) := by decide +kernel
theorem dX11_answerIn_5 : decode cX11_answerIn 5 = .ok (.invokevirtual 129, 3) := by decide +kernel
theorem dX11_answerIn_8 : decode cX11_answerIn 8 = .ok (.astore_n 3, 1) := by decide +kernel
theorem dX11_answerIn_9 : decode cX11_answerIn 9 = .ok (.aload_n 0, 1) := by decide +kernel
theorem dX11_answerIn_10 : decode cX11_answerIn 10 = .ok (.iload_n 1, 1) := by decide +kernel
theorem dX11_answerIn_11 : decode cX11_answerIn 11 = .ok (.invokevirtual 259, 3) := by decide +kernel
theorem dX11_answerIn_14 : decode cX11_answerIn 14 = .ok (.astore 4, 2) := by decide +kernel
theorem dX11_answerIn_16 : decode cX11_answerIn 16 = .ok (.aload_n 3, 1) := by decide +kernel
theorem dX11_answerIn_17 : decode cX11_answerIn 17 = .ok (.ifnull 23, 3) := by decide +kernel
theorem dX11_answerIn_20 : decode cX11_answerIn 20 = .ok (.aload 4, 2) := by decide +kernel
theorem dX11_answerIn_22 : decode cX11_answerIn 22 = .ok (.ifnull 18, 3) := by decide +kernel
theorem dX11_answerIn_25 : decode cX11_answerIn 25 = .ok (.aload 4, 2) := by decide +kernel
theorem dX11_answerIn_27 : decode cX11_answerIn 27 = .ok (.getfield 231, 3) := by decide +kernel
theorem dX11_answerIn_30 : decode cX11_answerIn 30 = .ok (.aload_n 3, 1) := by decide +kernel
theorem dX11_answerIn_31 : decode cX11_answerIn 31 = .ok (.getfield 137, 3) := by decide +kernel
theorem dX11_answerIn_34 : decode cX11_answerIn 34 = .ok (.invokestatic 235, 3) := by decide +kernel
theorem dX11_answerIn_37 : decode cX11_answerIn 37 = .ok (.ifCond .ne 5, 3) := by decide +kernel
theorem dX11_answerIn_40 : decode cX11_answerIn 40 = .ok (.iconst 0, 1) := by decide +kernel
theorem dX11_answerIn_41 : decode cX11_answerIn 41 = .ok (.ireturn, 1) := by decide +kernel
theorem dX11_answerIn_42 : decode cX11_answerIn 42 = .ok (.aload_n 0, 1) := by decide +kernel
theorem dX11_answerIn_43 : decode cX11_answerIn 43 = .ok (.getfield 77, 3) := by decide +kernel
theorem dX11_answerIn_46 : decode cX11_answerIn 46 = .ok (.aload 4, 2) := by decide +kernel
theorem dX11_answerIn_48 : decode cX11_answerIn 48 = .ok (.getfield 220, 3) := by decide +kernel
theorem dX11_answerIn_51 : decode cX11_answerIn 51 = .ok (.invokevirtual 161, 3) := by decide +kernel
theorem dX11_answerIn_54 : decode cX11_answerIn 54 = .ok (.aload_n 0, 1) := by decide +kernel
theorem dX11_answerIn_55 : decode cX11_answerIn 55 = .ok (.getfield 77, 3) := by decide +kernel
theorem dX11_answerIn_58 : decode cX11_answerIn 58 = .ok (.aload_n 3, 1) := by decide +kernel
theorem dX11_answerIn_59 : decode cX11_answerIn 59 = .ok (.getfield 150, 3) := by decide +kernel
theorem dX11_answerIn_62 : decode cX11_answerIn 62 = .ok (.invokevirtual 412, 3) := by decide +kernel
theorem dX11_answerIn_65 : decode cX11_answerIn 65 = .ok (.ifCond .eq 21, 3) := by decide +kernel
theorem dX11_answerIn_68 : decode cX11_answerIn 68 = .ok (.aload_n 0, 1) := by decide +kernel
theorem dX11_answerIn_69 : decode cX11_answerIn 69 = .ok (.getfield 77, 3) := by decide +kernel
theorem dX11_answerIn_72 : decode cX11_answerIn 72 = .ok (.aload_n 3, 1) := by decide +kernel
theorem dX11_answerIn_73 : decode cX11_answerIn 73 = .ok (.getfield 143, 3) := by decide +kernel
theorem dX11_answerIn_76 : decode cX11_answerIn 76 = .ok (.invokevirtual 165, 3) := by decide +kernel
theorem dX11_answerIn_79 : decode cX11_answerIn 79 = .ok (.ifCond .eq 7, 3) := by decide +kernel
theorem dX11_answerIn_82 : decode cX11_answerIn 82 = .ok (.iconst 1, 1) := by decide +kernel
theorem dX11_answerIn_83 : decode cX11_answerIn 83 = .ok (.goto 4, 3) := by decide +kernel
theorem dX11_answerIn_86 : decode cX11_answerIn 86 = .ok (.iconst 0, 1) := by decide +kernel
theorem dX11_answerIn_87 : decode cX11_answerIn 87 = .ok (.ireturn, 1) := by decide +kernel
theorem dX11_splits_0 : decode cX11_splits 0 = .ok (.aconst_null, 1) := by decide +kernel
theorem dX11_splits_1 : decode cX11_splits 1 = .ok (.astore_n 3, 1) := by decide +kernel
theorem dX11_splits_2 : decode cX11_splits 2 = .ok (.iconst 0, 1) := by decide +kernel
theorem dX11_splits_3 : decode cX11_splits 3 = .ok (.istore 4, 2) := by decide +kernel
theorem dX11_splits_5 : decode cX11_splits 5 = .ok (.iload 4, 2) := by decide +kernel
theorem dX11_splits_7 : decode cX11_splits 7 = .ok (.iload_n 2, 1) := by decide +kernel
theorem dX11_splits_8 : decode cX11_splits 8 = .ok (.if_icmp .ge 78, 3) := by decide +kernel
theorem dX11_splits_11 : decode cX11_splits 11 = .ok (.iload 4, 2) := by decide +kernel
theorem dX11_splits_13 : decode cX11_splits 13 = .ok (.iconst 3, 1) := by decide +kernel
theorem dX11_splits_14 : decode cX11_splits 14 = .ok (.if_icmp .ge 72, 3) := by decide +kernel
theorem dX11_splits_17 : decode cX11_splits 17 = .ok (.aload_n 0, 1) := by decide +kernel
theorem dX11_splits_18 : decode cX11_splits 18 = .ok (.getfield 86, 3) := by decide +kernel
theorem dX11_splits_21 : decode cX11_splits 21 = .ok (.iload 4, 2) := by decide +kernel
theorem dX11_splits_23 : decode cX11_splits 23 = .ok (.aaload, 1) := by decide +kernel
theorem dX11_splits_24 : decode cX11_splits 24 = .ok (.astore 5, 2) := by decide +kernel
theorem dX11_splits_26 : decode cX11_splits 26 = .ok (.aload 5, 2) := by decide +kernel
theorem dX11_splits_28 : decode cX11_splits 28 = .ok (.ifnull 26, 3) := by decide +kernel
theorem dX11_splits_31 : decode cX11_splits 31 = .ok (.aload 5, 2) := by decide +kernel
theorem dX11_splits_33 : decode cX11_splits 33 = .ok (.invokevirtual 157, 3) := by decide +kernel
theorem dX11_splits_36 : decode cX11_splits 36 = .ok (.ifCond .ne 18, 3) := by decide +kernel
theorem dX11_splits_39 : decode cX11_splits 39 = .ok (.aload 5, 2) := by decide +kernel
theorem dX11_splits_41 : decode cX11_splits 41 = .ok (.getfield 137, 3) := by decide +kernel
theorem dX11_splits_44 : decode cX11_splits 44 = .ok (.aload_n 1, 1) := by decide +kernel
theorem dX11_splits_45 : decode cX11_splits 45 = .ok (.getfield 231, 3) := by decide +kernel
theorem dX11_splits_48 : decode cX11_splits 48 = .ok (.invokestatic 235, 3) := by decide +kernel
theorem dX11_splits_51 : decode cX11_splits 51 = .ok (.ifCond .ne 5, 3) := by decide +kernel
theorem dX11_splits_54 : decode cX11_splits 54 = .ok (.iconst 0, 1) := by decide +kernel
theorem dX11_splits_55 : decode cX11_splits 55 = .ok (.ireturn, 1) := by decide +kernel
theorem dX11_splits_56 : decode cX11_splits 56 = .ok (.aload_n 3, 1) := by decide +kernel
theorem dX11_splits_57 : decode cX11_splits 57 = .ok (.ifnull 20, 3) := by decide +kernel
theorem dX11_splits_60 : decode cX11_splits 60 = .ok (.aload 5, 2) := by decide +kernel
theorem dX11_splits_62 : decode cX11_splits 62 = .ok (.getfield 143, 3) := by decide +kernel
theorem dX11_splits_65 : decode cX11_splits 65 = .ok (.aload_n 3, 1) := by decide +kernel
theorem dX11_splits_66 : decode cX11_splits 66 = .ok (.getfield 143, 3) := by decide +kernel
theorem dX11_splits_69 : decode cX11_splits 69 = .ok (.invokevirtual 239, 3) := by decide +kernel
theorem dX11_splits_72 : decode cX11_splits 72 = .ok (.ifCond .lt 5, 3) := by decide +kernel
theorem dX11_splits_75 : decode cX11_splits 75 = .ok (.iconst 0, 1) := by decide +kernel
theorem dX11_splits_76 : decode cX11_splits 76 = .ok (.ireturn, 1) := by decide +kernel
theorem dX11_splits_77 : decode cX11_splits 77 = .ok (.aload 5, 2) := by decide +kernel
theorem dX11_splits_79 : decode cX11_splits 79 = .ok (.astore_n 3, 1) := by decide +kernel
theorem dX11_splits_80 : decode cX11_splits 80 = .ok (.iinc 4 1, 3) := by decide +kernel
theorem dX11_splits_83 : decode cX11_splits 83 = .ok (.goto (-78), 3) := by decide +kernel
theorem dX11_splits_86 : decode cX11_splits 86 = .ok (.iconst 1, 1) := by decide +kernel
theorem dX11_splits_87 : decode cX11_splits 87 = .ok (.ireturn, 1) := by decide +kernel
theorem dX11_partOf_0 : decode cX11_partOf 0 = .ok (.aload_n 0, 1) := by decide +kernel
theorem dX11_partOf_1 : decode cX11_partOf 1 = .ok (.getfield 81, 3) := by decide +kernel
theorem dX11_partOf_4 : decode cX11_partOf 4 = .ok (.aload_n 1, 1) := by decide +kernel
theorem dX11_partOf_5 : decode cX11_partOf 5 = .ok (.getfield 220, 3) := by decide +kernel
theorem dX11_partOf_8 : decode cX11_partOf 8 = .ok (.invokevirtual 161, 3) := by decide +kernel
theorem dX11_partOf_11 : decode cX11_partOf 11 = .ok (.iconst 0, 1) := by decide +kernel
theorem dX11_partOf_12 : decode cX11_partOf 12 = .ok (.istore 4, 2) := by decide +kernel
theorem dX11_partOf_14 : decode cX11_partOf 14 = .ok (.iload 4, 2) := by decide +kernel
theorem dX11_partOf_16 : decode cX11_partOf 16 = .ok (.iload_n 3, 1) := by decide +kernel
theorem dX11_partOf_17 : decode cX11_partOf 17 = .ok (.if_icmp .gt 113, 3) := by decide +kernel
theorem dX11_partOf_20 : decode cX11_partOf 20 = .ok (.iload 4, 2) := by decide +kernel
theorem dX11_partOf_22 : decode cX11_partOf 22 = .ok (.iconst 3, 1) := by decide +kernel
theorem dX11_partOf_23 : decode cX11_partOf 23 = .ok (.if_icmp .ge 107, 3) := by decide +kernel
theorem dX11_partOf_26 : decode cX11_partOf 26 = .ok (.aload_n 0, 1) := by decide +kernel
theorem dX11_partOf_27 : decode cX11_partOf 27 = .ok (.getfield 86, 3) := by decide +kernel
theorem dX11_partOf_30 : decode cX11_partOf 30 = .ok (.iload 4, 2) := by decide +kernel
theorem dX11_partOf_32 : decode cX11_partOf 32 = .ok (.aaload, 1) := by decide +kernel
theorem dX11_partOf_33 : decode cX11_partOf 33 = .ok (.astore 5, 2) := by decide +kernel
theorem dX11_partOf_35 : decode cX11_partOf 35 = .ok (.aload 5, 2) := by decide +kernel
theorem dX11_partOf_37 : decode cX11_partOf 37 = .ok (.ifnonnull 5, 3) := by decide +kernel
theorem dX11_partOf_40 : decode cX11_partOf 40 = .ok (.iconst 0, 1) := by decide +kernel
theorem dX11_partOf_41 : decode cX11_partOf 41 = .ok (.ireturn, 1) := by decide +kernel
theorem dX11_partOf_42 : decode cX11_partOf 42 = .ok (.aload_n 0, 1) := by decide +kernel
theorem dX11_partOf_43 : decode cX11_partOf 43 = .ok (.getfield 77, 3) := by decide +kernel
theorem dX11_partOf_46 : decode cX11_partOf 46 = .ok (.aload_n 0, 1) := by decide +kernel
theorem dX11_partOf_47 : decode cX11_partOf 47 = .ok (.getfield 81, 3) := by decide +kernel
theorem dX11_partOf_50 : decode cX11_partOf 50 = .ok (.invokevirtual 161, 3) := by decide +kernel
theorem dX11_partOf_53 : decode cX11_partOf 53 = .ok (.aload_n 0, 1) := by decide +kernel
theorem dX11_partOf_54 : decode cX11_partOf 54 = .ok (.getfield 77, 3) := by decide +kernel
theorem dX11_partOf_57 : decode cX11_partOf 57 = .ok (.aload 5, 2) := by decide +kernel
theorem dX11_partOf_59 : decode cX11_partOf 59 = .ok (.getfield 143, 3) := by decide +kernel
theorem dX11_partOf_62 : decode cX11_partOf 62 = .ok (.invokevirtual 165, 3) := by decide +kernel
theorem dX11_partOf_65 : decode cX11_partOf 65 = .ok (.ifCond .ne 5, 3) := by decide +kernel
theorem dX11_partOf_68 : decode cX11_partOf 68 = .ok (.iconst 0, 1) := by decide +kernel
theorem dX11_partOf_69 : decode cX11_partOf 69 = .ok (.ireturn, 1) := by decide +kernel
theorem dX11_partOf_70 : decode cX11_partOf 70 = .ok (.iload 4, 2) := by decide +kernel
theorem dX11_partOf_72 : decode cX11_partOf 72 = .ok (.iload_n 2, 1) := by decide +kernel
theorem dX11_partOf_73 : decode cX11_partOf 73 = .ok (.iconst 1, 1) := by decide +kernel
theorem dX11_partOf_74 : decode cX11_partOf 74 = .ok (.isub, 1) := by decide +kernel
theorem dX11_partOf_75 : decode cX11_partOf 75 = .ok (.if_icmp .ge 10, 3) := by decide +kernel
theorem dX11_partOf_78 : decode cX11_partOf 78 = .ok (.aload_n 0, 1) := by decide +kernel
theorem dX11_partOf_79 : decode cX11_partOf 79 = .ok (.getfield 77, 3) := by decide +kernel
theorem dX11_partOf_82 : decode cX11_partOf 82 = .ok (.invokevirtual 415, 3) := by decide +kernel
theorem dX11_partOf_85 : decode cX11_partOf 85 = .ok (.iload 4, 2) := by decide +kernel
theorem dX11_partOf_87 : decode cX11_partOf 87 = .ok (.iload_n 3, 1) := by decide +kernel
theorem dX11_partOf_88 : decode cX11_partOf 88 = .ok (.if_icmp .ne 5, 3) := by decide +kernel
theorem dX11_partOf_91 : decode cX11_partOf 91 = .ok (.iconst 1, 1) := by decide +kernel
theorem dX11_partOf_92 : decode cX11_partOf 92 = .ok (.ireturn, 1) := by decide +kernel
theorem dX11_partOf_93 : decode cX11_partOf 93 = .ok (.aload_n 0, 1) := by decide +kernel
theorem dX11_partOf_94 : decode cX11_partOf 94 = .ok (.getfield 77, 3) := by decide +kernel
theorem dX11_partOf_97 : decode cX11_partOf 97 = .ok (.aload 5, 2) := by decide +kernel
theorem dX11_partOf_99 : decode cX11_partOf 99 = .ok (.getfield 143, 3) := by decide +kernel
theorem dX11_partOf_102 : decode cX11_partOf 102 = .ok (.invokevirtual 176, 3) := by decide +kernel
theorem dX11_partOf_105 : decode cX11_partOf 105 = .ok (.ifCond .eq 17, 3) := by decide +kernel
theorem dX11_partOf_108 : decode cX11_partOf 108 = .ok (.aload_n 0, 1) := by decide +kernel
theorem dX11_partOf_109 : decode cX11_partOf 109 = .ok (.getfield 81, 3) := by decide +kernel
theorem dX11_partOf_112 : decode cX11_partOf 112 = .ok (.aload_n 0, 1) := by decide +kernel
theorem dX11_partOf_113 : decode cX11_partOf 113 = .ok (.getfield 77, 3) := by decide +kernel
theorem dX11_partOf_116 : decode cX11_partOf 116 = .ok (.invokevirtual 412, 3) := by decide +kernel
theorem dX11_partOf_119 : decode cX11_partOf 119 = .ok (.ifCond .ne 5, 3) := by decide +kernel
theorem dX11_partOf_122 : decode cX11_partOf 122 = .ok (.iconst 0, 1) := by decide +kernel
theorem dX11_partOf_123 : decode cX11_partOf 123 = .ok (.ireturn, 1) := by decide +kernel
theorem dX11_partOf_124 : decode cX11_partOf 124 = .ok (.iinc 4 1, 3) := by decide +kernel
theorem dX11_partOf_127 : decode cX11_partOf 127 = .ok (.goto (-113), 3) := by decide +kernel
theorem dX11_partOf_130 : decode cX11_partOf 130 = .ok (.iconst 0, 1) := by decide +kernel
theorem dX11_partOf_131 : decode cX11_partOf 131 = .ok (.ireturn, 1) := by decide +kernel
theorem dX11_truthOf_0 : decode cX11_truthOf 0 = .ok (.aload_n 0, 1) := by decide +kernel
theorem dX11_truthOf_1 : decode cX11_truthOf 1 = .ok (.getfield 21, 3) := by decide +kernel
theorem dX11_truthOf_4 : decode cX11_truthOf 4 = .ok (.aload_n 0, 1) := by decide +kernel
theorem dX11_truthOf_5 : decode cX11_truthOf 5 = .ok (.getfield 28, 3) := by decide +kernel
theorem dX11_truthOf_8 : decode cX11_truthOf 8 = .ok (.getfield 277, 3) := by decide +kernel
theorem dX11_truthOf_11 : decode cX11_truthOf 11 = .ok (.iload_n 1, 1) := by decide +kernel
theorem dX11_truthOf_12 : decode cX11_truthOf 12 = .ok (.iaload, 1) := by decide +kernel
theorem dX11_truthOf_13 : decode cX11_truthOf 13 = .ok (.invokevirtual 129, 3) := by decide +kernel
theorem dX11_truthOf_16 : decode cX11_truthOf 16 = .ok (.astore_n 2, 1) := by decide +kernel
theorem dX11_truthOf_17 : decode cX11_truthOf 17 = .ok (.aload_n 0, 1) := by decide +kernel
theorem dX11_truthOf_18 : decode cX11_truthOf 18 = .ok (.getfield 21, 3) := by decide +kernel
theorem dX11_truthOf_21 : decode cX11_truthOf 21 = .ok (.aload_n 0, 1) := by decide +kernel
theorem dX11_truthOf_22 : decode cX11_truthOf 22 = .ok (.getfield 28, 3) := by decide +kernel
theorem dX11_truthOf_25 : decode cX11_truthOf 25 = .ok (.getfield 280, 3) := by decide +kernel
theorem dX11_truthOf_28 : decode cX11_truthOf 28 = .ok (.iload_n 1, 1) := by decide +kernel
theorem dX11_truthOf_29 : decode cX11_truthOf 29 = .ok (.iaload, 1) := by decide +kernel
theorem dX11_truthOf_30 : decode cX11_truthOf 30 = .ok (.invokevirtual 129, 3) := by decide +kernel
theorem dX11_truthOf_33 : decode cX11_truthOf 33 = .ok (.astore_n 3, 1) := by decide +kernel
theorem dX11_truthOf_34 : decode cX11_truthOf 34 = .ok (.aload_n 2, 1) := by decide +kernel
theorem dX11_truthOf_35 : decode cX11_truthOf 35 = .ok (.ifnull 29, 3) := by decide +kernel
theorem dX11_truthOf_38 : decode cX11_truthOf 38 = .ok (.aload_n 3, 1) := by decide +kernel
theorem dX11_truthOf_39 : decode cX11_truthOf 39 = .ok (.ifnull 25, 3) := by decide +kernel
theorem dX11_truthOf_42 : decode cX11_truthOf 42 = .ok (.aload_n 2, 1) := by decide +kernel
theorem dX11_truthOf_43 : decode cX11_truthOf 43 = .ok (.aload_n 3, 1) := by decide +kernel
theorem dX11_truthOf_44 : decode cX11_truthOf 44 = .ok (.invokevirtual 153, 3) := by decide +kernel
theorem dX11_truthOf_47 : decode cX11_truthOf 47 = .ok (.ifCond .eq 17, 3) := by decide +kernel
theorem dX11_truthOf_50 : decode cX11_truthOf 50 = .ok (.aload_n 2, 1) := by decide +kernel
theorem dX11_truthOf_51 : decode cX11_truthOf 51 = .ok (.invokevirtual 157, 3) := by decide +kernel
theorem dX11_truthOf_54 : decode cX11_truthOf 54 = .ok (.ifCond .ne 10, 3) := by decide +kernel
theorem dX11_truthOf_57 : decode cX11_truthOf 57 = .ok (.aload_n 3, 1) := by decide +kernel
theorem dX11_truthOf_58 : decode cX11_truthOf 58 = .ok (.invokevirtual 157, 3) := by decide +kernel
theorem dX11_truthOf_61 : decode cX11_truthOf 61 = .ok (.ifCond .eq 5, 3) := by decide +kernel
theorem dX11_truthOf_64 : decode cX11_truthOf 64 = .ok (.iconst 0, 1) := by decide +kernel
theorem dX11_truthOf_65 : decode cX11_truthOf 65 = .ok (.ireturn, 1) := by decide +kernel
theorem dX11_truthOf_66 : decode cX11_truthOf 66 = .ok (.aload_n 0, 1) := by decide +kernel
theorem dX11_truthOf_67 : decode cX11_truthOf 67 = .ok (.getfield 77, 3) := by decide +kernel
theorem dX11_truthOf_70 : decode cX11_truthOf 70 = .ok (.aload_n 0, 1) := by decide +kernel
theorem dX11_truthOf_71 : decode cX11_truthOf 71 = .ok (.getfield 28, 3) := by decide +kernel
theorem dX11_truthOf_74 : decode cX11_truthOf 74 = .ok (.getfield 283, 3) := by decide +kernel
theorem dX11_truthOf_77 : decode cX11_truthOf 77 = .ok (.iload_n 1, 1) := by decide +kernel
theorem dX11_truthOf_78 : decode cX11_truthOf 78 = .ok (.iaload, 1) := by decide +kernel
theorem dX11_truthOf_79 : decode cX11_truthOf 79 = .ok (.i2l, 1) := by decide +kernel
theorem dX11_truthOf_80 : decode cX11_truthOf 80 = .ok (.aload_n 0, 1) := by decide +kernel
theorem dX11_truthOf_81 : decode cX11_truthOf 81 = .ok (.getfield 28, 3) := by decide +kernel
theorem dX11_truthOf_84 : decode cX11_truthOf 84 = .ok (.getfield 286, 3) := by decide +kernel
theorem dX11_truthOf_87 : decode cX11_truthOf 87 = .ok (.iload_n 1, 1) := by decide +kernel
theorem dX11_truthOf_88 : decode cX11_truthOf 88 = .ok (.iaload, 1) := by decide +kernel
theorem dX11_truthOf_89 : decode cX11_truthOf 89 = .ok (.i2l, 1) := by decide +kernel
theorem dX11_truthOf_90 : decode cX11_truthOf 90 = .ok (.invokevirtual 172, 3) := by decide +kernel
theorem dX11_truthOf_93 : decode cX11_truthOf 93 = .ok (.aload_n 0, 1) := by decide +kernel
theorem dX11_truthOf_94 : decode cX11_truthOf 94 = .ok (.getfield 77, 3) := by decide +kernel
theorem dX11_truthOf_97 : decode cX11_truthOf 97 = .ok (.aload_n 3, 1) := by decide +kernel
theorem dX11_truthOf_98 : decode cX11_truthOf 98 = .ok (.getfield 143, 3) := by decide +kernel
theorem dX11_truthOf_101 : decode cX11_truthOf 101 = .ok (.invokevirtual 176, 3) := by decide +kernel
theorem dX11_truthOf_104 : decode cX11_truthOf 104 = .ok (.ifCond .ne 6, 3) := by decide +kernel
theorem dX11_truthOf_107 : decode cX11_truthOf 107 = .ok (.bipush (-15), 2) := by decide +kernel
theorem dX11_truthOf_109 : decode cX11_truthOf 109 = .ok (.ireturn, 1) := by decide +kernel
theorem dX11_truthOf_110 : decode cX11_truthOf 110 = .ok (.aload_n 0, 1) := by decide +kernel
theorem dX11_truthOf_111 : decode cX11_truthOf 111 = .ok (.getfield 77, 3) := by decide +kernel
theorem dX11_truthOf_114 : decode cX11_truthOf 114 = .ok (.aload_n 2, 1) := by decide +kernel
theorem dX11_truthOf_115 : decode cX11_truthOf 115 = .ok (.getfield 143, 3) := by decide +kernel
theorem dX11_truthOf_118 : decode cX11_truthOf 118 = .ok (.invokevirtual 239, 3) := by decide +kernel
theorem dX11_truthOf_121 : decode cX11_truthOf 121 = .ok (.ifCond .ne 7, 3) := by decide +kernel
theorem dX11_truthOf_124 : decode cX11_truthOf 124 = .ok (.iconst 1, 1) := by decide +kernel
theorem dX11_truthOf_125 : decode cX11_truthOf 125 = .ok (.goto 4, 3) := by decide +kernel
theorem dX11_truthOf_128 : decode cX11_truthOf 128 = .ok (.iconst 0, 1) := by decide +kernel
theorem dX11_truthOf_129 : decode cX11_truthOf 129 = .ok (.ireturn, 1) := by decide +kernel
theorem dX11_trueClaims_0 : decode cX11_trueClaims 0 = .ok (.iconst 0, 1) := by decide +kernel
theorem dX11_trueClaims_1 : decode cX11_trueClaims 1 = .ok (.istore_n 1, 1) := by decide +kernel
theorem dX11_trueClaims_2 : decode cX11_trueClaims 2 = .ok (.iconst 0, 1) := by decide +kernel
theorem dX11_trueClaims_3 : decode cX11_trueClaims 3 = .ok (.istore_n 2, 1) := by decide +kernel
theorem dX11_trueClaims_4 : decode cX11_trueClaims 4 = .ok (.iload_n 2, 1) := by decide +kernel
theorem dX11_trueClaims_5 : decode cX11_trueClaims 5 = .ok (.aload_n 0, 1) := by decide +kernel
theorem dX11_trueClaims_6 : decode cX11_trueClaims 6 = .ok (.getfield 28, 3) := by decide +kernel
theorem dX11_trueClaims_9 : decode cX11_trueClaims 9 = .ok (.getfield 273, 3) := by decide +kernel
theorem dX11_trueClaims_12 : decode cX11_trueClaims 12 = .ok (.if_icmp .ge 28, 3) := by decide +kernel
theorem dX11_trueClaims_15 : decode cX11_trueClaims 15 = .ok (.aload_n 0, 1) := by decide +kernel
theorem dX11_trueClaims_16 : decode cX11_trueClaims 16 = .ok (.iload_n 2, 1) := by decide +kernel
theorem dX11_trueClaims_17 : decode cX11_trueClaims 17 = .ok (.invokevirtual 292, 3) := by decide +kernel
theorem dX11_trueClaims_20 : decode cX11_trueClaims 20 = .ok (.istore_n 3, 1) := by decide +kernel
theorem dX11_trueClaims_21 : decode cX11_trueClaims 21 = .ok (.iload_n 3, 1) := by decide +kernel
theorem dX11_trueClaims_22 : decode cX11_trueClaims 22 = .ok (.bipush (-15), 2) := by decide +kernel
theorem dX11_trueClaims_24 : decode cX11_trueClaims 24 = .ok (.if_icmp .ne 6, 3) := by decide +kernel
theorem dX11_trueClaims_27 : decode cX11_trueClaims 27 = .ok (.bipush (-15), 2) := by decide +kernel
theorem dX11_trueClaims_29 : decode cX11_trueClaims 29 = .ok (.ireturn, 1) := by decide +kernel
theorem dX11_trueClaims_30 : decode cX11_trueClaims 30 = .ok (.iload_n 1, 1) := by decide +kernel
theorem dX11_trueClaims_31 : decode cX11_trueClaims 31 = .ok (.iload_n 3, 1) := by decide +kernel
theorem dX11_trueClaims_32 : decode cX11_trueClaims 32 = .ok (.iadd, 1) := by decide +kernel
theorem dX11_trueClaims_33 : decode cX11_trueClaims 33 = .ok (.istore_n 1, 1) := by decide +kernel
theorem dX11_trueClaims_34 : decode cX11_trueClaims 34 = .ok (.iinc 2 1, 3) := by decide +kernel
theorem dX11_trueClaims_37 : decode cX11_trueClaims 37 = .ok (.goto (-33), 3) := by decide +kernel
theorem dX11_trueClaims_40 : decode cX11_trueClaims 40 = .ok (.iload_n 1, 1) := by decide +kernel
theorem dX11_trueClaims_41 : decode cX11_trueClaims 41 = .ok (.ireturn, 1) := by decide +kernel
theorem dX11_trackAt_0 : decode cX11_trackAt 0 = .ok (.iload_n 1, 1) := by decide +kernel
theorem dX11_trackAt_1 : decode cX11_trackAt 1 = .ok (.ifCond .lt 8, 3) := by decide +kernel
theorem dX11_trackAt_4 : decode cX11_trackAt 4 = .ok (.iload_n 1, 1) := by decide +kernel
theorem dX11_trackAt_5 : decode cX11_trackAt 5 = .ok (.iconst 4, 1) := by decide +kernel
theorem dX11_trackAt_6 : decode cX11_trackAt 6 = .ok (.if_icmp .lt 7, 3) := by decide +kernel
theorem dX11_trackAt_9 : decode cX11_trackAt 9 = .ok (.aconst_null, 1) := by decide +kernel
theorem dX11_trackAt_10 : decode cX11_trackAt 10 = .ok (.goto 9, 3) := by decide +kernel
theorem dX11_trackAt_13 : decode cX11_trackAt 13 = .ok (.aload_n 0, 1) := by decide +kernel
theorem dX11_trackAt_14 : decode cX11_trackAt 14 = .ok (.getfield 57, 3) := by decide +kernel
theorem dX11_trackAt_17 : decode cX11_trackAt 17 = .ok (.iload_n 1, 1) := by decide +kernel
theorem dX11_trackAt_18 : decode cX11_trackAt 18 = .ok (.aaload, 1) := by decide +kernel
theorem dX11_trackAt_19 : decode cX11_trackAt 19 = .ok (.areturn, 1) := by decide +kernel
theorem dX11_rackAt_0 : decode cX11_rackAt 0 = .ok (.iload_n 1, 1) := by decide +kernel
theorem dX11_rackAt_1 : decode cX11_rackAt 1 = .ok (.ifCond .lt 8, 3) := by decide +kernel
theorem dX11_rackAt_4 : decode cX11_rackAt 4 = .ok (.iload_n 1, 1) := by decide +kernel
theorem dX11_rackAt_5 : decode cX11_rackAt 5 = .ok (.iconst 3, 1) := by decide +kernel
theorem dX11_rackAt_6 : decode cX11_rackAt 6 = .ok (.if_icmp .lt 7, 3) := by decide +kernel
theorem dX11_rackAt_9 : decode cX11_rackAt 9 = .ok (.aconst_null, 1) := by decide +kernel
theorem dX11_rackAt_10 : decode cX11_rackAt 10 = .ok (.goto 9, 3) := by decide +kernel
theorem dX11_rackAt_13 : decode cX11_rackAt 13 = .ok (.aload_n 0, 1) := by decide +kernel
theorem dX11_rackAt_14 : decode cX11_rackAt 14 = .ok (.getfield 63, 3) := by decide +kernel
theorem dX11_rackAt_17 : decode cX11_rackAt 17 = .ok (.iload_n 1, 1) := by decide +kernel
theorem dX11_rackAt_18 : decode cX11_rackAt 18 = .ok (.aaload, 1) := by decide +kernel
theorem dX11_rackAt_19 : decode cX11_rackAt 19 = .ok (.areturn, 1) := by decide +kernel
theorem dX11_itemRefusal_0 : decode cX11_itemRefusal 0 = .ok (.aload_n 0, 1) := by decide +kernel
theorem dX11_itemRefusal_1 : decode cX11_itemRefusal 1 = .ok (.iload_n 1, 1) := by decide +kernel
theorem dX11_itemRefusal_2 : decode cX11_itemRefusal 2 = .ok (.invokevirtual 315, 3) := by decide +kernel
theorem dX11_itemRefusal_5 : decode cX11_itemRefusal 5 = .ok (.astore_n 3, 1) := by decide +kernel
theorem dX11_itemRefusal_6 : decode cX11_itemRefusal 6 = .ok (.aload_n 3, 1) := by decide +kernel
theorem dX11_itemRefusal_7 : decode cX11_itemRefusal 7 = .ok (.ifnonnull 5, 3) := by decide +kernel
theorem dX11_itemRefusal_10 : decode cX11_itemRefusal 10 = .ok (.iconst (-1), 1) := by decide +kernel
theorem dX11_itemRefusal_11 : decode cX11_itemRefusal 11 = .ok (.ireturn, 1) := by decide +kernel
theorem dX11_itemRefusal_12 : decode cX11_itemRefusal 12 = .ok (.aload_n 3, 1) := by decide +kernel
theorem dX11_itemRefusal_13 : decode cX11_itemRefusal 13 = .ok (.invokevirtual 352, 3) := by decide +kernel
theorem dX11_itemRefusal_16 : decode cX11_itemRefusal 16 = .ok (.ifCond .eq 6, 3) := by decide +kernel
theorem dX11_itemRefusal_19 : decode cX11_itemRefusal 19 = .ok (.bipush (-6), 2) := by decide +kernel
theorem dX11_itemRefusal_21 : decode cX11_itemRefusal 21 = .ok (.ireturn, 1) := by decide +kernel
theorem dX11_itemRefusal_22 : decode cX11_itemRefusal 22 = .ok (.iload_n 2, 1) := by decide +kernel
theorem dX11_itemRefusal_23 : decode cX11_itemRefusal 23 = .ok (.ifCond .lt 11, 3) := by decide +kernel
theorem dX11_itemRefusal_26 : decode cX11_itemRefusal 26 = .ok (.iload_n 2, 1) := by decide +kernel
theorem dX11_itemRefusal_27 : decode cX11_itemRefusal 27 = .ok (.aload_n 3, 1) := by decide +kernel
theorem dX11_itemRefusal_28 : decode cX11_itemRefusal 28 = .ok (.getfield 359, 3) := by decide +kernel
theorem dX11_itemRefusal_31 : decode cX11_itemRefusal 31 = .ok (.if_icmp .lt 8, 3) := by decide +kernel
theorem dX11_itemRefusal_34 : decode cX11_itemRefusal 34 = .ok (.bipush (-7), 2) := by decide +kernel
theorem dX11_itemRefusal_36 : decode cX11_itemRefusal 36 = .ok (.goto 4, 3) := by decide +kernel
theorem dX11_itemRefusal_39 : decode cX11_itemRefusal 39 = .ok (.iconst 0, 1) := by decide +kernel
theorem dX11_itemRefusal_40 : decode cX11_itemRefusal 40 = .ok (.ireturn, 1) := by decide +kernel
theorem dX11_filledTracks_0 : decode cX11_filledTracks 0 = .ok (.iconst 0, 1) := by decide +kernel
theorem dX11_filledTracks_1 : decode cX11_filledTracks 1 = .ok (.istore_n 1, 1) := by decide +kernel
theorem dX11_filledTracks_2 : decode cX11_filledTracks 2 = .ok (.iconst 0, 1) := by decide +kernel
theorem dX11_filledTracks_3 : decode cX11_filledTracks 3 = .ok (.istore_n 2, 1) := by decide +kernel
theorem dX11_filledTracks_4 : decode cX11_filledTracks 4 = .ok (.iload_n 2, 1) := by decide +kernel
theorem dX11_filledTracks_5 : decode cX11_filledTracks 5 = .ok (.iconst 4, 1) := by decide +kernel
theorem dX11_filledTracks_6 : decode cX11_filledTracks 6 = .ok (.if_icmp .ge 29, 3) := by decide +kernel
theorem dX11_filledTracks_9 : decode cX11_filledTracks 9 = .ok (.iload_n 1, 1) := by decide +kernel
theorem dX11_filledTracks_10 : decode cX11_filledTracks 10 = .ok (.aload_n 0, 1) := by decide +kernel
theorem dX11_filledTracks_11 : decode cX11_filledTracks 11 = .ok (.getfield 57, 3) := by decide +kernel
theorem dX11_filledTracks_14 : decode cX11_filledTracks 14 = .ok (.iload_n 2, 1) := by decide +kernel
theorem dX11_filledTracks_15 : decode cX11_filledTracks 15 = .ok (.aaload, 1) := by decide +kernel
theorem dX11_filledTracks_16 : decode cX11_filledTracks 16 = .ok (.invokevirtual 352, 3) := by decide +kernel
theorem dX11_filledTracks_19 : decode cX11_filledTracks 19 = .ok (.ifCond .eq 7, 3) := by decide +kernel
theorem dX11_filledTracks_22 : decode cX11_filledTracks 22 = .ok (.iconst 0, 1) := by decide +kernel
theorem dX11_filledTracks_23 : decode cX11_filledTracks 23 = .ok (.goto 4, 3) := by decide +kernel
theorem dX11_filledTracks_26 : decode cX11_filledTracks 26 = .ok (.iconst 1, 1) := by decide +kernel
theorem dX11_filledTracks_27 : decode cX11_filledTracks 27 = .ok (.iadd, 1) := by decide +kernel
theorem dX11_filledTracks_28 : decode cX11_filledTracks 28 = .ok (.istore_n 1, 1) := by decide +kernel
theorem dX11_filledTracks_29 : decode cX11_filledTracks 29 = .ok (.iinc 2 1, 3) := by decide +kernel
theorem dX11_filledTracks_32 : decode cX11_filledTracks 32 = .ok (.goto (-28), 3) := by decide +kernel
theorem dX11_filledTracks_35 : decode cX11_filledTracks 35 = .ok (.iload_n 1, 1) := by decide +kernel
theorem dX11_filledTracks_36 : decode cX11_filledTracks 36 = .ok (.ireturn, 1) := by decide +kernel
theorem dX11_filledPlaces_0 : decode cX11_filledPlaces 0 = .ok (.iconst 0, 1) := by decide +kernel
theorem dX11_filledPlaces_1 : decode cX11_filledPlaces 1 = .ok (.istore_n 1, 1) := by decide +kernel
theorem dX11_filledPlaces_2 : decode cX11_filledPlaces 2 = .ok (.iconst 0, 1) := by decide +kernel
theorem dX11_filledPlaces_3 : decode cX11_filledPlaces 3 = .ok (.istore_n 2, 1) := by decide +kernel
theorem dX11_filledPlaces_4 : decode cX11_filledPlaces 4 = .ok (.iload_n 2, 1) := by decide +kernel
theorem dX11_filledPlaces_5 : decode cX11_filledPlaces 5 = .ok (.iconst 3, 1) := by decide +kernel
theorem dX11_filledPlaces_6 : decode cX11_filledPlaces 6 = .ok (.if_icmp .ge 21, 3) := by decide +kernel
theorem dX11_filledPlaces_9 : decode cX11_filledPlaces 9 = .ok (.iload_n 1, 1) := by decide +kernel
theorem dX11_filledPlaces_10 : decode cX11_filledPlaces 10 = .ok (.aload_n 0, 1) := by decide +kernel
theorem dX11_filledPlaces_11 : decode cX11_filledPlaces 11 = .ok (.getfield 63, 3) := by decide +kernel
theorem dX11_filledPlaces_14 : decode cX11_filledPlaces 14 = .ok (.iload_n 2, 1) := by decide +kernel
theorem dX11_filledPlaces_15 : decode cX11_filledPlaces 15 = .ok (.aaload, 1) := by decide +kernel
theorem dX11_filledPlaces_16 : decode cX11_filledPlaces 16 = .ok (.invokevirtual 418, 3) := by decide +kernel
theorem dX11_filledPlaces_19 : decode cX11_filledPlaces 19 = .ok (.iadd, 1) := by decide +kernel
theorem dX11_filledPlaces_20 : decode cX11_filledPlaces 20 = .ok (.istore_n 1, 1) := by decide +kernel
theorem dX11_filledPlaces_21 : decode cX11_filledPlaces 21 = .ok (.iinc 2 1, 3) := by decide +kernel
theorem dX11_filledPlaces_24 : decode cX11_filledPlaces 24 = .ok (.goto (-20), 3) := by decide +kernel
theorem dX11_filledPlaces_27 : decode cX11_filledPlaces 27 = .ok (.iload_n 1, 1) := by decide +kernel
theorem dX11_filledPlaces_28 : decode cX11_filledPlaces 28 = .ok (.ireturn, 1) := by decide +kernel
theorem dX12_init_0 : decode cX12_init 0 = .ok (.aload_n 0, 1) := by decide +kernel
theorem dX12_init_1 : decode cX12_init 1 = .ok (.invokespecial 3, 3) := by decide +kernel
theorem dX12_init_4 : decode cX12_init 4 = .ok (.aload_n 0, 1) := by decide +kernel
theorem dX12_init_5 : decode cX12_init 5 = .ok (.iconst 5, 1) := by decide +kernel
theorem dX12_init_6 : decode cX12_init 6 = .ok (.putfield 11, 3) := by decide +kernel
theorem dX12_init_9 : decode cX12_init 9 = .ok (.aload_n 0, 1) := by decide +kernel
theorem dX12_init_10 : decode cX12_init 10 = .ok (.bipush 80, 2) := by decide +kernel
theorem dX12_init_12 : decode cX12_init 12 = .ok (.newarray .int, 2) := by decide +kernel
theorem dX12_init_14 : decode cX12_init 14 = .ok (.putfield 15, 3) := by decide +kernel
theorem dX12_init_17 : decode cX12_init 17 = .ok (.aload_n 0, 1) := by decide +kernel
theorem dX12_init_18 : decode cX12_init 18 = .ok (.bipush 100, 2) := by decide +kernel
theorem dX12_init_20 : decode cX12_init 20 = .ok (.newarray .int, 2) := by decide +kernel
theorem dX12_init_22 : decode cX12_init 22 = .ok (.putfield 19, 3) := by decide +kernel
theorem dX12_init_25 : decode cX12_init 25 = .ok (.aload_n 0, 1) := by decide +kernel
theorem dX12_init_26 : decode cX12_init 26 = .ok (.bipush 20, 2) := by decide +kernel
theorem dX12_init_28 : decode cX12_init 28 = .ok (.newarray .long, 2) := by decide +kernel
theorem dX12_init_30 : decode cX12_init 30 = .ok (.putfield 22, 3) := by decide +kernel
theorem dX12_init_33 : decode cX12_init 33 = .ok (.aload_n 0, 1) := by decide +kernel
theorem dX12_init_34 : decode cX12_init 34 = .ok (.bipush 20, 2) := by decide +kernel
theorem dX12_init_36 : decode cX12_init 36 = .ok (.newarray .long, 2) := by decide +kernel
theorem dX12_init_38 : decode cX12_init 38 = .ok (.putfield 26, 3) := by decide +kernel
theorem dX12_init_41 : decode cX12_init 41 = .ok (.aload_n 0, 1) := by decide +kernel
theorem dX12_init_42 : decode cX12_init 42 = .ok (.bipush 20, 2) := by decide +kernel
theorem dX12_init_44 : decode cX12_init 44 = .ok (.newarray .long, 2) := by decide +kernel
theorem dX12_init_46 : decode cX12_init 46 = .ok (.putfield 29, 3) := by decide +kernel
theorem dX12_init_49 : decode cX12_init 49 = .ok (.aload_n 0, 1) := by decide +kernel
theorem dX12_init_50 : decode cX12_init 50 = .ok (.bipush 20, 2) := by decide +kernel
theorem dX12_init_52 : decode cX12_init 52 = .ok (.newarray .long, 2) := by decide +kernel
theorem dX12_init_54 : decode cX12_init 54 = .ok (.putfield 32, 3) := by decide +kernel
theorem dX12_init_57 : decode cX12_init 57 = .ok (.aload_n 0, 1) := by decide +kernel
theorem dX12_init_58 : decode cX12_init 58 = .ok (.bipush 64, 2) := by decide +kernel
theorem dX12_init_60 : decode cX12_init 60 = .ok (.newarray .int, 2) := by decide +kernel
theorem dX12_init_62 : decode cX12_init 62 = .ok (.putfield 35, 3) := by decide +kernel
theorem dX12_init_65 : decode cX12_init 65 = .ok (.aload_n 0, 1) := by decide +kernel
theorem dX12_init_66 : decode cX12_init 66 = .ok (.bipush 80, 2) := by decide +kernel
theorem dX12_init_68 : decode cX12_init 68 = .ok (.newarray .int, 2) := by decide +kernel
theorem dX12_init_70 : decode cX12_init 70 = .ok (.putfield 38, 3) := by decide +kernel
theorem dX12_init_73 : decode cX12_init 73 = .ok (.aload_n 0, 1) := by decide +kernel
theorem dX12_init_74 : decode cX12_init 74 = .ok (.bipush 100, 2) := by decide +kernel
theorem dX12_init_76 : decode cX12_init 76 = .ok (.newarray .int, 2) := by decide +kernel
theorem dX12_init_78 : decode cX12_init 78 = .ok (.putfield 41, 3) := by decide +kernel
theorem dX12_init_81 : decode cX12_init 81 = .ok (.aload_n 0, 1) := by decide +kernel
theorem dX12_init_82 : decode cX12_init 82 = .ok (.bipush 64, 2) := by decide +kernel
theorem dX12_init_84 : decode cX12_init 84 = .ok (.newarray .int, 2) := by decide +kernel
theorem dX12_init_86 : decode cX12_init 86 = .ok (.putfield 44, 3) := by decide +kernel
theorem dX12_init_89 : decode cX12_init 89 = .ok (.aload_n 0, 1) := by decide +kernel
theorem dX12_init_90 : decode cX12_init 90 = .ok (.bipush 20, 2) := by decide +kernel
theorem dX12_init_92 : decode cX12_init 92 = .ok (.newarray .long, 2) := by decide +kernel
theorem dX12_init_94 : decode cX12_init 94 = .ok (.putfield 47, 3) := by decide +kernel
theorem dX12_init_97 : decode cX12_init 97 = .ok (.aload_n 0, 1) := by decide +kernel
theorem dX12_init_98 : decode cX12_init 98 = .ok (.bipush 20, 2) := by decide +kernel
theorem dX12_init_100 : decode cX12_init 100 = .ok (.newarray .long, 2) := by decide +kernel
theorem dX12_init_102 : decode cX12_init 102 = .ok (.putfield 50, 3) := by decide +kernel
theorem dX12_init_105 : decode cX12_init 105 = .ok (.aload_n 0, 1) := by decide +kernel
theorem dX12_init_106 : decode cX12_init 106 = .ok (.bipush 20, 2) := by decide +kernel
theorem dX12_init_108 : decode cX12_init 108 = .ok (.newarray .long, 2) := by decide +kernel
theorem dX12_init_110 : decode cX12_init 110 = .ok (.putfield 53, 3) := by decide +kernel
theorem dX12_init_113 : decode cX12_init 113 = .ok (.aload_n 0, 1) := by decide +kernel
theorem dX12_init_114 : decode cX12_init 114 = .ok (.bipush 20, 2) := by decide +kernel
theorem dX12_init_116 : decode cX12_init 116 = .ok (.newarray .long, 2) := by decide +kernel
theorem dX12_init_118 : decode cX12_init 118 = .ok (.putfield 56, 3) := by decide +kernel
theorem dX12_init_121 : decode cX12_init 121 = .ok (.aload_n 0, 1) := by decide +kernel
theorem dX12_init_122 : decode cX12_init 122 = .ok (.bipush 60, 2) := by decide +kernel
theorem dX12_init_124 : decode cX12_init 124 = .ok (.newarray .int, 2) := by decide +kernel
theorem dX12_init_126 : decode cX12_init 126 = .ok (.putfield 59, 3) := by decide +kernel
theorem dX12_init_129 : decode cX12_init 129 = .ok (.aload_n 0, 1) := by decide +kernel
theorem dX12_init_130 : decode cX12_init 130 = .ok (.bipush 60, 2) := by decide +kernel
theorem dX12_init_132 : decode cX12_init 132 = .ok (.newarray .int, 2) := by decide +kernel
theorem dX12_init_134 : decode cX12_init 134 = .ok (.putfield 62, 3) := by decide +kernel
theorem dX12_init_137 : decode cX12_init 137 = .ok (.aload_n 0, 1) := by decide +kernel
theorem dX12_init_138 : decode cX12_init 138 = .ok (.bipush 60, 2) := by decide +kernel
theorem dX12_init_140 : decode cX12_init 140 = .ok (.newarray .int, 2) := by decide +kernel
theorem dX12_init_142 : decode cX12_init 142 = .ok (.putfield 65, 3) := by decide +kernel
theorem dX12_init_145 : decode cX12_init 145 = .ok (.aload_n 0, 1) := by decide +kernel
theorem dX12_init_146 : decode cX12_init 146 = .ok (.bipush 60, 2) := by decide +kernel
theorem dX12_init_148 : decode cX12_init 148 = .ok (.newarray .int, 2) := by decide +kernel
theorem dX12_init_150 : decode cX12_init 150 = .ok (.putfield 68, 3) := by decide +kernel
theorem dX12_init_153 : decode cX12_init 153 = .ok (.aload_n 0, 1) := by decide +kernel
theorem dX12_init_154 : decode cX12_init 154 = .ok (.bipush 60, 2) := by decide +kernel
theorem dX12_init_156 : decode cX12_init 156 = .ok (.newarray .int, 2) := by decide +kernel
theorem dX12_init_158 : decode cX12_init 158 = .ok (.putfield 71, 3) := by decide +kernel
theorem dX12_init_161 : decode cX12_init 161 = .ok (.aload_n 0, 1) := by decide +kernel
theorem dX12_init_162 : decode cX12_init 162 = .ok (.iconst 5, 1) := by decide +kernel
theorem dX12_init_163 : decode cX12_init 163 = .ok (.newarray .int, 2) := by decide +kernel
theorem dX12_init_165 : decode cX12_init 165 = .ok (.putfield 74, 3) := by decide +kernel
theorem dX12_init_168 : decode cX12_init 168 = .ok (.aload_n 0, 1) := by decide +kernel
theorem dX12_init_169 : decode cX12_init 169 = .ok (.bipush 64, 2) := by decide +kernel
theorem dX12_init_171 : decode cX12_init 171 = .ok (.newarray .int, 2) := by decide +kernel
theorem dX12_init_173 : decode cX12_init 173 = .ok (.putfield 77, 3) := by decide +kernel
theorem dX12_init_176 : decode cX12_init 176 = .ok (.aload_n 0, 1) := by decide +kernel
theorem dX12_init_177 : decode cX12_init 177 = .ok (.sipush 320, 3) := by decide +kernel
theorem dX12_init_180 : decode cX12_init 180 = .ok (.newarray .int, 2) := by decide +kernel
theorem dX12_init_182 : decode cX12_init 182 = .ok (.putfield 80, 3) := by decide +kernel
theorem dX12_init_185 : decode cX12_init 185 = .ok (.aload_n 0, 1) := by decide +kernel
theorem dX12_init_186 : decode cX12_init 186 = .ok (.bipush 64, 2) := by decide +kernel
theorem dX12_init_188 : decode cX12_init 188 = .ok (.newarray .long, 2) := by decide +kernel
theorem dX12_init_190 : decode cX12_init 190 = .ok (.putfield 83, 3) := by decide +kernel
theorem dX12_init_193 : decode cX12_init 193 = .ok (.aload_n 0, 1) := by decide +kernel
theorem dX12_init_194 : decode cX12_init 194 = .ok (.bipush 64, 2) := by decide +kernel
theorem dX12_init_196 : decode cX12_init 196 = .ok (.newarray .long, 2) := by decide +kernel
theorem dX12_init_198 : decode cX12_init 198 = .ok (.putfield 86, 3) := by decide +kernel
theorem dX12_init_201 : decode cX12_init 201 = .ok (.aload_n 0, 1) := by decide +kernel
theorem dX12_init_202 : decode cX12_init 202 = .ok (.iconst 4, 1) := by decide +kernel
theorem dX12_init_203 : decode cX12_init 203 = .ok (.newarray .long, 2) := by decide +kernel
theorem dX12_init_205 : decode cX12_init 205 = .ok (.putfield 89, 3) := by decide +kernel
theorem dX12_init_208 : decode cX12_init 208 = .ok (.aload_n 0, 1) := by decide +kernel
theorem dX12_init_209 : decode cX12_init 209 = .ok (.iconst 4, 1) := by decide +kernel
theorem dX12_init_210 : decode cX12_init 210 = .ok (.newarray .int, 2) := by decide +kernel
theorem dX12_init_212 : decode cX12_init 212 = .ok (.putfield 92, 3) := by decide +kernel
theorem dX12_init_215 : decode cX12_init 215 = .ok (.aload_n 0, 1) := by decide +kernel
theorem dX12_init_216 : decode cX12_init 216 = .ok (.iconst 3, 1) := by decide +kernel
theorem dX12_init_217 : decode cX12_init 217 = .ok (.newarray .int, 2) := by decide +kernel
theorem dX12_init_219 : decode cX12_init 219 = .ok (.putfield 95, 3) := by decide +kernel
theorem dX12_init_222 : decode cX12_init 222 = .ok (.aload_n 0, 1) := by decide +kernel
theorem dX12_init_223 : decode cX12_init 223 = .ok (.bipush 16, 2) := by decide +kernel
theorem dX12_init_225 : decode cX12_init 225 = .ok (.newarray .int, 2) := by decide +kernel
theorem dX12_init_227 : decode cX12_init 227 = .ok (.putfield 98, 3) := by decide +kernel
theorem dX12_init_230 : decode cX12_init 230 = .ok (.aload_n 0, 1) := by decide +kernel
theorem dX12_init_231 : decode cX12_init 231 = .ok (.bipush 20, 2) := by decide +kernel
theorem dX12_init_233 : decode cX12_init 233 = .ok (.newarray .int, 2) := by decide +kernel
theorem dX12_init_235 : decode cX12_init 235 = .ok (.putfield 101, 3) := by decide +kernel
theorem dX12_init_238 : decode cX12_init 238 = .ok (.aload_n 0, 1) := by decide +kernel
theorem dX12_init_239 : decode cX12_init 239 = .ok (.bipush 20, 2) := by decide +kernel
theorem dX12_init_241 : decode cX12_init 241 = .ok (.newarray .int, 2) := by decide +kernel
theorem dX12_init_243 : decode cX12_init 243 = .ok (.putfield 104, 3) := by decide +kernel
theorem dX12_init_246 : decode cX12_init 246 = .ok (.aload_n 0, 1) := by decide +kernel
theorem dX12_init_247 : decode cX12_init 247 = .ok (.iconst 4, 1) := by decide +kernel
theorem dX12_init_248 : decode cX12_init 248 = .ok (.newarray .int, 2) := by decide +kernel
theorem dX12_init_250 : decode cX12_init 250 = .ok (.putfield 107, 3) := by decide +kernel
theorem dX12_init_253 : decode cX12_init 253 = .ok (.aload_n 0, 1) := by decide +kernel
theorem dX12_init_254 : decode cX12_init 254 = .ok (.iconst 4, 1) := by decide +kernel
theorem dX12_init_255 : decode cX12_init 255 = .ok (.newarray .int, 2) := by decide +kernel
theorem dX12_init_257 : decode cX12_init 257 = .ok (.putfield 110, 3) := by decide +kernel
theorem dX12_init_260 : decode cX12_init 260 = .ok (.aload_n 0, 1) := by decide +kernel
theorem dX12_init_261 : decode cX12_init 261 = .ok (.bipush 120, 2) := by decide +kernel
theorem dX12_init_263 : decode cX12_init 263 = .ok (.newarray .float, 2) := by decide +kernel
theorem dX12_init_265 : decode cX12_init 265 = .ok (.putfield 113, 3) := by decide +kernel
theorem dX12_init_268 : decode cX12_init 268 = .ok (.aload_n 0, 1) := by decide +kernel
theorem dX12_init_269 : decode cX12_init 269 = .ok (.bipush 120, 2) := by decide +kernel
theorem dX12_init_271 : decode cX12_init 271 = .ok (.newarray .double, 2) := by decide +kernel
theorem dX12_init_273 : decode cX12_init 273 = .ok (.putfield 117, 3) := by decide +kernel
theorem dX12_init_276 : decode cX12_init 276 = .ok (.aload_n 0, 1) := by decide +kernel
theorem dX12_init_277 : decode cX12_init 277 = .ok (.bipush 18, 2) := by decide +kernel
theorem dX12_init_279 : decode cX12_init 279 = .ok (.newarray .int, 2) := by decide +kernel
theorem dX12_init_281 : decode cX12_init 281 = .ok (.putfield 121, 3) := by decide +kernel
theorem dX12_init_284 : decode cX12_init 284 = .ok (.aload_n 0, 1) := by decide +kernel
theorem dX12_init_285 : decode cX12_init 285 = .ok (.bipush 18, 2) := by decide +kernel
theorem dX12_init_287 : decode cX12_init 287 = .ok (.newarray .int, 2) := by decide +kernel
theorem dX12_init_289 : decode cX12_init 289 = .ok (.putfield 124, 3) := by decide +kernel
theorem dX12_init_292 : decode cX12_init 292 = .ok (.iconst 0, 1) := by decide +kernel
theorem dX12_init_293 : decode cX12_init 293 = .ok (.istore_n 1, 1) := by decide +kernel
theorem dX12_init_294 : decode cX12_init 294 = .ok (.iload_n 1, 1) := by decide +kernel
theorem dX12_init_295 : decode cX12_init 295 = .ok (.iconst 5, 1) := by decide +kernel
theorem dX12_init_296 : decode cX12_init 296 = .ok (.if_icmp .ge 90, 3) := by decide +kernel
theorem dX12_init_299 : decode cX12_init 299 = .ok (.aload_n 0, 1) := by decide +kernel
theorem dX12_init_300 : decode cX12_init 300 = .ok (.getfield 15, 3) := by decide +kernel
theorem dX12_init_303 : decode cX12_init 303 = .ok (.iconst 4, 1) := by decide +kernel
theorem dX12_init_304 : decode cX12_init 304 = .ok (.iload_n 1, 1) := by decide +kernel
theorem dX12_init_305 : decode cX12_init 305 = .ok (.imul, 1) := by decide +kernel
theorem dX12_init_306 : decode cX12_init 306 = .ok (.iload_n 1, 1) := by decide +kernel
theorem dX12_init_307 : decode cX12_init 307 = .ok (.ifCond .ne 8, 3) := by decide +kernel
theorem dX12_init_310 : decode cX12_init 310 = .ok (.bipush 109, 2) := by decide +kernel
theorem dX12_init_312 : decode cX12_init 312 = .ok (.goto 35, 3) := by decide +kernel
theorem dX12_init_315 : decode cX12_init 315 = .ok (.iload_n 1, 1) := by decide +kernel
theorem dX12_init_316 : decode cX12_init 316 = .ok (.iconst 1, 1) := by decide +kernel
theorem dX12_init_317 : decode cX12_init 317 = .ok (.if_icmp .ne 8, 3) := by decide +kernel
theorem dX12_init_320 : decode cX12_init 320 = .ok (.bipush 103, 2) := by decide +kernel
theorem dX12_init_322 : decode cX12_init 322 = .ok (.goto 25, 3) := by decide +kernel
theorem dX12_init_325 : decode cX12_init 325 = .ok (.iload_n 1, 1) := by decide +kernel
theorem dX12_init_326 : decode cX12_init 326 = .ok (.iconst 2, 1) := by decide +kernel
theorem dX12_init_327 : decode cX12_init 327 = .ok (.if_icmp .ne 8, 3) := by decide +kernel
theorem dX12_init_330 : decode cX12_init 330 = .ok (.bipush 115, 2) := by decide +kernel
theorem dX12_init_332 : decode cX12_init 332 = .ok (.goto 15, 3) := by decide +kernel
theorem dX12_init_335 : decode cX12_init 335 = .ok (.iload_n 1, 1) := by decide +kernel
theorem dX12_init_336 : decode cX12_init 336 = .ok (.iconst 3, 1) := by decide +kernel
theorem dX12_init_337 : decode cX12_init 337 = .ok (.if_icmp .ne 8, 3) := by decide +kernel
theorem dX12_init_340 : decode cX12_init 340 = .ok (.bipush 107, 2) := by decide +kernel
theorem dX12_init_342 : decode cX12_init 342 = .ok (.goto 5, 3) := by decide +kernel
theorem dX12_init_345 : decode cX12_init 345 = .ok (.bipush 97, 2) := by decide +kernel
theorem dX12_init_347 : decode cX12_init 347 = .ok (.iastore, 1) := by decide +kernel
theorem dX12_init_348 : decode cX12_init 348 = .ok (.aload_n 0, 1) := by decide +kernel
theorem dX12_init_349 : decode cX12_init 349 = .ok (.getfield 19, 3) := by decide +kernel
theorem dX12_init_352 : decode cX12_init 352 = .ok (.iconst 5, 1) := by decide +kernel
theorem dX12_init_353 : decode cX12_init 353 = .ok (.iload_n 1, 1) := by decide +kernel
theorem dX12_init_354 : decode cX12_init 354 = .ok (.imul, 1) := by decide +kernel
theorem dX12_init_355 : decode cX12_init 355 = .ok (.iload_n 1, 1) := by decide +kernel
theorem dX12_init_356 : decode cX12_init 356 = .ok (.iadd, 1) := by decide +kernel
theorem dX12_init_357 : decode cX12_init 357 = .ok (.iconst 1, 1) := by decide +kernel
theorem dX12_init_358 : decode cX12_init 358 = .ok (.iastore, 1) := by decide +kernel
theorem dX12_init_359 : decode cX12_init 359 = .ok (.aload_n 0, 1) := by decide +kernel
theorem dX12_init_360 : decode cX12_init 360 = .ok (.getfield 22, 3) := by decide +kernel
theorem dX12_init_363 : decode cX12_init 363 = .ok (.iload_n 1, 1) := by decide +kernel
theorem dX12_init_364 : decode cX12_init 364 = .ok (.lconst 1, 1) := by decide +kernel
theorem dX12_init_365 : decode cX12_init 365 = .ok (.lastore, 1) := by decide +kernel
theorem dX12_init_366 : decode cX12_init 366 = .ok (.aload_n 0, 1) := by decide +kernel
theorem dX12_init_367 : decode cX12_init 367 = .ok (.getfield 26, 3) := by decide +kernel
theorem dX12_init_370 : decode cX12_init 370 = .ok (.iload_n 1, 1) := by decide +kernel
theorem dX12_init_371 : decode cX12_init 371 = .ok (.lconst 1, 1) := by decide +kernel
theorem dX12_init_372 : decode cX12_init 372 = .ok (.lastore, 1) := by decide +kernel
theorem dX12_init_373 : decode cX12_init 373 = .ok (.aload_n 0, 1) := by decide +kernel
theorem dX12_init_374 : decode cX12_init 374 = .ok (.getfield 32, 3) := by decide +kernel
theorem dX12_init_377 : decode cX12_init 377 = .ok (.iload_n 1, 1) := by decide +kernel
theorem dX12_init_378 : decode cX12_init 378 = .ok (.lconst 1, 1) := by decide +kernel
theorem dX12_init_379 : decode cX12_init 379 = .ok (.lastore, 1) := by decide +kernel
theorem dX12_init_380 : decode cX12_init 380 = .ok (.iinc 1 1, 3) := by decide +kernel
theorem dX12_init_383 : decode cX12_init 383 = .ok (.goto (-89), 3) := by decide +kernel
theorem dX12_init_386 : decode cX12_init 386 = .ok (.iconst 0, 1) := by decide +kernel
theorem dX12_init_387 : decode cX12_init 387 = .ok (.istore_n 1, 1) := by decide +kernel
theorem dX12_init_388 : decode cX12_init 388 = .ok (.iload_n 1, 1) := by decide +kernel
theorem dX12_init_389 : decode cX12_init 389 = .ok (.iconst 4, 1) := by decide +kernel
theorem dX12_init_390 : decode cX12_init 390 = .ok (.if_icmp .ge 16, 3) := by decide +kernel
theorem dX12_init_393 : decode cX12_init 393 = .ok (.aload_n 0, 1) := by decide +kernel
theorem dX12_init_394 : decode cX12_init 394 = .ok (.getfield 107, 3) := by decide +kernel
theorem dX12_init_397 : decode cX12_init 397 = .ok (.iload_n 1, 1) := by decide +kernel
theorem dX12_init_398 : decode cX12_init 398 = .ok (.iconst (-1), 1) := by decide +kernel
theorem dX12_init_399 : decode cX12_init 399 = .ok (.iastore, 1) := by decide +kernel
theorem dX12_init_400 : decode cX12_init 400 = .ok (.iinc 1 1, 3) := by decide +kernel
theorem dX12_init_403 : decode cX12_init 403 = .ok (.goto (-15), 3) := by decide +kernel
theorem dX12_init_406 : decode cX12_init 406 = .ok (.iconst 0, 1) := by decide +kernel
theorem dX12_init_407 : decode cX12_init 407 = .ok (.istore_n 1, 1) := by decide +kernel
theorem dX12_init_408 : decode cX12_init 408 = .ok (.iload_n 1, 1) := by decide +kernel
theorem dX12_init_409 : decode cX12_init 409 = .ok (.bipush 18, 2) := by decide +kernel
theorem dX12_init_411 : decode cX12_init 411 = .ok (.if_icmp .ge 16, 3) := by decide +kernel
theorem dX12_init_414 : decode cX12_init 414 = .ok (.aload_n 0, 1) := by decide +kernel
theorem dX12_init_415 : decode cX12_init 415 = .ok (.getfield 121, 3) := by decide +kernel
theorem dX12_init_418 : decode cX12_init 418 = .ok (.iload_n 1, 1) := by decide +kernel
theorem dX12_init_419 : decode cX12_init 419 = .ok (.iconst (-1), 1) := by decide +kernel
theorem dX12_init_420 : decode cX12_init 420 = .ok (.iastore, 1) := by decide +kernel
theorem dX12_init_421 : decode cX12_init 421 = .ok (.iinc 1 1, 3) := by decide +kernel
theorem dX12_init_424 : decode cX12_init 424 = .ok (.goto (-16), 3) := by decide +kernel
theorem dX12_init_427 : decode cX12_init 427 = .ok (.return_, 1) := by decide +kernel
theorem dX12_isIn_0 : decode cX12_isIn 0 = .ok (.lload_n 0, 1) := by decide +kernel
theorem dX12_isIn_1 : decode cX12_isIn 1 = .ok (.lload_n 2, 1) := by decide +kernel
theorem dX12_isIn_2 : decode cX12_isIn 2 = .ok (.lcmp, 1) := by decide +kernel
theorem dX12_isIn_3 : decode cX12_isIn 3 = .ok (.ifCond .lt 14, 3) := by decide +kernel
theorem dX12_isIn_6 : decode cX12_isIn 6 = .ok (.lload_n 0, 1) := by decide +kernel
theorem dX12_isIn_7 : decode cX12_isIn 7 = .ok (.lload 4, 2) := by decide +kernel
theorem dX12_isIn_9 : decode cX12_isIn 9 = .ok (.lcmp, 1) := by decide +kernel
theorem dX12_isIn_10 : decode cX12_isIn 10 = .ok (.ifCond .gt 7, 3) := by decide +kernel
theorem dX12_isIn_13 : decode cX12_isIn 13 = .ok (.iconst 1, 1) := by decide +kernel
theorem dX12_isIn_14 : decode cX12_isIn 14 = .ok (.goto 4, 3) := by decide +kernel
theorem dX12_isIn_17 : decode cX12_isIn 17 = .ok (.iconst 0, 1) := by decide +kernel
theorem dX12_isIn_18 : decode cX12_isIn 18 = .ok (.ireturn, 1) := by decide +kernel
theorem dX12_common_0 : decode cX12_common 0 = .ok (.lload_n 0, 1) := by decide +kernel
theorem dX12_common_1 : decode cX12_common 1 = .ok (.invokestatic 127, 3) := by decide +kernel
theorem dX12_common_4 : decode cX12_common 4 = .ok (.lstore 4, 2) := by decide +kernel
theorem dX12_common_6 : decode cX12_common 6 = .ok (.lload_n 2, 1) := by decide +kernel
theorem dX12_common_7 : decode cX12_common 7 = .ok (.invokestatic 127, 3) := by decide +kernel
theorem dX12_common_10 : decode cX12_common 10 = .ok (.lstore 6, 2) := by decide +kernel
theorem dX12_common_12 : decode cX12_common 12 = .ok (.lload 6, 2) := by decide +kernel
theorem dX12_common_14 : decode cX12_common 14 = .ok (.lconst 0, 1) := by decide +kernel
theorem dX12_common_15 : decode cX12_common 15 = .ok (.lcmp, 1) := by decide +kernel
theorem dX12_common_16 : decode cX12_common 16 = .ok (.ifCond .eq 21, 3) := by decide +kernel
theorem dX12_common_19 : decode cX12_common 19 = .ok (.lload 4, 2) := by decide +kernel
theorem dX12_common_21 : decode cX12_common 21 = .ok (.lload 6, 2) := by decide +kernel
theorem dX12_common_23 : decode cX12_common 23 = .ok (.lrem, 1) := by decide +kernel
theorem dX12_common_24 : decode cX12_common 24 = .ok (.lstore 8, 2) := by decide +kernel
theorem dX12_common_26 : decode cX12_common 26 = .ok (.lload 6, 2) := by decide +kernel
theorem dX12_common_28 : decode cX12_common 28 = .ok (.lstore 4, 2) := by decide +kernel
theorem dX12_common_30 : decode cX12_common 30 = .ok (.lload 8, 2) := by decide +kernel
theorem dX12_common_32 : decode cX12_common 32 = .ok (.lstore 6, 2) := by decide +kernel
theorem dX12_common_34 : decode cX12_common 34 = .ok (.goto (-22), 3) := by decide +kernel
theorem dX12_common_37 : decode cX12_common 37 = .ok (.lload 4, 2) := by decide +kernel
theorem dX12_common_39 : decode cX12_common 39 = .ok (.lreturn, 1) := by decide +kernel
theorem dX12_timed_0 : decode cX12_timed 0 = .ok (.lload_n 1, 1) := by decide +kernel
theorem dX12_timed_1 : decode cX12_timed 1 = .ok (.lconst 0, 1) := by decide +kernel
theorem dX12_timed_2 : decode cX12_timed 2 = .ok (.lcmp, 1) := by decide +kernel
theorem dX12_timed_3 : decode cX12_timed 3 = .ok (.ifCond .eq 9, 3) := by decide +kernel
theorem dX12_timed_6 : decode cX12_timed 6 = .ok (.lload_n 3, 1) := by decide +kernel
theorem dX12_timed_7 : decode cX12_timed 7 = .ok (.lconst 0, 1) := by decide +kernel
theorem dX12_timed_8 : decode cX12_timed 8 = .ok (.lcmp, 1) := by decide +kernel
theorem dX12_timed_9 : decode cX12_timed 9 = .ok (.ifCond .ne 5, 3) := by decide +kernel
theorem dX12_timed_12 : decode cX12_timed 12 = .ok (.lconst 0, 1) := by decide +kernel
theorem dX12_timed_13 : decode cX12_timed 13 = .ok (.lreturn, 1) := by decide +kernel
theorem dX12_timed_14 : decode cX12_timed 14 = .ok (.lload_n 1, 1) := by decide +kernel
theorem dX12_timed_15 : decode cX12_timed 15 = .ok (.lload_n 3, 1) := by decide +kernel
theorem dX12_timed_16 : decode cX12_timed 16 = .ok (.lmul, 1) := by decide +kernel
theorem dX12_timed_17 : decode cX12_timed 17 = .ok (.lstore 5, 2) := by decide +kernel
theorem dX12_timed_19 : decode cX12_timed 19 = .ok (.aload_n 0, 1) := by decide +kernel
theorem dX12_timed_20 : decode cX12_timed 20 = .ok (.dup, 1) := by decide +kernel
theorem dX12_timed_21 : decode cX12_timed 21 = .ok (.getfield 133, 3) := by decide +kernel
theorem dX12_timed_24 : decode cX12_timed 24 = .ok (.lload 5, 2) := by decide +kernel
theorem dX12_timed_26 : decode cX12_timed 26 = .ok (.ldc2_w 137, 3) := by decide +kernel
theorem dX12_timed_29 : decode cX12_timed 29 = .ok (.lcmp, 1) := by decide +kernel
theorem dX12_timed_30 : decode cX12_timed 30 = .ok (.ifCond .eq 12, 3) := by decide +kernel
theorem dX12_timed_33 : decode cX12_timed 33 = .ok (.lload 5, 2) := by decide +kernel
theorem dX12_timed_35 : decode cX12_timed 35 = .ok (.lload_n 3, 1) := by decide +kernel
theorem dX12_timed_36 : decode cX12_timed 36 = .ok (.ldiv, 1) := by decide +kernel
theorem dX12_timed_37 : decode cX12_timed 37 = .ok (.lload_n 1, 1) := by decide +kernel
theorem dX12_timed_38 : decode cX12_timed 38 = .ok (.lcmp, 1) := by decide +kernel
theorem dX12_timed_39 : decode cX12_timed 39 = .ok (.ifCond .eq 7, 3) := by decide +kernel
theorem dX12_timed_42 : decode cX12_timed 42 = .ok (.iconst 1, 1) := by decide +kernel
theorem dX12_timed_43 : decode cX12_timed 43 = .ok (.goto 4, 3) := by decide +kernel
theorem dX12_timed_46 : decode cX12_timed 46 = .ok (.iconst 0, 1) := by decide +kernel
theorem dX12_timed_47 : decode cX12_timed 47 = .ok (.ior, 1) := by decide +kernel
theorem dX12_timed_48 : decode cX12_timed 48 = .ok (.putfield 133, 3) := by decide +kernel
theorem dX12_timed_51 : decode cX12_timed 51 = .ok (.lload 5, 2) := by decide +kernel
theorem dX12_timed_53 : decode cX12_timed 53 = .ok (.lreturn, 1) := by decide +kernel
theorem dX12_becomes_0 : decode cX12_becomes 0 = .ok (.lload_n 1, 1) := by decide +kernel
theorem dX12_becomes_1 : decode cX12_becomes 1 = .ok (.lload_n 3, 1) := by decide +kernel
theorem dX12_becomes_2 : decode cX12_becomes 2 = .ok (.invokestatic 139, 3) := by decide +kernel
theorem dX12_becomes_5 : decode cX12_becomes 5 = .ok (.lstore 5, 2) := by decide +kernel
theorem dX12_becomes_7 : decode cX12_becomes 7 = .ok (.aload_n 0, 1) := by decide +kernel
theorem dX12_becomes_8 : decode cX12_becomes 8 = .ok (.lload_n 1, 1) := by decide +kernel
theorem dX12_becomes_9 : decode cX12_becomes 9 = .ok (.lload 5, 2) := by decide +kernel
theorem dX12_becomes_11 : decode cX12_becomes 11 = .ok (.ldiv, 1) := by decide +kernel
theorem dX12_becomes_12 : decode cX12_becomes 12 = .ok (.putfield 143, 3) := by decide +kernel
theorem dX12_becomes_15 : decode cX12_becomes 15 = .ok (.aload_n 0, 1) := by decide +kernel
theorem dX12_becomes_16 : decode cX12_becomes 16 = .ok (.lload_n 3, 1) := by decide +kernel
theorem dX12_becomes_17 : decode cX12_becomes 17 = .ok (.lload 5, 2) := by decide +kernel
theorem dX12_becomes_19 : decode cX12_becomes 19 = .ok (.ldiv, 1) := by decide +kernel
theorem dX12_becomes_20 : decode cX12_becomes 20 = .ok (.putfield 147, 3) := by decide +kernel
theorem dX12_becomes_23 : decode cX12_becomes 23 = .ok (.return_, 1) := by decide +kernel
theorem dX12_times_0 : decode cX12_times 0 = .ok (.lload_n 1, 1) := by decide +kernel
theorem dX12_times_1 : decode cX12_times 1 = .ok (.lconst 0, 1) := by decide +kernel
theorem dX12_times_2 : decode cX12_times 2 = .ok (.lcmp, 1) := by decide +kernel
theorem dX12_times_3 : decode cX12_times 3 = .ok (.ifCond .eq 10, 3) := by decide +kernel
theorem dX12_times_6 : decode cX12_times 6 = .ok (.lload 5, 2) := by decide +kernel
theorem dX12_times_8 : decode cX12_times 8 = .ok (.lconst 0, 1) := by decide +kernel
theorem dX12_times_9 : decode cX12_times 9 = .ok (.lcmp, 1) := by decide +kernel
theorem dX12_times_10 : decode cX12_times 10 = .ok (.ifCond .ne 14, 3) := by decide +kernel
theorem dX12_times_13 : decode cX12_times 13 = .ok (.aload_n 0, 1) := by decide +kernel
theorem dX12_times_14 : decode cX12_times 14 = .ok (.lconst 0, 1) := by decide +kernel
theorem dX12_times_15 : decode cX12_times 15 = .ok (.putfield 143, 3) := by decide +kernel
theorem dX12_times_18 : decode cX12_times 18 = .ok (.aload_n 0, 1) := by decide +kernel
theorem dX12_times_19 : decode cX12_times 19 = .ok (.lconst 1, 1) := by decide +kernel
theorem dX12_times_20 : decode cX12_times 20 = .ok (.putfield 147, 3) := by decide +kernel
theorem dX12_times_23 : decode cX12_times 23 = .ok (.return_, 1) := by decide +kernel
theorem dX12_times_24 : decode cX12_times 24 = .ok (.lload_n 1, 1) := by decide +kernel
theorem dX12_times_25 : decode cX12_times 25 = .ok (.lload 7, 2) := by decide +kernel
theorem dX12_times_27 : decode cX12_times 27 = .ok (.invokestatic 139, 3) := by decide +kernel
theorem dX12_times_30 : decode cX12_times 30 = .ok (.lstore 9, 2) := by decide +kernel
theorem dX12_times_32 : decode cX12_times 32 = .ok (.lload 5, 2) := by decide +kernel
theorem dX12_times_34 : decode cX12_times 34 = .ok (.lload_n 3, 1) := by decide +kernel
theorem dX12_times_35 : decode cX12_times 35 = .ok (.invokestatic 139, 3) := by decide +kernel
theorem dX12_times_38 : decode cX12_times 38 = .ok (.lstore 11, 2) := by decide +kernel
theorem dX12_times_40 : decode cX12_times 40 = .ok (.aload_n 0, 1) := by decide +kernel
theorem dX12_times_41 : decode cX12_times 41 = .ok (.aload_n 0, 1) := by decide +kernel
theorem dX12_times_42 : decode cX12_times 42 = .ok (.lload_n 1, 1) := by decide +kernel
theorem dX12_times_43 : decode cX12_times 43 = .ok (.lload 9, 2) := by decide +kernel
theorem dX12_times_45 : decode cX12_times 45 = .ok (.ldiv, 1) := by decide +kernel
theorem dX12_times_46 : decode cX12_times 46 = .ok (.lload 5, 2) := by decide +kernel
theorem dX12_times_48 : decode cX12_times 48 = .ok (.lload 11, 2) := by decide +kernel
theorem dX12_times_50 : decode cX12_times 50 = .ok (.ldiv, 1) := by decide +kernel
theorem dX12_times_51 : decode cX12_times 51 = .ok (.invokevirtual 150, 3) := by decide +kernel
theorem dX12_times_54 : decode cX12_times 54 = .ok (.putfield 143, 3) := by decide +kernel
theorem dX12_times_57 : decode cX12_times 57 = .ok (.aload_n 0, 1) := by decide +kernel
theorem dX12_times_58 : decode cX12_times 58 = .ok (.aload_n 0, 1) := by decide +kernel
theorem dX12_times_59 : decode cX12_times 59 = .ok (.lload_n 3, 1) := by decide +kernel
theorem dX12_times_60 : decode cX12_times 60 = .ok (.lload 11, 2) := by decide +kernel
theorem dX12_times_62 : decode cX12_times 62 = .ok (.ldiv, 1) := by decide +kernel
theorem dX12_times_63 : decode cX12_times 63 = .ok (.lload 7, 2) := by decide +kernel
theorem dX12_times_65 : decode cX12_times 65 = .ok (.lload 9, 2) := by decide +kernel
theorem dX12_times_67 : decode cX12_times 67 = .ok (.ldiv, 1) := by decide +kernel
theorem dX12_times_68 : decode cX12_times 68 = .ok (.invokevirtual 150, 3) := by decide +kernel
theorem dX12_times_71 : decode cX12_times 71 = .ok (.putfield 147, 3) := by decide +kernel
theorem dX12_times_74 : decode cX12_times 74 = .ok (.return_, 1) := by decide +kernel
theorem dX12_by_0 : decode cX12_by 0 = .ok (.aload_n 0, 1) := by decide +kernel
theorem dX12_by_1 : decode cX12_by 1 = .ok (.lload_n 1, 1) := by decide +kernel
theorem dX12_by_2 : decode cX12_by 2 = .ok (.lload_n 3, 1) := by decide +kernel
theorem dX12_by_3 : decode cX12_by 3 = .ok (.lload 5, 2) := by decide +kernel
theorem dX12_by_5 : decode cX12_by 5 = .ok (.lconst 0, 1) := by decide +kernel
theorem dX12_by_6 : decode cX12_by 6 = .ok (.lcmp, 1) := by decide +kernel
theorem dX12_by_7 : decode cX12_by 7 = .ok (.ifCond .ge 9, 3) := by decide +kernel
theorem dX12_by_10 : decode cX12_by 10 = .ok (.lload 7, 2) := by decide +kernel
theorem dX12_by_12 : decode cX12_by 12 = .ok (.lneg, 1) := by decide +kernel
theorem dX12_by_13 : decode cX12_by 13 = .ok (.goto 5, 3) := by decide +kernel
theorem dX12_by_16 : decode cX12_by 16 = .ok (.lload 7, 2) := by decide +kernel
theorem dX12_by_18 : decode cX12_by 18 = .ok (.lload 5, 2) := by decide +kernel
theorem dX12_by_20 : decode cX12_by 20 = .ok (.lconst 0, 1) := by decide +kernel
theorem dX12_by_21 : decode cX12_by 21 = .ok (.lcmp, 1) := by decide +kernel
theorem dX12_by_22 : decode cX12_by 22 = .ok (.ifCond .ge 9, 3) := by decide +kernel
theorem dX12_by_25 : decode cX12_by 25 = .ok (.lload 5, 2) := by decide +kernel
theorem dX12_by_27 : decode cX12_by 27 = .ok (.lneg, 1) := by decide +kernel
theorem dX12_by_28 : decode cX12_by 28 = .ok (.goto 5, 3) := by decide +kernel
theorem dX12_by_31 : decode cX12_by 31 = .ok (.lload 5, 2) := by decide +kernel
theorem dX12_by_33 : decode cX12_by 33 = .ok (.invokevirtual 153, 3) := by decide +kernel
theorem dX12_by_36 : decode cX12_by 36 = .ok (.return_, 1) := by decide +kernel
theorem dX12_plus_0 : decode cX12_plus 0 = .ok (.lload_n 3, 1) := by decide +kernel
theorem dX12_plus_1 : decode cX12_plus 1 = .ok (.lload 7, 2) := by decide +kernel
theorem dX12_plus_3 : decode cX12_plus 3 = .ok (.invokestatic 139, 3) := by decide +kernel
theorem dX12_plus_6 : decode cX12_plus 6 = .ok (.lstore 10, 2) := by decide +kernel
theorem dX12_plus_8 : decode cX12_plus 8 = .ok (.aload_n 0, 1) := by decide +kernel
theorem dX12_plus_9 : decode cX12_plus 9 = .ok (.lload_n 1, 1) := by decide +kernel
theorem dX12_plus_10 : decode cX12_plus 10 = .ok (.lload 7, 2) := by decide +kernel
theorem dX12_plus_12 : decode cX12_plus 12 = .ok (.lload 10, 2) := by decide +kernel
theorem dX12_plus_14 : decode cX12_plus 14 = .ok (.ldiv, 1) := by decide +kernel
theorem dX12_plus_15 : decode cX12_plus 15 = .ok (.invokevirtual 150, 3) := by decide +kernel
theorem dX12_plus_18 : decode cX12_plus 18 = .ok (.lstore 12, 2) := by decide +kernel
theorem dX12_plus_20 : decode cX12_plus 20 = .ok (.aload_n 0, 1) := by decide +kernel
theorem dX12_plus_21 : decode cX12_plus 21 = .ok (.lload 5, 2) := by decide +kernel
theorem dX12_plus_23 : decode cX12_plus 23 = .ok (.lload_n 3, 1) := by decide +kernel
theorem dX12_plus_24 : decode cX12_plus 24 = .ok (.lload 10, 2) := by decide +kernel
theorem dX12_plus_26 : decode cX12_plus 26 = .ok (.ldiv, 1) := by decide +kernel
theorem dX12_plus_27 : decode cX12_plus 27 = .ok (.invokevirtual 150, 3) := by decide +kernel
theorem dX12_plus_30 : decode cX12_plus 30 = .ok (.iload 9, 2) := by decide +kernel
theorem dX12_plus_32 : decode cX12_plus 32 = .ok (.i2l, 1) := by decide +kernel
theorem dX12_plus_33 : decode cX12_plus 33 = .ok (.lmul, 1) := by decide +kernel
theorem dX12_plus_34 : decode cX12_plus 34 = .ok (.lstore 14, 2) := by decide +kernel
theorem dX12_plus_36 : decode cX12_plus 36 = .ok (.lload 12, 2) := by decide +kernel
theorem dX12_plus_38 : decode cX12_plus 38 = .ok (.lload 14, 2) := by decide +kernel
theorem dX12_plus_40 : decode cX12_plus 40 = .ok (.ladd, 1) := by decide +kernel
theorem dX12_plus_41 : decode cX12_plus 41 = .ok (.lstore 16, 2) := by decide +kernel
theorem dX12_plus_43 : decode cX12_plus 43 = .ok (.aload_n 0, 1) := by decide +kernel
theorem dX12_plus_44 : decode cX12_plus 44 = .ok (.dup, 1) := by decide +kernel
theorem dX12_plus_45 : decode cX12_plus 45 = .ok (.getfield 133, 3) := by decide +kernel
theorem dX12_plus_48 : decode cX12_plus 48 = .ok (.lload 16, 2) := by decide +kernel
theorem dX12_plus_50 : decode cX12_plus 50 = .ok (.ldc2_w 137, 3) := by decide +kernel
theorem dX12_plus_53 : decode cX12_plus 53 = .ok (.lcmp, 1) := by decide +kernel
theorem dX12_plus_54 : decode cX12_plus 54 = .ok (.ifCond .eq 45, 3) := by decide +kernel
theorem dX12_plus_57 : decode cX12_plus 57 = .ok (.lload 12, 2) := by decide +kernel
theorem dX12_plus_59 : decode cX12_plus 59 = .ok (.lconst 0, 1) := by decide +kernel
theorem dX12_plus_60 : decode cX12_plus 60 = .ok (.lcmp, 1) := by decide +kernel
theorem dX12_plus_61 : decode cX12_plus 61 = .ok (.ifCond .le 17, 3) := by decide +kernel
theorem dX12_plus_64 : decode cX12_plus 64 = .ok (.lload 14, 2) := by decide +kernel
theorem dX12_plus_66 : decode cX12_plus 66 = .ok (.lconst 0, 1) := by decide +kernel
theorem dX12_plus_67 : decode cX12_plus 67 = .ok (.lcmp, 1) := by decide +kernel
theorem dX12_plus_68 : decode cX12_plus 68 = .ok (.ifCond .le 10, 3) := by decide +kernel
theorem dX12_plus_71 : decode cX12_plus 71 = .ok (.lload 16, 2) := by decide +kernel
theorem dX12_plus_73 : decode cX12_plus 73 = .ok (.lconst 0, 1) := by decide +kernel
theorem dX12_plus_74 : decode cX12_plus 74 = .ok (.lcmp, 1) := by decide +kernel
theorem dX12_plus_75 : decode cX12_plus 75 = .ok (.ifCond .lt 24, 3) := by decide +kernel
theorem dX12_plus_78 : decode cX12_plus 78 = .ok (.lload 12, 2) := by decide +kernel
theorem dX12_plus_80 : decode cX12_plus 80 = .ok (.lconst 0, 1) := by decide +kernel
theorem dX12_plus_81 : decode cX12_plus 81 = .ok (.lcmp, 1) := by decide +kernel
theorem dX12_plus_82 : decode cX12_plus 82 = .ok (.ifCond .ge 21, 3) := by decide +kernel
theorem dX12_plus_85 : decode cX12_plus 85 = .ok (.lload 14, 2) := by decide +kernel
theorem dX12_plus_87 : decode cX12_plus 87 = .ok (.lconst 0, 1) := by decide +kernel
theorem dX12_plus_88 : decode cX12_plus 88 = .ok (.lcmp, 1) := by decide +kernel
theorem dX12_plus_89 : decode cX12_plus 89 = .ok (.ifCond .ge 14, 3) := by decide +kernel
theorem dX12_plus_92 : decode cX12_plus 92 = .ok (.lload 16, 2) := by decide +kernel
theorem dX12_plus_94 : decode cX12_plus 94 = .ok (.lconst 0, 1) := by decide +kernel
theorem dX12_plus_95 : decode cX12_plus 95 = .ok (.lcmp, 1) := by decide +kernel
theorem dX12_plus_96 : decode cX12_plus 96 = .ok (.ifCond .lt 7, 3) := by decide +kernel
theorem dX12_plus_99 : decode cX12_plus 99 = .ok (.iconst 1, 1) := by decide +kernel
theorem dX12_plus_100 : decode cX12_plus 100 = .ok (.goto 4, 3) := by decide +kernel
theorem dX12_plus_103 : decode cX12_plus 103 = .ok (.iconst 0, 1) := by decide +kernel
theorem dX12_plus_104 : decode cX12_plus 104 = .ok (.ior, 1) := by decide +kernel
theorem dX12_plus_105 : decode cX12_plus 105 = .ok (.putfield 133, 3) := by decide +kernel
theorem dX12_plus_108 : decode cX12_plus 108 = .ok (.aload_n 0, 1) := by decide +kernel
theorem dX12_plus_109 : decode cX12_plus 109 = .ok (.lload_n 3, 1) := by decide +kernel
theorem dX12_plus_110 : decode cX12_plus 110 = .ok (.lload 7, 2) := by decide +kernel
theorem dX12_plus_112 : decode cX12_plus 112 = .ok (.lload 10, 2) := by decide +kernel
theorem dX12_plus_114 : decode cX12_plus 114 = .ok (.ldiv, 1) := by decide +kernel
theorem dX12_plus_115 : decode cX12_plus 115 = .ok (.invokevirtual 150, 3) := by decide +kernel
theorem dX12_plus_118 : decode cX12_plus 118 = .ok (.lstore 18, 2) := by decide +kernel
theorem dX12_plus_120 : decode cX12_plus 120 = .ok (.aload_n 0, 1) := by decide +kernel
theorem dX12_plus_121 : decode cX12_plus 121 = .ok (.getfield 133, 3) := by decide +kernel
theorem dX12_plus_124 : decode cX12_plus 124 = .ok (.ifCond .eq 4, 3) := by decide +kernel
theorem dX12_plus_127 : decode cX12_plus 127 = .ok (.return_, 1) := by decide +kernel
theorem dX12_plus_128 : decode cX12_plus 128 = .ok (.aload_n 0, 1) := by decide +kernel
theorem dX12_plus_129 : decode cX12_plus 129 = .ok (.lload 16, 2) := by decide +kernel
theorem dX12_plus_131 : decode cX12_plus 131 = .ok (.lload 18, 2) := by decide +kernel
theorem dX12_plus_133 : decode cX12_plus 133 = .ok (.invokevirtual 157, 3) := by decide +kernel
theorem dX12_plus_136 : decode cX12_plus 136 = .ok (.return_, 1) := by decide +kernel
theorem dX12_isLess_0 : decode cX12_isLess 0 = .ok (.lload_n 0, 1) := by decide +kernel
theorem dX12_isLess_1 : decode cX12_isLess 1 = .ok (.lstore 8, 2) := by decide +kernel
theorem dX12_isLess_3 : decode cX12_isLess 3 = .ok (.lload_n 2, 1) := by decide +kernel
theorem dX12_isLess_4 : decode cX12_isLess 4 = .ok (.lstore 10, 2) := by decide +kernel
theorem dX12_isLess_6 : decode cX12_isLess 6 = .ok (.lload 4, 2) := by decide +kernel
theorem dX12_isLess_8 : decode cX12_isLess 8 = .ok (.lstore 12, 2) := by decide +kernel
theorem dX12_isLess_10 : decode cX12_isLess 10 = .ok (.lload 6, 2) := by decide +kernel
theorem dX12_isLess_12 : decode cX12_isLess 12 = .ok (.lstore 14, 2) := by decide +kernel
theorem dX12_isLess_14 : decode cX12_isLess 14 = .ok (.iconst 0, 1) := by decide +kernel
theorem dX12_isLess_15 : decode cX12_isLess 15 = .ok (.istore 16, 2) := by decide +kernel
theorem dX12_isLess_17 : decode cX12_isLess 17 = .ok (.lload 8, 2) := by decide +kernel
theorem dX12_isLess_19 : decode cX12_isLess 19 = .ok (.lload 10, 2) := by decide +kernel
theorem dX12_isLess_21 : decode cX12_isLess 21 = .ok (.ldiv, 1) := by decide +kernel
theorem dX12_isLess_22 : decode cX12_isLess 22 = .ok (.lload 12, 2) := by decide +kernel
theorem dX12_isLess_24 : decode cX12_isLess 24 = .ok (.lload 14, 2) := by decide +kernel
theorem dX12_isLess_26 : decode cX12_isLess 26 = .ok (.ldiv, 1) := by decide +kernel
theorem dX12_isLess_27 : decode cX12_isLess 27 = .ok (.lcmp, 1) := by decide +kernel
theorem dX12_isLess_28 : decode cX12_isLess 28 = .ok (.ifCond .eq 33, 3) := by decide +kernel
theorem dX12_isLess_31 : decode cX12_isLess 31 = .ok (.lload 8, 2) := by decide +kernel
theorem dX12_isLess_33 : decode cX12_isLess 33 = .ok (.lload 10, 2) := by decide +kernel
theorem dX12_isLess_35 : decode cX12_isLess 35 = .ok (.ldiv, 1) := by decide +kernel
theorem dX12_isLess_36 : decode cX12_isLess 36 = .ok (.lload 12, 2) := by decide +kernel
theorem dX12_isLess_38 : decode cX12_isLess 38 = .ok (.lload 14, 2) := by decide +kernel
theorem dX12_isLess_40 : decode cX12_isLess 40 = .ok (.ldiv, 1) := by decide +kernel
theorem dX12_isLess_41 : decode cX12_isLess 41 = .ok (.lcmp, 1) := by decide +kernel
theorem dX12_isLess_42 : decode cX12_isLess 42 = .ok (.ifCond .ge 7, 3) := by decide +kernel
theorem dX12_isLess_45 : decode cX12_isLess 45 = .ok (.iconst 1, 1) := by decide +kernel
theorem dX12_isLess_46 : decode cX12_isLess 46 = .ok (.goto 4, 3) := by decide +kernel
theorem dX12_isLess_49 : decode cX12_isLess 49 = .ok (.iconst 0, 1) := by decide +kernel
theorem dX12_isLess_50 : decode cX12_isLess 50 = .ok (.iload 16, 2) := by decide +kernel
theorem dX12_isLess_52 : decode cX12_isLess 52 = .ok (.if_icmp .eq 7, 3) := by decide +kernel
theorem dX12_isLess_55 : decode cX12_isLess 55 = .ok (.iconst 1, 1) := by decide +kernel
theorem dX12_isLess_56 : decode cX12_isLess 56 = .ok (.goto 4, 3) := by decide +kernel
theorem dX12_isLess_59 : decode cX12_isLess 59 = .ok (.iconst 0, 1) := by decide +kernel
theorem dX12_isLess_60 : decode cX12_isLess 60 = .ok (.ireturn, 1) := by decide +kernel
theorem dX12_isLess_61 : decode cX12_isLess 61 = .ok (.lload 8, 2) := by decide +kernel
theorem dX12_isLess_63 : decode cX12_isLess 63 = .ok (.lload 10, 2) := by decide +kernel
theorem dX12_isLess_65 : decode cX12_isLess 65 = .ok (.lrem, 1) := by decide +kernel
theorem dX12_isLess_66 : decode cX12_isLess 66 = .ok (.lstore 17, 2) := by decide +kernel
theorem dX12_isLess_68 : decode cX12_isLess 68 = .ok (.lload 12, 2) := by decide +kernel
theorem dX12_isLess_70 : decode cX12_isLess 70 = .ok (.lload 14, 2) := by decide +kernel
theorem dX12_isLess_72 : decode cX12_isLess 72 = .ok (.lrem, 1) := by decide +kernel
theorem dX12_isLess_73 : decode cX12_isLess 73 = .ok (.lstore 19, 2) := by decide +kernel
theorem dX12_isLess_75 : decode cX12_isLess 75 = .ok (.lload 17, 2) := by decide +kernel
theorem dX12_isLess_77 : decode cX12_isLess 77 = .ok (.lconst 0, 1) := by decide +kernel
theorem dX12_isLess_78 : decode cX12_isLess 78 = .ok (.lcmp, 1) := by decide +kernel
theorem dX12_isLess_79 : decode cX12_isLess 79 = .ok (.ifCond .eq 10, 3) := by decide +kernel
theorem dX12_isLess_82 : decode cX12_isLess 82 = .ok (.lload 19, 2) := by decide +kernel
theorem dX12_isLess_84 : decode cX12_isLess 84 = .ok (.lconst 0, 1) := by decide +kernel
theorem dX12_isLess_85 : decode cX12_isLess 85 = .ok (.lcmp, 1) := by decide +kernel
theorem dX12_isLess_86 : decode cX12_isLess 86 = .ok (.ifCond .ne 36, 3) := by decide +kernel
theorem dX12_isLess_89 : decode cX12_isLess 89 = .ok (.iload 16, 2) := by decide +kernel
theorem dX12_isLess_91 : decode cX12_isLess 91 = .ok (.ifCond .eq 18, 3) := by decide +kernel
theorem dX12_isLess_94 : decode cX12_isLess 94 = .ok (.lload 17, 2) := by decide +kernel
theorem dX12_isLess_96 : decode cX12_isLess 96 = .ok (.lconst 0, 1) := by decide +kernel
theorem dX12_isLess_97 : decode cX12_isLess 97 = .ok (.lcmp, 1) := by decide +kernel
theorem dX12_isLess_98 : decode cX12_isLess 98 = .ok (.ifCond .eq 7, 3) := by decide +kernel
theorem dX12_isLess_101 : decode cX12_isLess 101 = .ok (.iconst 1, 1) := by decide +kernel
theorem dX12_isLess_102 : decode cX12_isLess 102 = .ok (.goto 19, 3) := by decide +kernel
theorem dX12_isLess_105 : decode cX12_isLess 105 = .ok (.iconst 0, 1) := by decide +kernel
theorem dX12_isLess_106 : decode cX12_isLess 106 = .ok (.goto 15, 3) := by decide +kernel
theorem dX12_isLess_109 : decode cX12_isLess 109 = .ok (.lload 19, 2) := by decide +kernel
theorem dX12_isLess_111 : decode cX12_isLess 111 = .ok (.lconst 0, 1) := by decide +kernel
theorem dX12_isLess_112 : decode cX12_isLess 112 = .ok (.lcmp, 1) := by decide +kernel
theorem dX12_isLess_113 : decode cX12_isLess 113 = .ok (.ifCond .eq 7, 3) := by decide +kernel
theorem dX12_isLess_116 : decode cX12_isLess 116 = .ok (.iconst 1, 1) := by decide +kernel
theorem dX12_isLess_117 : decode cX12_isLess 117 = .ok (.goto 4, 3) := by decide +kernel
theorem dX12_isLess_120 : decode cX12_isLess 120 = .ok (.iconst 0, 1) := by decide +kernel
theorem dX12_isLess_121 : decode cX12_isLess 121 = .ok (.ireturn, 1) := by decide +kernel
theorem dX12_isLess_122 : decode cX12_isLess 122 = .ok (.lload 10, 2) := by decide +kernel
theorem dX12_isLess_124 : decode cX12_isLess 124 = .ok (.lstore 8, 2) := by decide +kernel
theorem dX12_isLess_126 : decode cX12_isLess 126 = .ok (.lload 17, 2) := by decide +kernel
theorem dX12_isLess_128 : decode cX12_isLess 128 = .ok (.lstore 10, 2) := by decide +kernel
theorem dX12_isLess_130 : decode cX12_isLess 130 = .ok (.lload 14, 2) := by decide +kernel
theorem dX12_isLess_132 : decode cX12_isLess 132 = .ok (.lstore 12, 2) := by decide +kernel
theorem dX12_isLess_134 : decode cX12_isLess 134 = .ok (.lload 19, 2) := by decide +kernel
theorem dX12_isLess_136 : decode cX12_isLess 136 = .ok (.lstore 14, 2) := by decide +kernel
theorem dX12_isLess_138 : decode cX12_isLess 138 = .ok (.iload 16, 2) := by decide +kernel
theorem dX12_isLess_140 : decode cX12_isLess 140 = .ok (.ifCond .ne 7, 3) := by decide +kernel
theorem dX12_isLess_143 : decode cX12_isLess 143 = .ok (.iconst 1, 1) := by decide +kernel
theorem dX12_isLess_144 : decode cX12_isLess 144 = .ok (.goto 4, 3) := by decide +kernel
theorem dX12_isLess_147 : decode cX12_isLess 147 = .ok (.iconst 0, 1) := by decide +kernel
theorem dX12_isLess_148 : decode cX12_isLess 148 = .ok (.istore 16, 2) := by decide +kernel
theorem dX12_isLess_150 : decode cX12_isLess 150 = .ok (.goto (-133), 3) := by decide +kernel
theorem dX12_isUnit_0 : decode cX12_isUnit 0 = .ok (.iload_n 1, 1) := by decide +kernel
theorem dX12_isUnit_1 : decode cX12_isUnit 1 = .ok (.i2l, 1) := by decide +kernel
theorem dX12_isUnit_2 : decode cX12_isUnit 2 = .ok (.lconst 0, 1) := by decide +kernel
theorem dX12_isUnit_3 : decode cX12_isUnit 3 = .ok (.aload_n 0, 1) := by decide +kernel
theorem dX12_isUnit_4 : decode cX12_isUnit 4 = .ok (.getfield 11, 3) := by decide +kernel
theorem dX12_isUnit_7 : decode cX12_isUnit 7 = .ok (.iconst 1, 1) := by decide +kernel
theorem dX12_isUnit_8 : decode cX12_isUnit 8 = .ok (.isub, 1) := by decide +kernel
theorem dX12_isUnit_9 : decode cX12_isUnit 9 = .ok (.i2l, 1) := by decide +kernel
theorem dX12_isUnit_10 : decode cX12_isUnit 10 = .ok (.invokestatic 161, 3) := by decide +kernel
theorem dX12_isUnit_13 : decode cX12_isUnit 13 = .ok (.ireturn, 1) := by decide +kernel
theorem dX12_hasOffset_0 : decode cX12_hasOffset 0 = .ok (.aload_n 0, 1) := by decide +kernel
theorem dX12_hasOffset_1 : decode cX12_hasOffset 1 = .ok (.getfield 29, 3) := by decide +kernel
theorem dX12_hasOffset_4 : decode cX12_hasOffset 4 = .ok (.iload_n 1, 1) := by decide +kernel
theorem dX12_hasOffset_5 : decode cX12_hasOffset 5 = .ok (.laload, 1) := by decide +kernel
theorem dX12_hasOffset_6 : decode cX12_hasOffset 6 = .ok (.lconst 0, 1) := by decide +kernel
theorem dX12_hasOffset_7 : decode cX12_hasOffset 7 = .ok (.lcmp, 1) := by decide +kernel
theorem dX12_hasOffset_8 : decode cX12_hasOffset 8 = .ok (.ifCond .eq 7, 3) := by decide +kernel
theorem dX12_hasOffset_11 : decode cX12_hasOffset 11 = .ok (.iconst 1, 1) := by decide +kernel
theorem dX12_hasOffset_12 : decode cX12_hasOffset 12 = .ok (.goto 4, 3) := by decide +kernel
theorem dX12_hasOffset_15 : decode cX12_hasOffset 15 = .ok (.iconst 0, 1) := by decide +kernel
theorem dX12_hasOffset_16 : decode cX12_hasOffset 16 = .ok (.ireturn, 1) := by decide +kernel
theorem dX12_areLike_0 : decode cX12_areLike 0 = .ok (.iconst 1, 1) := by decide +kernel
theorem dX12_areLike_1 : decode cX12_areLike 1 = .ok (.istore_n 3, 1) := by decide +kernel
theorem dX12_areLike_2 : decode cX12_areLike 2 = .ok (.iconst 0, 1) := by decide +kernel
theorem dX12_areLike_3 : decode cX12_areLike 3 = .ok (.istore 4, 2) := by decide +kernel
theorem dX12_areLike_5 : decode cX12_areLike 5 = .ok (.iload 4, 2) := by decide +kernel
theorem dX12_areLike_7 : decode cX12_areLike 7 = .ok (.iconst 5, 1) := by decide +kernel
theorem dX12_areLike_8 : decode cX12_areLike 8 = .ok (.if_icmp .ge 42, 3) := by decide +kernel
theorem dX12_areLike_11 : decode cX12_areLike 11 = .ok (.iload_n 3, 1) := by decide +kernel
theorem dX12_areLike_12 : decode cX12_areLike 12 = .ok (.aload_n 0, 1) := by decide +kernel
theorem dX12_areLike_13 : decode cX12_areLike 13 = .ok (.getfield 19, 3) := by decide +kernel
theorem dX12_areLike_16 : decode cX12_areLike 16 = .ok (.iconst 5, 1) := by decide +kernel
theorem dX12_areLike_17 : decode cX12_areLike 17 = .ok (.iload_n 1, 1) := by decide +kernel
theorem dX12_areLike_18 : decode cX12_areLike 18 = .ok (.imul, 1) := by decide +kernel
theorem dX12_areLike_19 : decode cX12_areLike 19 = .ok (.iload 4, 2) := by decide +kernel
theorem dX12_areLike_21 : decode cX12_areLike 21 = .ok (.iadd, 1) := by decide +kernel
theorem dX12_areLike_22 : decode cX12_areLike 22 = .ok (.iaload, 1) := by decide +kernel
theorem dX12_areLike_23 : decode cX12_areLike 23 = .ok (.aload_n 0, 1) := by decide +kernel
theorem dX12_areLike_24 : decode cX12_areLike 24 = .ok (.getfield 19, 3) := by decide +kernel
theorem dX12_areLike_27 : decode cX12_areLike 27 = .ok (.iconst 5, 1) := by decide +kernel
theorem dX12_areLike_28 : decode cX12_areLike 28 = .ok (.iload_n 2, 1) := by decide +kernel
theorem dX12_areLike_29 : decode cX12_areLike 29 = .ok (.imul, 1) := by decide +kernel
theorem dX12_areLike_30 : decode cX12_areLike 30 = .ok (.iload 4, 2) := by decide +kernel
theorem dX12_areLike_32 : decode cX12_areLike 32 = .ok (.iadd, 1) := by decide +kernel
theorem dX12_areLike_33 : decode cX12_areLike 33 = .ok (.iaload, 1) := by decide +kernel
theorem dX12_areLike_34 : decode cX12_areLike 34 = .ok (.if_icmp .ne 7, 3) := by decide +kernel
theorem dX12_areLike_37 : decode cX12_areLike 37 = .ok (.iconst 1, 1) := by decide +kernel
theorem dX12_areLike_38 : decode cX12_areLike 38 = .ok (.goto 4, 3) := by decide +kernel
theorem dX12_areLike_41 : decode cX12_areLike 41 = .ok (.iconst 0, 1) := by decide +kernel
theorem dX12_areLike_42 : decode cX12_areLike 42 = .ok (.iand, 1) := by decide +kernel
theorem dX12_areLike_43 : decode cX12_areLike 43 = .ok (.istore_n 3, 1) := by decide +kernel
theorem dX12_areLike_44 : decode cX12_areLike 44 = .ok (.iinc 4 1, 3) := by decide +kernel
theorem dX12_areLike_47 : decode cX12_areLike 47 = .ok (.goto (-42), 3) := by decide +kernel
theorem dX12_areLike_50 : decode cX12_areLike 50 = .ok (.iload_n 3, 1) := by decide +kernel
theorem dX12_areLike_51 : decode cX12_areLike 51 = .ok (.ireturn, 1) := by decide +kernel
theorem dX12_lettersOf_0 : decode cX12_lettersOf 0 = .ok (.iconst 0, 1) := by decide +kernel
theorem dX12_lettersOf_1 : decode cX12_lettersOf 1 = .ok (.istore_n 2, 1) := by decide +kernel
theorem dX12_lettersOf_2 : decode cX12_lettersOf 2 = .ok (.iload_n 2, 1) := by decide +kernel
theorem dX12_lettersOf_3 : decode cX12_lettersOf 3 = .ok (.iconst 4, 1) := by decide +kernel
theorem dX12_lettersOf_4 : decode cX12_lettersOf 4 = .ok (.if_icmp .ge 22, 3) := by decide +kernel
theorem dX12_lettersOf_7 : decode cX12_lettersOf 7 = .ok (.aload_n 0, 1) := by decide +kernel
theorem dX12_lettersOf_8 : decode cX12_lettersOf 8 = .ok (.getfield 15, 3) := by decide +kernel
theorem dX12_lettersOf_11 : decode cX12_lettersOf 11 = .ok (.iconst 4, 1) := by decide +kernel
theorem dX12_lettersOf_12 : decode cX12_lettersOf 12 = .ok (.iload_n 1, 1) := by decide +kernel
theorem dX12_lettersOf_13 : decode cX12_lettersOf 13 = .ok (.imul, 1) := by decide +kernel
theorem dX12_lettersOf_14 : decode cX12_lettersOf 14 = .ok (.iload_n 2, 1) := by decide +kernel
theorem dX12_lettersOf_15 : decode cX12_lettersOf 15 = .ok (.iadd, 1) := by decide +kernel
theorem dX12_lettersOf_16 : decode cX12_lettersOf 16 = .ok (.iaload, 1) := by decide +kernel
theorem dX12_lettersOf_17 : decode cX12_lettersOf 17 = .ok (.ifCond .eq 9, 3) := by decide +kernel
theorem dX12_lettersOf_20 : decode cX12_lettersOf 20 = .ok (.iinc 2 1, 3) := by decide +kernel
theorem dX12_lettersOf_23 : decode cX12_lettersOf 23 = .ok (.goto (-21), 3) := by decide +kernel
theorem dX12_lettersOf_26 : decode cX12_lettersOf 26 = .ok (.iload_n 2, 1) := by decide +kernel
theorem dX12_lettersOf_27 : decode cX12_lettersOf 27 = .ok (.ireturn, 1) := by decide +kernel
theorem dX12_whose_0 : decode cX12_whose 0 = .ok (.iconst 0, 1) := by decide +kernel
theorem dX12_whose_1 : decode cX12_whose 1 = .ok (.istore_n 3, 1) := by decide +kernel
theorem dX12_whose_2 : decode cX12_whose 2 = .ok (.iload_n 3, 1) := by decide +kernel
theorem dX12_whose_3 : decode cX12_whose 3 = .ok (.aload_n 0, 1) := by decide +kernel
theorem dX12_whose_4 : decode cX12_whose 4 = .ok (.getfield 11, 3) := by decide +kernel
theorem dX12_whose_7 : decode cX12_whose 7 = .ok (.if_icmp .ge 82, 3) := by decide +kernel
theorem dX12_whose_10 : decode cX12_whose 10 = .ok (.aload_n 0, 1) := by decide +kernel
theorem dX12_whose_11 : decode cX12_whose 11 = .ok (.iload_n 3, 1) := by decide +kernel
theorem dX12_whose_12 : decode cX12_whose 12 = .ok (.invokevirtual 165, 3) := by decide +kernel
theorem dX12_whose_15 : decode cX12_whose 15 = .ok (.iload_n 2, 1) := by decide +kernel
theorem dX12_whose_16 : decode cX12_whose 16 = .ok (.if_icmp .ne 7, 3) := by decide +kernel
theorem dX12_whose_19 : decode cX12_whose 19 = .ok (.iconst 1, 1) := by decide +kernel
theorem dX12_whose_20 : decode cX12_whose 20 = .ok (.goto 4, 3) := by decide +kernel
theorem dX12_whose_23 : decode cX12_whose 23 = .ok (.iconst 0, 1) := by decide +kernel
theorem dX12_whose_24 : decode cX12_whose 24 = .ok (.istore 4, 2) := by decide +kernel
theorem dX12_whose_26 : decode cX12_whose 26 = .ok (.iconst 0, 1) := by decide +kernel
theorem dX12_whose_27 : decode cX12_whose 27 = .ok (.istore 5, 2) := by decide +kernel
theorem dX12_whose_29 : decode cX12_whose 29 = .ok (.iload 5, 2) := by decide +kernel
theorem dX12_whose_31 : decode cX12_whose 31 = .ok (.iload_n 2, 1) := by decide +kernel
theorem dX12_whose_32 : decode cX12_whose 32 = .ok (.if_icmp .ge 44, 3) := by decide +kernel
theorem dX12_whose_35 : decode cX12_whose 35 = .ok (.iload 4, 2) := by decide +kernel
theorem dX12_whose_37 : decode cX12_whose 37 = .ok (.ifCond .eq 39, 3) := by decide +kernel
theorem dX12_whose_40 : decode cX12_whose 40 = .ok (.aload_n 0, 1) := by decide +kernel
theorem dX12_whose_41 : decode cX12_whose 41 = .ok (.getfield 15, 3) := by decide +kernel
theorem dX12_whose_44 : decode cX12_whose 44 = .ok (.iconst 4, 1) := by decide +kernel
theorem dX12_whose_45 : decode cX12_whose 45 = .ok (.iload_n 3, 1) := by decide +kernel
theorem dX12_whose_46 : decode cX12_whose 46 = .ok (.imul, 1) := by decide +kernel
theorem dX12_whose_47 : decode cX12_whose 47 = .ok (.iload 5, 2) := by decide +kernel
theorem dX12_whose_49 : decode cX12_whose 49 = .ok (.iadd, 1) := by decide +kernel
theorem dX12_whose_50 : decode cX12_whose 50 = .ok (.iaload, 1) := by decide +kernel
theorem dX12_whose_51 : decode cX12_whose 51 = .ok (.aload_n 0, 1) := by decide +kernel
theorem dX12_whose_52 : decode cX12_whose 52 = .ok (.getfield 59, 3) := by decide +kernel
theorem dX12_whose_55 : decode cX12_whose 55 = .ok (.iload_n 1, 1) := by decide +kernel
theorem dX12_whose_56 : decode cX12_whose 56 = .ok (.iload 5, 2) := by decide +kernel
theorem dX12_whose_58 : decode cX12_whose 58 = .ok (.iadd, 1) := by decide +kernel
theorem dX12_whose_59 : decode cX12_whose 59 = .ok (.iaload, 1) := by decide +kernel
theorem dX12_whose_60 : decode cX12_whose 60 = .ok (.if_icmp .ne 7, 3) := by decide +kernel
theorem dX12_whose_63 : decode cX12_whose 63 = .ok (.iconst 1, 1) := by decide +kernel
theorem dX12_whose_64 : decode cX12_whose 64 = .ok (.goto 4, 3) := by decide +kernel
theorem dX12_whose_67 : decode cX12_whose 67 = .ok (.iconst 0, 1) := by decide +kernel
theorem dX12_whose_68 : decode cX12_whose 68 = .ok (.istore 4, 2) := by decide +kernel
theorem dX12_whose_70 : decode cX12_whose 70 = .ok (.iinc 5 1, 3) := by decide +kernel
theorem dX12_whose_73 : decode cX12_whose 73 = .ok (.goto (-44), 3) := by decide +kernel
theorem dX12_whose_76 : decode cX12_whose 76 = .ok (.iload 4, 2) := by decide +kernel
theorem dX12_whose_78 : decode cX12_whose 78 = .ok (.ifCond .eq 5, 3) := by decide +kernel
theorem dX12_whose_81 : decode cX12_whose 81 = .ok (.iload_n 3, 1) := by decide +kernel
theorem dX12_whose_82 : decode cX12_whose 82 = .ok (.ireturn, 1) := by decide +kernel
theorem dX12_whose_83 : decode cX12_whose 83 = .ok (.iinc 3 1, 3) := by decide +kernel
theorem dX12_whose_86 : decode cX12_whose 86 = .ok (.goto (-84), 3) := by decide +kernel
theorem dX12_whose_89 : decode cX12_whose 89 = .ok (.iconst (-1), 1) := by decide +kernel
theorem dX12_whose_90 : decode cX12_whose 90 = .ok (.ireturn, 1) := by decide +kernel
theorem dX12_feed_0 : decode cX12_feed 0 = .ok (.iload_n 1, 1) := by decide +kernel
theorem dX12_feed_1 : decode cX12_feed 1 = .ok (.i2l, 1) := by decide +kernel
theorem dX12_feed_2 : decode cX12_feed 2 = .ok (.lconst 1, 1) := by decide +kernel
theorem dX12_feed_3 : decode cX12_feed 3 = .ok (.ldc2_w 169, 3) := by decide +kernel
theorem dX12_feed_6 : decode cX12_feed 6 = .ok (.invokestatic 161, 3) := by decide +kernel
theorem dX12_feed_9 : decode cX12_feed 9 = .ok (.ifCond .ne 6, 3) := by decide +kernel
theorem dX12_feed_12 : decode cX12_feed 12 = .ok (.bipush (-2), 2) := by decide +kernel
theorem dX12_feed_14 : decode cX12_feed 14 = .ok (.ireturn, 1) := by decide +kernel
theorem dX12_feed_15 : decode cX12_feed 15 = .ok (.aload_n 0, 1) := by decide +kernel
theorem dX12_feed_16 : decode cX12_feed 16 = .ok (.getfield 171, 3) := by decide +kernel
theorem dX12_feed_19 : decode cX12_feed 19 = .ok (.bipush 60, 2) := by decide +kernel
theorem dX12_feed_21 : decode cX12_feed 21 = .ok (.if_icmp .ne 6, 3) := by decide +kernel
theorem dX12_feed_24 : decode cX12_feed 24 = .ok (.bipush (-4), 2) := by decide +kernel
theorem dX12_feed_26 : decode cX12_feed 26 = .ok (.ireturn, 1) := by decide +kernel
theorem dX12_feed_27 : decode cX12_feed 27 = .ok (.aload_n 0, 1) := by decide +kernel
theorem dX12_feed_28 : decode cX12_feed 28 = .ok (.getfield 59, 3) := by decide +kernel
theorem dX12_feed_31 : decode cX12_feed 31 = .ok (.aload_n 0, 1) := by decide +kernel
theorem dX12_feed_32 : decode cX12_feed 32 = .ok (.getfield 171, 3) := by decide +kernel
theorem dX12_feed_35 : decode cX12_feed 35 = .ok (.iload_n 1, 1) := by decide +kernel
theorem dX12_feed_36 : decode cX12_feed 36 = .ok (.iastore, 1) := by decide +kernel
theorem dX12_feed_37 : decode cX12_feed 37 = .ok (.aload_n 0, 1) := by decide +kernel
theorem dX12_feed_38 : decode cX12_feed 38 = .ok (.dup, 1) := by decide +kernel
theorem dX12_feed_39 : decode cX12_feed 39 = .ok (.getfield 171, 3) := by decide +kernel
theorem dX12_feed_42 : decode cX12_feed 42 = .ok (.iconst 1, 1) := by decide +kernel
theorem dX12_feed_43 : decode cX12_feed 43 = .ok (.iadd, 1) := by decide +kernel
theorem dX12_feed_44 : decode cX12_feed 44 = .ok (.putfield 171, 3) := by decide +kernel
theorem dX12_feed_47 : decode cX12_feed 47 = .ok (.aload_n 0, 1) := by decide +kernel
theorem dX12_feed_48 : decode cX12_feed 48 = .ok (.getfield 171, 3) := by decide +kernel
theorem dX12_feed_51 : decode cX12_feed 51 = .ok (.ireturn, 1) := by decide +kernel
theorem dX12_here_0 : decode cX12_here 0 = .ok (.aload_n 0, 1) := by decide +kernel
theorem dX12_here_1 : decode cX12_here 1 = .ok (.getfield 174, 3) := by decide +kernel
theorem dX12_here_4 : decode cX12_here 4 = .ok (.aload_n 0, 1) := by decide +kernel
theorem dX12_here_5 : decode cX12_here 5 = .ok (.getfield 171, 3) := by decide +kernel
theorem dX12_here_8 : decode cX12_here 8 = .ok (.if_icmp .ge 15, 3) := by decide +kernel
theorem dX12_here_11 : decode cX12_here 11 = .ok (.aload_n 0, 1) := by decide +kernel
theorem dX12_here_12 : decode cX12_here 12 = .ok (.getfield 59, 3) := by decide +kernel
theorem dX12_here_15 : decode cX12_here 15 = .ok (.aload_n 0, 1) := by decide +kernel
theorem dX12_here_16 : decode cX12_here 16 = .ok (.getfield 174, 3) := by decide +kernel
theorem dX12_here_19 : decode cX12_here 19 = .ok (.iaload, 1) := by decide +kernel
theorem dX12_here_20 : decode cX12_here 20 = .ok (.goto 4, 3) := by decide +kernel
theorem dX12_here_23 : decode cX12_here 23 = .ok (.iconst 0, 1) := by decide +kernel
theorem dX12_here_24 : decode cX12_here 24 = .ok (.ireturn, 1) := by decide +kernel
theorem dX12_isLetter_0 : decode cX12_isLetter 0 = .ok (.aload_n 0, 1) := by decide +kernel
theorem dX12_isLetter_1 : decode cX12_isLetter 1 = .ok (.invokevirtual 177, 3) := by decide +kernel
theorem dX12_isLetter_4 : decode cX12_isLetter 4 = .ok (.i2l, 1) := by decide +kernel
theorem dX12_isLetter_5 : decode cX12_isLetter 5 = .ok (.ldc2_w 181, 3) := by decide +kernel
theorem dX12_isLetter_8 : decode cX12_isLetter 8 = .ok (.ldc2_w 183, 3) := by decide +kernel
theorem dX12_isLetter_11 : decode cX12_isLetter 11 = .ok (.invokestatic 161, 3) := by decide +kernel
theorem dX12_isLetter_14 : decode cX12_isLetter 14 = .ok (.ireturn, 1) := by decide +kernel
theorem dX12_isFigure_0 : decode cX12_isFigure 0 = .ok (.aload_n 0, 1) := by decide +kernel
theorem dX12_isFigure_1 : decode cX12_isFigure 1 = .ok (.invokevirtual 177, 3) := by decide +kernel
theorem dX12_isFigure_4 : decode cX12_isFigure 4 = .ok (.i2l, 1) := by decide +kernel
theorem dX12_isFigure_5 : decode cX12_isFigure 5 = .ok (.ldc2_w 185, 3) := by decide +kernel
theorem dX12_isFigure_8 : decode cX12_isFigure 8 = .ok (.ldc2_w 187, 3) := by decide +kernel
theorem dX12_isFigure_11 : decode cX12_isFigure 11 = .ok (.invokestatic 161, 3) := by decide +kernel
theorem dX12_isFigure_14 : decode cX12_isFigure 14 = .ok (.ireturn, 1) := by decide +kernel
theorem dX12_fails_0 : decode cX12_fails 0 = .ok (.aload_n 0, 1) := by decide +kernel
theorem dX12_fails_1 : decode cX12_fails 1 = .ok (.getfield 189, 3) := by decide +kernel
theorem dX12_fails_4 : decode cX12_fails 4 = .ok (.ifCond .ge 11, 3) := by decide +kernel
theorem dX12_fails_7 : decode cX12_fails 7 = .ok (.aload_n 0, 1) := by decide +kernel
theorem dX12_fails_8 : decode cX12_fails 8 = .ok (.aload_n 0, 1) := by decide +kernel
theorem dX12_fails_9 : decode cX12_fails 9 = .ok (.getfield 174, 3) := by decide +kernel
theorem dX12_fails_12 : decode cX12_fails 12 = .ok (.putfield 189, 3) := by decide +kernel
theorem dX12_fails_15 : decode cX12_fails 15 = .ok (.return_, 1) := by decide +kernel
theorem dX12_must_0 : decode cX12_must 0 = .ok (.aload_n 0, 1) := by decide +kernel
theorem dX12_must_1 : decode cX12_must 1 = .ok (.getfield 189, 3) := by decide +kernel
theorem dX12_must_4 : decode cX12_must 4 = .ok (.ifCond .lt 4, 3) := by decide +kernel
theorem dX12_must_7 : decode cX12_must 7 = .ok (.return_, 1) := by decide +kernel
theorem dX12_must_8 : decode cX12_must 8 = .ok (.aload_n 0, 1) := by decide +kernel
theorem dX12_must_9 : decode cX12_must 9 = .ok (.invokevirtual 177, 3) := by decide +kernel
theorem dX12_must_12 : decode cX12_must 12 = .ok (.iload_n 1, 1) := by decide +kernel
theorem dX12_must_13 : decode cX12_must 13 = .ok (.if_icmp .eq 10, 3) := by decide +kernel
theorem dX12_must_16 : decode cX12_must 16 = .ok (.aload_n 0, 1) := by decide +kernel
theorem dX12_must_17 : decode cX12_must 17 = .ok (.invokevirtual 192, 3) := by decide +kernel
theorem dX12_must_20 : decode cX12_must 20 = .ok (.goto 13, 3) := by decide +kernel
theorem dX12_must_23 : decode cX12_must 23 = .ok (.aload_n 0, 1) := by decide +kernel
theorem dX12_must_24 : decode cX12_must 24 = .ok (.dup, 1) := by decide +kernel
theorem dX12_must_25 : decode cX12_must 25 = .ok (.getfield 174, 3) := by decide +kernel
theorem dX12_must_28 : decode cX12_must 28 = .ok (.iconst 1, 1) := by decide +kernel
theorem dX12_must_29 : decode cX12_must 29 = .ok (.iadd, 1) := by decide +kernel
theorem dX12_must_30 : decode cX12_must 30 = .ok (.putfield 174, 3) := by decide +kernel
theorem dX12_must_33 : decode cX12_must 33 = .ok (.return_, 1) := by decide +kernel
theorem dX12_letters_0 : decode cX12_letters 0 = .ok (.aload_n 0, 1) := by decide +kernel
theorem dX12_letters_1 : decode cX12_letters 1 = .ok (.getfield 174, 3) := by decide +kernel
theorem dX12_letters_4 : decode cX12_letters 4 = .ok (.istore_n 1, 1) := by decide +kernel
theorem dX12_letters_5 : decode cX12_letters 5 = .ok (.aload_n 0, 1) := by decide +kernel
theorem dX12_letters_6 : decode cX12_letters 6 = .ok (.getfield 189, 3) := by decide +kernel
theorem dX12_letters_9 : decode cX12_letters 9 = .ok (.ifCond .ge 33, 3) := by decide +kernel
theorem dX12_letters_12 : decode cX12_letters 12 = .ok (.aload_n 0, 1) := by decide +kernel
theorem dX12_letters_13 : decode cX12_letters 13 = .ok (.invokevirtual 195, 3) := by decide +kernel
theorem dX12_letters_16 : decode cX12_letters 16 = .ok (.ifCond .eq 26, 3) := by decide +kernel
theorem dX12_letters_19 : decode cX12_letters 19 = .ok (.aload_n 0, 1) := by decide +kernel
theorem dX12_letters_20 : decode cX12_letters 20 = .ok (.getfield 174, 3) := by decide +kernel
theorem dX12_letters_23 : decode cX12_letters 23 = .ok (.iload_n 1, 1) := by decide +kernel
theorem dX12_letters_24 : decode cX12_letters 24 = .ok (.iconst 4, 1) := by decide +kernel
theorem dX12_letters_25 : decode cX12_letters 25 = .ok (.iadd, 1) := by decide +kernel
theorem dX12_letters_26 : decode cX12_letters 26 = .ok (.if_icmp .ge 16, 3) := by decide +kernel
theorem dX12_letters_29 : decode cX12_letters 29 = .ok (.aload_n 0, 1) := by decide +kernel
theorem dX12_letters_30 : decode cX12_letters 30 = .ok (.dup, 1) := by decide +kernel
theorem dX12_letters_31 : decode cX12_letters 31 = .ok (.getfield 174, 3) := by decide +kernel
theorem dX12_letters_34 : decode cX12_letters 34 = .ok (.iconst 1, 1) := by decide +kernel
theorem dX12_letters_35 : decode cX12_letters 35 = .ok (.iadd, 1) := by decide +kernel
theorem dX12_letters_36 : decode cX12_letters 36 = .ok (.putfield 174, 3) := by decide +kernel
theorem dX12_letters_39 : decode cX12_letters 39 = .ok (.goto (-34), 3) := by decide +kernel
theorem dX12_letters_42 : decode cX12_letters 42 = .ok (.aload_n 0, 1) := by decide +kernel
theorem dX12_letters_43 : decode cX12_letters 43 = .ok (.getfield 174, 3) := by decide +kernel
theorem dX12_letters_46 : decode cX12_letters 46 = .ok (.iload_n 1, 1) := by decide +kernel
theorem dX12_letters_47 : decode cX12_letters 47 = .ok (.if_icmp .eq 10, 3) := by decide +kernel
theorem dX12_letters_50 : decode cX12_letters 50 = .ok (.aload_n 0, 1) := by decide +kernel
theorem dX12_letters_51 : decode cX12_letters 51 = .ok (.invokevirtual 195, 3) := by decide +kernel
theorem dX12_letters_54 : decode cX12_letters 54 = .ok (.ifCond .eq 7, 3) := by decide +kernel
theorem dX12_letters_57 : decode cX12_letters 57 = .ok (.aload_n 0, 1) := by decide +kernel
theorem dX12_letters_58 : decode cX12_letters 58 = .ok (.invokevirtual 192, 3) := by decide +kernel
theorem dX12_letters_61 : decode cX12_letters 61 = .ok (.aload_n 0, 1) := by decide +kernel
theorem dX12_letters_62 : decode cX12_letters 62 = .ok (.getfield 174, 3) := by decide +kernel
theorem dX12_letters_65 : decode cX12_letters 65 = .ok (.iload_n 1, 1) := by decide +kernel
theorem dX12_letters_66 : decode cX12_letters 66 = .ok (.isub, 1) := by decide +kernel
theorem dX12_letters_67 : decode cX12_letters 67 = .ok (.ireturn, 1) := by decide +kernel
theorem dX12_figures_0 : decode cX12_figures 0 = .ok (.aload_n 0, 1) := by decide +kernel
theorem dX12_figures_1 : decode cX12_figures 1 = .ok (.getfield 174, 3) := by decide +kernel
theorem dX12_figures_4 : decode cX12_figures 4 = .ok (.istore_n 2, 1) := by decide +kernel
theorem dX12_figures_5 : decode cX12_figures 5 = .ok (.iconst 0, 1) := by decide +kernel
theorem dX12_figures_6 : decode cX12_figures 6 = .ok (.istore_n 3, 1) := by decide +kernel
theorem dX12_figures_7 : decode cX12_figures 7 = .ok (.aload_n 0, 1) := by decide +kernel
theorem dX12_figures_8 : decode cX12_figures 8 = .ok (.getfield 189, 3) := by decide +kernel
theorem dX12_figures_11 : decode cX12_figures 11 = .ok (.ifCond .ge 46, 3) := by decide +kernel
theorem dX12_figures_14 : decode cX12_figures 14 = .ok (.aload_n 0, 1) := by decide +kernel
theorem dX12_figures_15 : decode cX12_figures 15 = .ok (.invokevirtual 199, 3) := by decide +kernel
theorem dX12_figures_18 : decode cX12_figures 18 = .ok (.ifCond .eq 39, 3) := by decide +kernel
theorem dX12_figures_21 : decode cX12_figures 21 = .ok (.aload_n 0, 1) := by decide +kernel
theorem dX12_figures_22 : decode cX12_figures 22 = .ok (.getfield 174, 3) := by decide +kernel
theorem dX12_figures_25 : decode cX12_figures 25 = .ok (.iload_n 2, 1) := by decide +kernel
theorem dX12_figures_26 : decode cX12_figures 26 = .ok (.iload_n 1, 1) := by decide +kernel
theorem dX12_figures_27 : decode cX12_figures 27 = .ok (.iadd, 1) := by decide +kernel
theorem dX12_figures_28 : decode cX12_figures 28 = .ok (.if_icmp .ge 29, 3) := by decide +kernel
theorem dX12_figures_31 : decode cX12_figures 31 = .ok (.bipush 10, 2) := by decide +kernel
theorem dX12_figures_33 : decode cX12_figures 33 = .ok (.iload_n 3, 1) := by decide +kernel
theorem dX12_figures_34 : decode cX12_figures 34 = .ok (.imul, 1) := by decide +kernel
theorem dX12_figures_35 : decode cX12_figures 35 = .ok (.aload_n 0, 1) := by decide +kernel
theorem dX12_figures_36 : decode cX12_figures 36 = .ok (.invokevirtual 177, 3) := by decide +kernel
theorem dX12_figures_39 : decode cX12_figures 39 = .ok (.iadd, 1) := by decide +kernel
theorem dX12_figures_40 : decode cX12_figures 40 = .ok (.bipush 48, 2) := by decide +kernel
theorem dX12_figures_42 : decode cX12_figures 42 = .ok (.isub, 1) := by decide +kernel
theorem dX12_figures_43 : decode cX12_figures 43 = .ok (.istore_n 3, 1) := by decide +kernel
theorem dX12_figures_44 : decode cX12_figures 44 = .ok (.aload_n 0, 1) := by decide +kernel
theorem dX12_figures_45 : decode cX12_figures 45 = .ok (.dup, 1) := by decide +kernel
theorem dX12_figures_46 : decode cX12_figures 46 = .ok (.getfield 174, 3) := by decide +kernel
theorem dX12_figures_49 : decode cX12_figures 49 = .ok (.iconst 1, 1) := by decide +kernel
theorem dX12_figures_50 : decode cX12_figures 50 = .ok (.iadd, 1) := by decide +kernel
theorem dX12_figures_51 : decode cX12_figures 51 = .ok (.putfield 174, 3) := by decide +kernel
theorem dX12_figures_54 : decode cX12_figures 54 = .ok (.goto (-47), 3) := by decide +kernel
theorem dX12_figures_57 : decode cX12_figures 57 = .ok (.aload_n 0, 1) := by decide +kernel
theorem dX12_figures_58 : decode cX12_figures 58 = .ok (.getfield 174, 3) := by decide +kernel
theorem dX12_figures_61 : decode cX12_figures 61 = .ok (.iload_n 2, 1) := by decide +kernel
theorem dX12_figures_62 : decode cX12_figures 62 = .ok (.if_icmp .eq 10, 3) := by decide +kernel
theorem dX12_figures_65 : decode cX12_figures 65 = .ok (.aload_n 0, 1) := by decide +kernel
theorem dX12_figures_66 : decode cX12_figures 66 = .ok (.invokevirtual 199, 3) := by decide +kernel
theorem dX12_figures_69 : decode cX12_figures 69 = .ok (.ifCond .eq 7, 3) := by decide +kernel
theorem dX12_figures_72 : decode cX12_figures 72 = .ok (.aload_n 0, 1) := by decide +kernel
theorem dX12_figures_73 : decode cX12_figures 73 = .ok (.invokevirtual 192, 3) := by decide +kernel
theorem dX12_figures_76 : decode cX12_figures 76 = .ok (.iload_n 3, 1) := by decide +kernel
theorem dX12_figures_77 : decode cX12_figures 77 = .ok (.ireturn, 1) := by decide +kernel
theorem dX12_figure_0 : decode cX12_figure 0 = .ok (.aload_n 0, 1) := by decide +kernel
theorem dX12_figure_1 : decode cX12_figure 1 = .ok (.getfield 189, 3) := by decide +kernel
theorem dX12_figure_4 : decode cX12_figure 4 = .ok (.ifCond .ge 20, 3) := by decide +kernel
theorem dX12_figure_7 : decode cX12_figure 7 = .ok (.aload_n 0, 1) := by decide +kernel
theorem dX12_figure_8 : decode cX12_figure 8 = .ok (.invokevirtual 177, 3) := by decide +kernel
theorem dX12_figure_11 : decode cX12_figure 11 = .ok (.i2l, 1) := by decide +kernel
theorem dX12_figure_12 : decode cX12_figure 12 = .ok (.ldc2_w 202, 3) := by decide +kernel
theorem dX12_figure_15 : decode cX12_figure 15 = .ok (.ldc2_w 204, 3) := by decide +kernel
theorem dX12_figure_18 : decode cX12_figure 18 = .ok (.invokestatic 161, 3) := by decide +kernel
theorem dX12_figure_21 : decode cX12_figure 21 = .ok (.ifCond .ne 5, 3) := by decide +kernel
theorem dX12_figure_24 : decode cX12_figure 24 = .ok (.iconst 1, 1) := by decide +kernel
theorem dX12_figure_25 : decode cX12_figure 25 = .ok (.ireturn, 1) := by decide +kernel
theorem dX12_figure_26 : decode cX12_figure 26 = .ok (.aload_n 0, 1) := by decide +kernel
theorem dX12_figure_27 : decode cX12_figure 27 = .ok (.dup, 1) := by decide +kernel
theorem dX12_figure_28 : decode cX12_figure 28 = .ok (.getfield 174, 3) := by decide +kernel
theorem dX12_figure_31 : decode cX12_figure 31 = .ok (.iconst 1, 1) := by decide +kernel
theorem dX12_figure_32 : decode cX12_figure 32 = .ok (.iadd, 1) := by decide +kernel
theorem dX12_figure_33 : decode cX12_figure 33 = .ok (.putfield 174, 3) := by decide +kernel
theorem dX12_figure_36 : decode cX12_figure 36 = .ok (.aload_n 0, 1) := by decide +kernel
theorem dX12_figure_37 : decode cX12_figure 37 = .ok (.getfield 59, 3) := by decide +kernel
theorem dX12_figure_40 : decode cX12_figure 40 = .ok (.aload_n 0, 1) := by decide +kernel
theorem dX12_figure_41 : decode cX12_figure 41 = .ok (.getfield 174, 3) := by decide +kernel
theorem dX12_figure_44 : decode cX12_figure 44 = .ok (.iconst 1, 1) := by decide +kernel
theorem dX12_figure_45 : decode cX12_figure 45 = .ok (.isub, 1) := by decide +kernel
theorem dX12_figure_46 : decode cX12_figure 46 = .ok (.iaload, 1) := by decide +kernel
theorem dX12_figure_47 : decode cX12_figure 47 = .ok (.bipush 48, 2) := by decide +kernel
theorem dX12_figure_49 : decode cX12_figure 49 = .ok (.isub, 1) := by decide +kernel
theorem dX12_figure_50 : decode cX12_figure 50 = .ok (.ireturn, 1) := by decide +kernel
theorem dX12_below_0 : decode cX12_below 0 = .ok (.aload_n 0, 1) := by decide +kernel
theorem dX12_below_1 : decode cX12_below 1 = .ok (.getfield 189, 3) := by decide +kernel
theorem dX12_below_4 : decode cX12_below 4 = .ok (.ifCond .ge 12, 3) := by decide +kernel
theorem dX12_below_7 : decode cX12_below 7 = .ok (.aload_n 0, 1) := by decide +kernel
theorem dX12_below_8 : decode cX12_below 8 = .ok (.invokevirtual 177, 3) := by decide +kernel
theorem dX12_below_11 : decode cX12_below 11 = .ok (.bipush 47, 2) := by decide +kernel
theorem dX12_below_13 : decode cX12_below 13 = .ok (.if_icmp .eq 5, 3) := by decide +kernel
theorem dX12_below_16 : decode cX12_below 16 = .ok (.iconst 1, 1) := by decide +kernel
theorem dX12_below_17 : decode cX12_below 17 = .ok (.ireturn, 1) := by decide +kernel
theorem dX12_below_18 : decode cX12_below 18 = .ok (.aload_n 0, 1) := by decide +kernel
theorem dX12_below_19 : decode cX12_below 19 = .ok (.dup, 1) := by decide +kernel
theorem dX12_below_20 : decode cX12_below 20 = .ok (.getfield 174, 3) := by decide +kernel
theorem dX12_below_23 : decode cX12_below 23 = .ok (.iconst 1, 1) := by decide +kernel
theorem dX12_below_24 : decode cX12_below 24 = .ok (.iadd, 1) := by decide +kernel
theorem dX12_below_25 : decode cX12_below 25 = .ok (.putfield 174, 3) := by decide +kernel
theorem dX12_below_28 : decode cX12_below 28 = .ok (.aload_n 0, 1) := by decide +kernel
theorem dX12_below_29 : decode cX12_below 29 = .ok (.bipush 6, 2) := by decide +kernel
theorem dX12_below_31 : decode cX12_below 31 = .ok (.invokevirtual 206, 3) := by decide +kernel
theorem dX12_below_34 : decode cX12_below 34 = .ok (.ireturn, 1) := by decide +kernel
theorem dX12_product_0 : decode cX12_product 0 = .ok (.iconst 1, 1) := by decide +kernel
theorem dX12_product_1 : decode cX12_product 1 = .ok (.istore_n 1, 1) := by decide +kernel
theorem dX12_product_2 : decode cX12_product 2 = .ok (.aload_n 0, 1) := by decide +kernel
theorem dX12_product_3 : decode cX12_product 3 = .ok (.iconst 0, 1) := by decide +kernel
theorem dX12_product_4 : decode cX12_product 4 = .ok (.putfield 209, 3) := by decide +kernel
theorem dX12_product_7 : decode cX12_product 7 = .ok (.aload_n 0, 1) := by decide +kernel
theorem dX12_product_8 : decode cX12_product 8 = .ok (.getfield 189, 3) := by decide +kernel
theorem dX12_product_11 : decode cX12_product 11 = .ok (.ifCond .ge 109, 3) := by decide +kernel
theorem dX12_product_14 : decode cX12_product 14 = .ok (.aload_n 0, 1) := by decide +kernel
theorem dX12_product_15 : decode cX12_product 15 = .ok (.getfield 62, 3) := by decide +kernel
theorem dX12_product_18 : decode cX12_product 18 = .ok (.aload_n 0, 1) := by decide +kernel
theorem dX12_product_19 : decode cX12_product 19 = .ok (.getfield 209, 3) := by decide +kernel
theorem dX12_product_22 : decode cX12_product 22 = .ok (.aload_n 0, 1) := by decide +kernel
theorem dX12_product_23 : decode cX12_product 23 = .ok (.getfield 174, 3) := by decide +kernel
theorem dX12_product_26 : decode cX12_product 26 = .ok (.iastore, 1) := by decide +kernel
theorem dX12_product_27 : decode cX12_product 27 = .ok (.aload_n 0, 1) := by decide +kernel
theorem dX12_product_28 : decode cX12_product 28 = .ok (.getfield 65, 3) := by decide +kernel
theorem dX12_product_31 : decode cX12_product 31 = .ok (.aload_n 0, 1) := by decide +kernel
theorem dX12_product_32 : decode cX12_product 32 = .ok (.getfield 209, 3) := by decide +kernel
theorem dX12_product_35 : decode cX12_product 35 = .ok (.aload_n 0, 1) := by decide +kernel
theorem dX12_product_36 : decode cX12_product 36 = .ok (.invokevirtual 212, 3) := by decide +kernel
theorem dX12_product_39 : decode cX12_product 39 = .ok (.iastore, 1) := by decide +kernel
theorem dX12_product_40 : decode cX12_product 40 = .ok (.aload_n 0, 1) := by decide +kernel
theorem dX12_product_41 : decode cX12_product 41 = .ok (.getfield 68, 3) := by decide +kernel
theorem dX12_product_44 : decode cX12_product 44 = .ok (.aload_n 0, 1) := by decide +kernel
theorem dX12_product_45 : decode cX12_product 45 = .ok (.getfield 209, 3) := by decide +kernel
theorem dX12_product_48 : decode cX12_product 48 = .ok (.aload_n 0, 1) := by decide +kernel
theorem dX12_product_49 : decode cX12_product 49 = .ok (.invokevirtual 215, 3) := by decide +kernel
theorem dX12_product_52 : decode cX12_product 52 = .ok (.iastore, 1) := by decide +kernel
theorem dX12_product_53 : decode cX12_product 53 = .ok (.aload_n 0, 1) := by decide +kernel
theorem dX12_product_54 : decode cX12_product 54 = .ok (.getfield 71, 3) := by decide +kernel
theorem dX12_product_57 : decode cX12_product 57 = .ok (.aload_n 0, 1) := by decide +kernel
theorem dX12_product_58 : decode cX12_product 58 = .ok (.getfield 209, 3) := by decide +kernel
theorem dX12_product_61 : decode cX12_product 61 = .ok (.iload_n 1, 1) := by decide +kernel
theorem dX12_product_62 : decode cX12_product 62 = .ok (.iastore, 1) := by decide +kernel
theorem dX12_product_63 : decode cX12_product 63 = .ok (.aload_n 0, 1) := by decide +kernel
theorem dX12_product_64 : decode cX12_product 64 = .ok (.dup, 1) := by decide +kernel
theorem dX12_product_65 : decode cX12_product 65 = .ok (.getfield 209, 3) := by decide +kernel
theorem dX12_product_68 : decode cX12_product 68 = .ok (.iconst 1, 1) := by decide +kernel
theorem dX12_product_69 : decode cX12_product 69 = .ok (.iadd, 1) := by decide +kernel
theorem dX12_product_70 : decode cX12_product 70 = .ok (.putfield 209, 3) := by decide +kernel
theorem dX12_product_73 : decode cX12_product 73 = .ok (.aload_n 0, 1) := by decide +kernel
theorem dX12_product_74 : decode cX12_product 74 = .ok (.invokevirtual 177, 3) := by decide +kernel
theorem dX12_product_77 : decode cX12_product 77 = .ok (.bipush 42, 2) := by decide +kernel
theorem dX12_product_79 : decode cX12_product 79 = .ok (.if_icmp .eq 13, 3) := by decide +kernel
theorem dX12_product_82 : decode cX12_product 82 = .ok (.aload_n 0, 1) := by decide +kernel
theorem dX12_product_83 : decode cX12_product 83 = .ok (.invokevirtual 177, 3) := by decide +kernel
theorem dX12_product_86 : decode cX12_product 86 = .ok (.bipush 47, 2) := by decide +kernel
theorem dX12_product_88 : decode cX12_product 88 = .ok (.if_icmp .eq 4, 3) := by decide +kernel
theorem dX12_product_91 : decode cX12_product 91 = .ok (.return_, 1) := by decide +kernel
theorem dX12_product_92 : decode cX12_product 92 = .ok (.aload_n 0, 1) := by decide +kernel
theorem dX12_product_93 : decode cX12_product 93 = .ok (.invokevirtual 177, 3) := by decide +kernel
theorem dX12_product_96 : decode cX12_product 96 = .ok (.bipush 42, 2) := by decide +kernel
theorem dX12_product_98 : decode cX12_product 98 = .ok (.if_icmp .ne 7, 3) := by decide +kernel
theorem dX12_product_101 : decode cX12_product 101 = .ok (.iconst 1, 1) := by decide +kernel
theorem dX12_product_102 : decode cX12_product 102 = .ok (.goto 4, 3) := by decide +kernel
theorem dX12_product_105 : decode cX12_product 105 = .ok (.iconst (-1), 1) := by decide +kernel
theorem dX12_product_106 : decode cX12_product 106 = .ok (.istore_n 1, 1) := by decide +kernel
theorem dX12_product_107 : decode cX12_product 107 = .ok (.aload_n 0, 1) := by decide +kernel
theorem dX12_product_108 : decode cX12_product 108 = .ok (.dup, 1) := by decide +kernel
theorem dX12_product_109 : decode cX12_product 109 = .ok (.getfield 174, 3) := by decide +kernel
theorem dX12_product_112 : decode cX12_product 112 = .ok (.iconst 1, 1) := by decide +kernel
theorem dX12_product_113 : decode cX12_product 113 = .ok (.iadd, 1) := by decide +kernel
theorem dX12_product_114 : decode cX12_product 114 = .ok (.putfield 174, 3) := by decide +kernel
theorem dX12_product_117 : decode cX12_product 117 = .ok (.goto (-110), 3) := by decide +kernel
theorem dX12_product_120 : decode cX12_product 120 = .ok (.return_, 1) := by decide +kernel
theorem dX12_defined_0 : decode cX12_defined 0 = .ok (.aload_n 0, 1) := by decide +kernel
theorem dX12_defined_1 : decode cX12_defined 1 = .ok (.invokevirtual 212, 3) := by decide +kernel
theorem dX12_defined_4 : decode cX12_defined 4 = .ok (.istore_n 1, 1) := by decide +kernel
theorem dX12_defined_5 : decode cX12_defined 5 = .ok (.aload_n 0, 1) := by decide +kernel
theorem dX12_defined_6 : decode cX12_defined 6 = .ok (.bipush 61, 2) := by decide +kernel
theorem dX12_defined_8 : decode cX12_defined 8 = .ok (.invokevirtual 218, 3) := by decide +kernel
theorem dX12_defined_11 : decode cX12_defined 11 = .ok (.aload_n 0, 1) := by decide +kernel
theorem dX12_defined_12 : decode cX12_defined 12 = .ok (.aload_n 0, 1) := by decide +kernel
theorem dX12_defined_13 : decode cX12_defined 13 = .ok (.getfield 189, 3) := by decide +kernel
theorem dX12_defined_16 : decode cX12_defined 16 = .ok (.ifCond .ge 12, 3) := by decide +kernel
theorem dX12_defined_19 : decode cX12_defined 19 = .ok (.aload_n 0, 1) := by decide +kernel
theorem dX12_defined_20 : decode cX12_defined 20 = .ok (.bipush 6, 2) := by decide +kernel
theorem dX12_defined_22 : decode cX12_defined 22 = .ok (.invokevirtual 206, 3) := by decide +kernel
theorem dX12_defined_25 : decode cX12_defined 25 = .ok (.goto 4, 3) := by decide +kernel
theorem dX12_defined_28 : decode cX12_defined 28 = .ok (.iconst 0, 1) := by decide +kernel
theorem dX12_defined_29 : decode cX12_defined 29 = .ok (.putfield 222, 3) := by decide +kernel
theorem dX12_defined_32 : decode cX12_defined 32 = .ok (.aload_n 0, 1) := by decide +kernel
theorem dX12_defined_33 : decode cX12_defined 33 = .ok (.aload_n 0, 1) := by decide +kernel
theorem dX12_defined_34 : decode cX12_defined 34 = .ok (.invokevirtual 225, 3) := by decide +kernel
theorem dX12_defined_37 : decode cX12_defined 37 = .ok (.putfield 228, 3) := by decide +kernel
theorem dX12_defined_40 : decode cX12_defined 40 = .ok (.aload_n 0, 1) := by decide +kernel
theorem dX12_defined_41 : decode cX12_defined 41 = .ok (.invokevirtual 231, 3) := by decide +kernel
theorem dX12_defined_44 : decode cX12_defined 44 = .ok (.aload_n 0, 1) := by decide +kernel
theorem dX12_defined_45 : decode cX12_defined 45 = .ok (.iconst 0, 1) := by decide +kernel
theorem dX12_defined_46 : decode cX12_defined 46 = .ok (.putfield 234, 3) := by decide +kernel
theorem dX12_defined_49 : decode cX12_defined 49 = .ok (.aload_n 0, 1) := by decide +kernel
theorem dX12_defined_50 : decode cX12_defined 50 = .ok (.iconst 1, 1) := by decide +kernel
theorem dX12_defined_51 : decode cX12_defined 51 = .ok (.putfield 237, 3) := by decide +kernel
theorem dX12_defined_54 : decode cX12_defined 54 = .ok (.aload_n 0, 1) := by decide +kernel
theorem dX12_defined_55 : decode cX12_defined 55 = .ok (.getfield 189, 3) := by decide +kernel
theorem dX12_defined_58 : decode cX12_defined 58 = .ok (.ifCond .ge 67, 3) := by decide +kernel
theorem dX12_defined_61 : decode cX12_defined 61 = .ok (.aload_n 0, 1) := by decide +kernel
theorem dX12_defined_62 : decode cX12_defined 62 = .ok (.invokevirtual 177, 3) := by decide +kernel
theorem dX12_defined_65 : decode cX12_defined 65 = .ok (.bipush 43, 2) := by decide +kernel
theorem dX12_defined_67 : decode cX12_defined 67 = .ok (.if_icmp .eq 12, 3) := by decide +kernel
theorem dX12_defined_70 : decode cX12_defined 70 = .ok (.aload_n 0, 1) := by decide +kernel
theorem dX12_defined_71 : decode cX12_defined 71 = .ok (.invokevirtual 177, 3) := by decide +kernel
theorem dX12_defined_74 : decode cX12_defined 74 = .ok (.bipush 45, 2) := by decide +kernel
theorem dX12_defined_76 : decode cX12_defined 76 = .ok (.if_icmp .ne 49, 3) := by decide +kernel
theorem dX12_defined_79 : decode cX12_defined 79 = .ok (.aload_n 0, 1) := by decide +kernel
theorem dX12_defined_80 : decode cX12_defined 80 = .ok (.aload_n 0, 1) := by decide +kernel
theorem dX12_defined_81 : decode cX12_defined 81 = .ok (.invokevirtual 177, 3) := by decide +kernel
theorem dX12_defined_84 : decode cX12_defined 84 = .ok (.bipush 43, 2) := by decide +kernel
theorem dX12_defined_86 : decode cX12_defined 86 = .ok (.if_icmp .ne 7, 3) := by decide +kernel
theorem dX12_defined_89 : decode cX12_defined 89 = .ok (.iconst 1, 1) := by decide +kernel
theorem dX12_defined_90 : decode cX12_defined 90 = .ok (.goto 4, 3) := by decide +kernel
theorem dX12_defined_93 : decode cX12_defined 93 = .ok (.iconst (-1), 1) := by decide +kernel
theorem dX12_defined_94 : decode cX12_defined 94 = .ok (.putfield 234, 3) := by decide +kernel
theorem dX12_defined_97 : decode cX12_defined 97 = .ok (.aload_n 0, 1) := by decide +kernel
theorem dX12_defined_98 : decode cX12_defined 98 = .ok (.dup, 1) := by decide +kernel
theorem dX12_defined_99 : decode cX12_defined 99 = .ok (.getfield 174, 3) := by decide +kernel
theorem dX12_defined_102 : decode cX12_defined 102 = .ok (.iconst 1, 1) := by decide +kernel
theorem dX12_defined_103 : decode cX12_defined 103 = .ok (.iadd, 1) := by decide +kernel
theorem dX12_defined_104 : decode cX12_defined 104 = .ok (.putfield 174, 3) := by decide +kernel
theorem dX12_defined_107 : decode cX12_defined 107 = .ok (.aload_n 0, 1) := by decide +kernel
theorem dX12_defined_108 : decode cX12_defined 108 = .ok (.aload_n 0, 1) := by decide +kernel
theorem dX12_defined_109 : decode cX12_defined 109 = .ok (.bipush 6, 2) := by decide +kernel
theorem dX12_defined_111 : decode cX12_defined 111 = .ok (.invokevirtual 206, 3) := by decide +kernel
theorem dX12_defined_114 : decode cX12_defined 114 = .ok (.putfield 240, 3) := by decide +kernel
theorem dX12_defined_117 : decode cX12_defined 117 = .ok (.aload_n 0, 1) := by decide +kernel
theorem dX12_defined_118 : decode cX12_defined 118 = .ok (.aload_n 0, 1) := by decide +kernel
theorem dX12_defined_119 : decode cX12_defined 119 = .ok (.invokevirtual 225, 3) := by decide +kernel
theorem dX12_defined_122 : decode cX12_defined 122 = .ok (.putfield 237, 3) := by decide +kernel
theorem dX12_defined_125 : decode cX12_defined 125 = .ok (.aload_n 0, 1) := by decide +kernel
theorem dX12_defined_126 : decode cX12_defined 126 = .ok (.getfield 174, 3) := by decide +kernel
theorem dX12_defined_129 : decode cX12_defined 129 = .ok (.aload_n 0, 1) := by decide +kernel
theorem dX12_defined_130 : decode cX12_defined 130 = .ok (.getfield 171, 3) := by decide +kernel
theorem dX12_defined_133 : decode cX12_defined 133 = .ok (.if_icmp .ge 7, 3) := by decide +kernel
theorem dX12_defined_136 : decode cX12_defined 136 = .ok (.aload_n 0, 1) := by decide +kernel
theorem dX12_defined_137 : decode cX12_defined 137 = .ok (.invokevirtual 192, 3) := by decide +kernel
theorem dX12_defined_140 : decode cX12_defined 140 = .ok (.iload_n 1, 1) := by decide +kernel
theorem dX12_defined_141 : decode cX12_defined 141 = .ok (.ireturn, 1) := by decide +kernel
theorem dX12_wrongWith_0 : decode cX12_wrongWith 0 = .ok (.aload_n 0, 1) := by decide +kernel
theorem dX12_wrongWith_1 : decode cX12_wrongWith 1 = .ok (.getfield 222, 3) := by decide +kernel
theorem dX12_wrongWith_4 : decode cX12_wrongWith 4 = .ok (.ifCond .eq 10, 3) := by decide +kernel
theorem dX12_wrongWith_7 : decode cX12_wrongWith 7 = .ok (.aload_n 0, 1) := by decide +kernel
theorem dX12_wrongWith_8 : decode cX12_wrongWith 8 = .ok (.getfield 228, 3) := by decide +kernel
theorem dX12_wrongWith_11 : decode cX12_wrongWith 11 = .ok (.ifCond .ne 6, 3) := by decide +kernel
theorem dX12_wrongWith_14 : decode cX12_wrongWith 14 = .ok (.bipush (-9), 2) := by decide +kernel
theorem dX12_wrongWith_16 : decode cX12_wrongWith 16 = .ok (.ireturn, 1) := by decide +kernel
theorem dX12_wrongWith_17 : decode cX12_wrongWith 17 = .ok (.iconst 0, 1) := by decide +kernel
theorem dX12_wrongWith_18 : decode cX12_wrongWith 18 = .ok (.istore_n 2, 1) := by decide +kernel
theorem dX12_wrongWith_19 : decode cX12_wrongWith 19 = .ok (.iload_n 2, 1) := by decide +kernel
theorem dX12_wrongWith_20 : decode cX12_wrongWith 20 = .ok (.aload_n 0, 1) := by decide +kernel
theorem dX12_wrongWith_21 : decode cX12_wrongWith 21 = .ok (.getfield 209, 3) := by decide +kernel
theorem dX12_wrongWith_24 : decode cX12_wrongWith 24 = .ok (.if_icmp .ge 44, 3) := by decide +kernel
theorem dX12_wrongWith_27 : decode cX12_wrongWith 27 = .ok (.aload_n 0, 1) := by decide +kernel
theorem dX12_wrongWith_28 : decode cX12_wrongWith 28 = .ok (.aload_n 0, 1) := by decide +kernel
theorem dX12_wrongWith_29 : decode cX12_wrongWith 29 = .ok (.getfield 62, 3) := by decide +kernel
theorem dX12_wrongWith_32 : decode cX12_wrongWith 32 = .ok (.iload_n 2, 1) := by decide +kernel
theorem dX12_wrongWith_33 : decode cX12_wrongWith 33 = .ok (.iaload, 1) := by decide +kernel
theorem dX12_wrongWith_34 : decode cX12_wrongWith 34 = .ok (.aload_n 0, 1) := by decide +kernel
theorem dX12_wrongWith_35 : decode cX12_wrongWith 35 = .ok (.getfield 65, 3) := by decide +kernel
theorem dX12_wrongWith_38 : decode cX12_wrongWith 38 = .ok (.iload_n 2, 1) := by decide +kernel
theorem dX12_wrongWith_39 : decode cX12_wrongWith 39 = .ok (.iaload, 1) := by decide +kernel
theorem dX12_wrongWith_40 : decode cX12_wrongWith 40 = .ok (.invokevirtual 243, 3) := by decide +kernel
theorem dX12_wrongWith_43 : decode cX12_wrongWith 43 = .ok (.istore_n 3, 1) := by decide +kernel
theorem dX12_wrongWith_44 : decode cX12_wrongWith 44 = .ok (.iload_n 3, 1) := by decide +kernel
theorem dX12_wrongWith_45 : decode cX12_wrongWith 45 = .ok (.ifCond .ge 6, 3) := by decide +kernel
theorem dX12_wrongWith_48 : decode cX12_wrongWith 48 = .ok (.bipush (-8), 2) := by decide +kernel
theorem dX12_wrongWith_50 : decode cX12_wrongWith 50 = .ok (.ireturn, 1) := by decide +kernel
theorem dX12_wrongWith_51 : decode cX12_wrongWith 51 = .ok (.aload_n 0, 1) := by decide +kernel
theorem dX12_wrongWith_52 : decode cX12_wrongWith 52 = .ok (.iload_n 3, 1) := by decide +kernel
theorem dX12_wrongWith_53 : decode cX12_wrongWith 53 = .ok (.invokevirtual 247, 3) := by decide +kernel
theorem dX12_wrongWith_56 : decode cX12_wrongWith 56 = .ok (.ifCond .eq 6, 3) := by decide +kernel
theorem dX12_wrongWith_59 : decode cX12_wrongWith 59 = .ok (.bipush (-10), 2) := by decide +kernel
theorem dX12_wrongWith_61 : decode cX12_wrongWith 61 = .ok (.ireturn, 1) := by decide +kernel
theorem dX12_wrongWith_62 : decode cX12_wrongWith 62 = .ok (.iinc 2 1, 3) := by decide +kernel
theorem dX12_wrongWith_65 : decode cX12_wrongWith 65 = .ok (.goto (-46), 3) := by decide +kernel
theorem dX12_wrongWith_68 : decode cX12_wrongWith 68 = .ok (.aload_n 0, 1) := by decide +kernel
theorem dX12_wrongWith_69 : decode cX12_wrongWith 69 = .ok (.getfield 237, 3) := by decide +kernel
theorem dX12_wrongWith_72 : decode cX12_wrongWith 72 = .ok (.ifCond .ne 6, 3) := by decide +kernel
theorem dX12_wrongWith_75 : decode cX12_wrongWith 75 = .ok (.bipush (-9), 2) := by decide +kernel
theorem dX12_wrongWith_77 : decode cX12_wrongWith 77 = .ok (.ireturn, 1) := by decide +kernel
theorem dX12_wrongWith_78 : decode cX12_wrongWith 78 = .ok (.aload_n 0, 1) := by decide +kernel
theorem dX12_wrongWith_79 : decode cX12_wrongWith 79 = .ok (.iconst 0, 1) := by decide +kernel
theorem dX12_wrongWith_80 : decode cX12_wrongWith 80 = .ok (.iload_n 1, 1) := by decide +kernel
theorem dX12_wrongWith_81 : decode cX12_wrongWith 81 = .ok (.invokevirtual 243, 3) := by decide +kernel
theorem dX12_wrongWith_84 : decode cX12_wrongWith 84 = .ok (.ifCond .lt 6, 3) := by decide +kernel
theorem dX12_wrongWith_87 : decode cX12_wrongWith 87 = .ok (.bipush (-11), 2) := by decide +kernel
theorem dX12_wrongWith_89 : decode cX12_wrongWith 89 = .ok (.ireturn, 1) := by decide +kernel
theorem dX12_wrongWith_90 : decode cX12_wrongWith 90 = .ok (.aload_n 0, 1) := by decide +kernel
theorem dX12_wrongWith_91 : decode cX12_wrongWith 91 = .ok (.getfield 234, 3) := by decide +kernel
theorem dX12_wrongWith_94 : decode cX12_wrongWith 94 = .ok (.ifCond .eq 26, 3) := by decide +kernel
theorem dX12_wrongWith_97 : decode cX12_wrongWith 97 = .ok (.aload_n 0, 1) := by decide +kernel
theorem dX12_wrongWith_98 : decode cX12_wrongWith 98 = .ok (.getfield 209, 3) := by decide +kernel
theorem dX12_wrongWith_101 : decode cX12_wrongWith 101 = .ok (.iconst 1, 1) := by decide +kernel
theorem dX12_wrongWith_102 : decode cX12_wrongWith 102 = .ok (.if_icmp .gt 13, 3) := by decide +kernel
theorem dX12_wrongWith_105 : decode cX12_wrongWith 105 = .ok (.aload_n 0, 1) := by decide +kernel
theorem dX12_wrongWith_106 : decode cX12_wrongWith 106 = .ok (.getfield 68, 3) := by decide +kernel
theorem dX12_wrongWith_109 : decode cX12_wrongWith 109 = .ok (.iconst 0, 1) := by decide +kernel
theorem dX12_wrongWith_110 : decode cX12_wrongWith 110 = .ok (.iaload, 1) := by decide +kernel
theorem dX12_wrongWith_111 : decode cX12_wrongWith 111 = .ok (.iconst 1, 1) := by decide +kernel
theorem dX12_wrongWith_112 : decode cX12_wrongWith 112 = .ok (.if_icmp .le 8, 3) := by decide +kernel
theorem dX12_wrongWith_115 : decode cX12_wrongWith 115 = .ok (.bipush (-2), 2) := by decide +kernel
theorem dX12_wrongWith_117 : decode cX12_wrongWith 117 = .ok (.goto 4, 3) := by decide +kernel
theorem dX12_wrongWith_120 : decode cX12_wrongWith 120 = .ok (.iconst 0, 1) := by decide +kernel
theorem dX12_wrongWith_121 : decode cX12_wrongWith 121 = .ok (.ireturn, 1) := by decide +kernel
theorem dX12_isWide_0 : decode cX12_isWide 0 = .ok (.iconst 0, 1) := by decide +kernel
theorem dX12_isWide_1 : decode cX12_isWide 1 = .ok (.istore_n 2, 1) := by decide +kernel
theorem dX12_isWide_2 : decode cX12_isWide 2 = .ok (.iconst 0, 1) := by decide +kernel
theorem dX12_isWide_3 : decode cX12_isWide 3 = .ok (.istore_n 3, 1) := by decide +kernel
theorem dX12_isWide_4 : decode cX12_isWide 4 = .ok (.iload_n 3, 1) := by decide +kernel
theorem dX12_isWide_5 : decode cX12_isWide 5 = .ok (.iconst 5, 1) := by decide +kernel
theorem dX12_isWide_6 : decode cX12_isWide 6 = .ok (.if_icmp .ge 30, 3) := by decide +kernel
theorem dX12_isWide_9 : decode cX12_isWide 9 = .ok (.iload_n 2, 1) := by decide +kernel
theorem dX12_isWide_10 : decode cX12_isWide 10 = .ok (.aload_n 0, 1) := by decide +kernel
theorem dX12_isWide_11 : decode cX12_isWide 11 = .ok (.getfield 74, 3) := by decide +kernel
theorem dX12_isWide_14 : decode cX12_isWide 14 = .ok (.iload_n 3, 1) := by decide +kernel
theorem dX12_isWide_15 : decode cX12_isWide 15 = .ok (.iaload, 1) := by decide +kernel
theorem dX12_isWide_16 : decode cX12_isWide 16 = .ok (.invokestatic 251, 3) := by decide +kernel
theorem dX12_isWide_19 : decode cX12_isWide 19 = .ok (.iload_n 1, 1) := by decide +kernel
theorem dX12_isWide_20 : decode cX12_isWide 20 = .ok (.if_icmp .le 7, 3) := by decide +kernel
theorem dX12_isWide_23 : decode cX12_isWide 23 = .ok (.iconst 1, 1) := by decide +kernel
theorem dX12_isWide_24 : decode cX12_isWide 24 = .ok (.goto 4, 3) := by decide +kernel
theorem dX12_isWide_27 : decode cX12_isWide 27 = .ok (.iconst 0, 1) := by decide +kernel
theorem dX12_isWide_28 : decode cX12_isWide 28 = .ok (.ior, 1) := by decide +kernel
theorem dX12_isWide_29 : decode cX12_isWide 29 = .ok (.istore_n 2, 1) := by decide +kernel
theorem dX12_isWide_30 : decode cX12_isWide 30 = .ok (.iinc 3 1, 3) := by decide +kernel
theorem dX12_isWide_33 : decode cX12_isWide 33 = .ok (.goto (-29), 3) := by decide +kernel
theorem dX12_isWide_36 : decode cX12_isWide 36 = .ok (.iload_n 2, 1) := by decide +kernel
theorem dX12_isWide_37 : decode cX12_isWide 37 = .ok (.ireturn, 1) := by decide +kernel
theorem dX12_sums_0 : decode cX12_sums 0 = .ok (.iconst 0, 1) := by decide +kernel
theorem dX12_sums_1 : decode cX12_sums 1 = .ok (.istore_n 3, 1) := by decide +kernel
theorem dX12_sums_2 : decode cX12_sums 2 = .ok (.iload_n 3, 1) := by decide +kernel
theorem dX12_sums_3 : decode cX12_sums 3 = .ok (.iconst 5, 1) := by decide +kernel
theorem dX12_sums_4 : decode cX12_sums 4 = .ok (.if_icmp .ge 30, 3) := by decide +kernel
theorem dX12_sums_7 : decode cX12_sums 7 = .ok (.aload_n 0, 1) := by decide +kernel
theorem dX12_sums_8 : decode cX12_sums 8 = .ok (.getfield 74, 3) := by decide +kernel
theorem dX12_sums_11 : decode cX12_sums 11 = .ok (.iload_n 3, 1) := by decide +kernel
theorem dX12_sums_12 : decode cX12_sums 12 = .ok (.dup2, 1) := by decide +kernel
theorem dX12_sums_13 : decode cX12_sums 13 = .ok (.iaload, 1) := by decide +kernel
theorem dX12_sums_14 : decode cX12_sums 14 = .ok (.iload_n 2, 1) := by decide +kernel
theorem dX12_sums_15 : decode cX12_sums 15 = .ok (.aload_n 0, 1) := by decide +kernel
theorem dX12_sums_16 : decode cX12_sums 16 = .ok (.getfield 19, 3) := by decide +kernel
theorem dX12_sums_19 : decode cX12_sums 19 = .ok (.iconst 5, 1) := by decide +kernel
theorem dX12_sums_20 : decode cX12_sums 20 = .ok (.iload_n 1, 1) := by decide +kernel
theorem dX12_sums_21 : decode cX12_sums 21 = .ok (.imul, 1) := by decide +kernel
theorem dX12_sums_22 : decode cX12_sums 22 = .ok (.iload_n 3, 1) := by decide +kernel
theorem dX12_sums_23 : decode cX12_sums 23 = .ok (.iadd, 1) := by decide +kernel
theorem dX12_sums_24 : decode cX12_sums 24 = .ok (.iaload, 1) := by decide +kernel
theorem dX12_sums_25 : decode cX12_sums 25 = .ok (.imul, 1) := by decide +kernel
theorem dX12_sums_26 : decode cX12_sums 26 = .ok (.iadd, 1) := by decide +kernel
theorem dX12_sums_27 : decode cX12_sums 27 = .ok (.iastore, 1) := by decide +kernel
theorem dX12_sums_28 : decode cX12_sums 28 = .ok (.iinc 3 1, 3) := by decide +kernel
theorem dX12_sums_31 : decode cX12_sums 31 = .ok (.goto (-29), 3) := by decide +kernel
theorem dX12_sums_34 : decode cX12_sums 34 = .ok (.return_, 1) := by decide +kernel
theorem dX12_factors_0 : decode cX12_factors 0 = .ok (.aload_n 0, 1) := by decide +kernel
theorem dX12_factors_1 : decode cX12_factors 1 = .ok (.iconst 0, 1) := by decide +kernel
theorem dX12_factors_2 : decode cX12_factors 2 = .ok (.putfield 133, 3) := by decide +kernel
theorem dX12_factors_5 : decode cX12_factors 5 = .ok (.aload_n 0, 1) := by decide +kernel
theorem dX12_factors_6 : decode cX12_factors 6 = .ok (.aload_n 0, 1) := by decide +kernel
theorem dX12_factors_7 : decode cX12_factors 7 = .ok (.getfield 222, 3) := by decide +kernel
theorem dX12_factors_10 : decode cX12_factors 10 = .ok (.i2l, 1) := by decide +kernel
theorem dX12_factors_11 : decode cX12_factors 11 = .ok (.aload_n 0, 1) := by decide +kernel
theorem dX12_factors_12 : decode cX12_factors 12 = .ok (.getfield 228, 3) := by decide +kernel
theorem dX12_factors_15 : decode cX12_factors 15 = .ok (.i2l, 1) := by decide +kernel
theorem dX12_factors_16 : decode cX12_factors 16 = .ok (.invokevirtual 157, 3) := by decide +kernel
theorem dX12_factors_19 : decode cX12_factors 19 = .ok (.iconst 0, 1) := by decide +kernel
theorem dX12_factors_20 : decode cX12_factors 20 = .ok (.istore_n 1, 1) := by decide +kernel
theorem dX12_factors_21 : decode cX12_factors 21 = .ok (.iload_n 1, 1) := by decide +kernel
theorem dX12_factors_22 : decode cX12_factors 22 = .ok (.aload_n 0, 1) := by decide +kernel
theorem dX12_factors_23 : decode cX12_factors 23 = .ok (.getfield 209, 3) := by decide +kernel
theorem dX12_factors_26 : decode cX12_factors 26 = .ok (.if_icmp .ge 111, 3) := by decide +kernel
theorem dX12_factors_29 : decode cX12_factors 29 = .ok (.aload_n 0, 1) := by decide +kernel
theorem dX12_factors_30 : decode cX12_factors 30 = .ok (.aload_n 0, 1) := by decide +kernel
theorem dX12_factors_31 : decode cX12_factors 31 = .ok (.getfield 62, 3) := by decide +kernel
theorem dX12_factors_34 : decode cX12_factors 34 = .ok (.iload_n 1, 1) := by decide +kernel
theorem dX12_factors_35 : decode cX12_factors 35 = .ok (.iaload, 1) := by decide +kernel
theorem dX12_factors_36 : decode cX12_factors 36 = .ok (.aload_n 0, 1) := by decide +kernel
theorem dX12_factors_37 : decode cX12_factors 37 = .ok (.getfield 65, 3) := by decide +kernel
theorem dX12_factors_40 : decode cX12_factors 40 = .ok (.iload_n 1, 1) := by decide +kernel
theorem dX12_factors_41 : decode cX12_factors 41 = .ok (.iaload, 1) := by decide +kernel
theorem dX12_factors_42 : decode cX12_factors 42 = .ok (.invokevirtual 243, 3) := by decide +kernel
theorem dX12_factors_45 : decode cX12_factors 45 = .ok (.istore_n 2, 1) := by decide +kernel
theorem dX12_factors_46 : decode cX12_factors 46 = .ok (.iconst 0, 1) := by decide +kernel
theorem dX12_factors_47 : decode cX12_factors 47 = .ok (.istore_n 3, 1) := by decide +kernel
theorem dX12_factors_48 : decode cX12_factors 48 = .ok (.iload_n 3, 1) := by decide +kernel
theorem dX12_factors_49 : decode cX12_factors 49 = .ok (.aload_n 0, 1) := by decide +kernel
theorem dX12_factors_50 : decode cX12_factors 50 = .ok (.getfield 68, 3) := by decide +kernel
theorem dX12_factors_53 : decode cX12_factors 53 = .ok (.iload_n 1, 1) := by decide +kernel
theorem dX12_factors_54 : decode cX12_factors 54 = .ok (.iaload, 1) := by decide +kernel
theorem dX12_factors_55 : decode cX12_factors 55 = .ok (.if_icmp .ge 76, 3) := by decide +kernel
theorem dX12_factors_58 : decode cX12_factors 58 = .ok (.aload_n 0, 1) := by decide +kernel
theorem dX12_factors_59 : decode cX12_factors 59 = .ok (.getfield 133, 3) := by decide +kernel
theorem dX12_factors_62 : decode cX12_factors 62 = .ok (.ifCond .ne 69, 3) := by decide +kernel
theorem dX12_factors_65 : decode cX12_factors 65 = .ok (.aload_n 0, 1) := by decide +kernel
theorem dX12_factors_66 : decode cX12_factors 66 = .ok (.getfield 71, 3) := by decide +kernel
theorem dX12_factors_69 : decode cX12_factors 69 = .ok (.iload_n 1, 1) := by decide +kernel
theorem dX12_factors_70 : decode cX12_factors 70 = .ok (.iaload, 1) := by decide +kernel
theorem dX12_factors_71 : decode cX12_factors 71 = .ok (.ifCond .le 30, 3) := by decide +kernel
theorem dX12_factors_74 : decode cX12_factors 74 = .ok (.aload_n 0, 1) := by decide +kernel
theorem dX12_factors_75 : decode cX12_factors 75 = .ok (.aload_n 0, 1) := by decide +kernel
theorem dX12_factors_76 : decode cX12_factors 76 = .ok (.getfield 143, 3) := by decide +kernel
theorem dX12_factors_79 : decode cX12_factors 79 = .ok (.aload_n 0, 1) := by decide +kernel
theorem dX12_factors_80 : decode cX12_factors 80 = .ok (.getfield 147, 3) := by decide +kernel
theorem dX12_factors_83 : decode cX12_factors 83 = .ok (.aload_n 0, 1) := by decide +kernel
theorem dX12_factors_84 : decode cX12_factors 84 = .ok (.getfield 22, 3) := by decide +kernel
theorem dX12_factors_87 : decode cX12_factors 87 = .ok (.iload_n 2, 1) := by decide +kernel
theorem dX12_factors_88 : decode cX12_factors 88 = .ok (.laload, 1) := by decide +kernel
theorem dX12_factors_89 : decode cX12_factors 89 = .ok (.aload_n 0, 1) := by decide +kernel
theorem dX12_factors_90 : decode cX12_factors 90 = .ok (.getfield 26, 3) := by decide +kernel
theorem dX12_factors_93 : decode cX12_factors 93 = .ok (.iload_n 2, 1) := by decide +kernel
theorem dX12_factors_94 : decode cX12_factors 94 = .ok (.laload, 1) := by decide +kernel
theorem dX12_factors_95 : decode cX12_factors 95 = .ok (.invokevirtual 153, 3) := by decide +kernel
theorem dX12_factors_98 : decode cX12_factors 98 = .ok (.goto 27, 3) := by decide +kernel
theorem dX12_factors_101 : decode cX12_factors 101 = .ok (.aload_n 0, 1) := by decide +kernel
theorem dX12_factors_102 : decode cX12_factors 102 = .ok (.aload_n 0, 1) := by decide +kernel
theorem dX12_factors_103 : decode cX12_factors 103 = .ok (.getfield 143, 3) := by decide +kernel
theorem dX12_factors_106 : decode cX12_factors 106 = .ok (.aload_n 0, 1) := by decide +kernel
theorem dX12_factors_107 : decode cX12_factors 107 = .ok (.getfield 147, 3) := by decide +kernel
theorem dX12_factors_110 : decode cX12_factors 110 = .ok (.aload_n 0, 1) := by decide +kernel
theorem dX12_factors_111 : decode cX12_factors 111 = .ok (.getfield 22, 3) := by decide +kernel
theorem dX12_factors_114 : decode cX12_factors 114 = .ok (.iload_n 2, 1) := by decide +kernel
theorem dX12_factors_115 : decode cX12_factors 115 = .ok (.laload, 1) := by decide +kernel
theorem dX12_factors_116 : decode cX12_factors 116 = .ok (.aload_n 0, 1) := by decide +kernel
theorem dX12_factors_117 : decode cX12_factors 117 = .ok (.getfield 26, 3) := by decide +kernel
theorem dX12_factors_120 : decode cX12_factors 120 = .ok (.iload_n 2, 1) := by decide +kernel
theorem dX12_factors_121 : decode cX12_factors 121 = .ok (.laload, 1) := by decide +kernel
theorem dX12_factors_122 : decode cX12_factors 122 = .ok (.invokevirtual 253, 3) := by decide +kernel
theorem dX12_factors_125 : decode cX12_factors 125 = .ok (.iinc 3 1, 3) := by decide +kernel
theorem dX12_factors_128 : decode cX12_factors 128 = .ok (.goto (-80), 3) := by decide +kernel
theorem dX12_factors_131 : decode cX12_factors 131 = .ok (.iinc 1 1, 3) := by decide +kernel
theorem dX12_factors_134 : decode cX12_factors 134 = .ok (.goto (-113), 3) := by decide +kernel
theorem dX12_factors_137 : decode cX12_factors 137 = .ok (.return_, 1) := by decide +kernel
theorem dX12_comes_0 : decode cX12_comes 0 = .ok (.iconst 0, 1) := by decide +kernel
theorem dX12_comes_1 : decode cX12_comes 1 = .ok (.istore_n 2, 1) := by decide +kernel
theorem dX12_comes_2 : decode cX12_comes 2 = .ok (.iload_n 2, 1) := by decide +kernel
theorem dX12_comes_3 : decode cX12_comes 3 = .ok (.iconst 5, 1) := by decide +kernel
theorem dX12_comes_4 : decode cX12_comes 4 = .ok (.if_icmp .ge 16, 3) := by decide +kernel
theorem dX12_comes_7 : decode cX12_comes 7 = .ok (.aload_n 0, 1) := by decide +kernel
theorem dX12_comes_8 : decode cX12_comes 8 = .ok (.getfield 74, 3) := by decide +kernel
theorem dX12_comes_11 : decode cX12_comes 11 = .ok (.iload_n 2, 1) := by decide +kernel
theorem dX12_comes_12 : decode cX12_comes 12 = .ok (.iconst 0, 1) := by decide +kernel
theorem dX12_comes_13 : decode cX12_comes 13 = .ok (.iastore, 1) := by decide +kernel
theorem dX12_comes_14 : decode cX12_comes 14 = .ok (.iinc 2 1, 3) := by decide +kernel
theorem dX12_comes_17 : decode cX12_comes 17 = .ok (.goto (-15), 3) := by decide +kernel
theorem dX12_comes_20 : decode cX12_comes 20 = .ok (.iconst 0, 1) := by decide +kernel
theorem dX12_comes_21 : decode cX12_comes 21 = .ok (.istore_n 2, 1) := by decide +kernel
theorem dX12_comes_22 : decode cX12_comes 22 = .ok (.iload_n 2, 1) := by decide +kernel
theorem dX12_comes_23 : decode cX12_comes 23 = .ok (.aload_n 0, 1) := by decide +kernel
theorem dX12_comes_24 : decode cX12_comes 24 = .ok (.getfield 209, 3) := by decide +kernel
theorem dX12_comes_27 : decode cX12_comes 27 = .ok (.if_icmp .ge 42, 3) := by decide +kernel
theorem dX12_comes_30 : decode cX12_comes 30 = .ok (.aload_n 0, 1) := by decide +kernel
theorem dX12_comes_31 : decode cX12_comes 31 = .ok (.aload_n 0, 1) := by decide +kernel
theorem dX12_comes_32 : decode cX12_comes 32 = .ok (.aload_n 0, 1) := by decide +kernel
theorem dX12_comes_33 : decode cX12_comes 33 = .ok (.getfield 62, 3) := by decide +kernel
theorem dX12_comes_36 : decode cX12_comes 36 = .ok (.iload_n 2, 1) := by decide +kernel
theorem dX12_comes_37 : decode cX12_comes 37 = .ok (.iaload, 1) := by decide +kernel
theorem dX12_comes_38 : decode cX12_comes 38 = .ok (.aload_n 0, 1) := by decide +kernel
theorem dX12_comes_39 : decode cX12_comes 39 = .ok (.getfield 65, 3) := by decide +kernel
theorem dX12_comes_42 : decode cX12_comes 42 = .ok (.iload_n 2, 1) := by decide +kernel
theorem dX12_comes_43 : decode cX12_comes 43 = .ok (.iaload, 1) := by decide +kernel
theorem dX12_comes_44 : decode cX12_comes 44 = .ok (.invokevirtual 243, 3) := by decide +kernel
theorem dX12_comes_47 : decode cX12_comes 47 = .ok (.aload_n 0, 1) := by decide +kernel
theorem dX12_comes_48 : decode cX12_comes 48 = .ok (.getfield 71, 3) := by decide +kernel
theorem dX12_comes_51 : decode cX12_comes 51 = .ok (.iload_n 2, 1) := by decide +kernel
theorem dX12_comes_52 : decode cX12_comes 52 = .ok (.iaload, 1) := by decide +kernel
theorem dX12_comes_53 : decode cX12_comes 53 = .ok (.aload_n 0, 1) := by decide +kernel
theorem dX12_comes_54 : decode cX12_comes 54 = .ok (.getfield 68, 3) := by decide +kernel
theorem dX12_comes_57 : decode cX12_comes 57 = .ok (.iload_n 2, 1) := by decide +kernel
theorem dX12_comes_58 : decode cX12_comes 58 = .ok (.iaload, 1) := by decide +kernel
theorem dX12_comes_59 : decode cX12_comes 59 = .ok (.imul, 1) := by decide +kernel
theorem dX12_comes_60 : decode cX12_comes 60 = .ok (.invokevirtual 256, 3) := by decide +kernel
theorem dX12_comes_63 : decode cX12_comes 63 = .ok (.iinc 2 1, 3) := by decide +kernel
theorem dX12_comes_66 : decode cX12_comes 66 = .ok (.goto (-44), 3) := by decide +kernel
theorem dX12_comes_69 : decode cX12_comes 69 = .ok (.aload_n 0, 1) := by decide +kernel
theorem dX12_comes_70 : decode cX12_comes 70 = .ok (.bipush 9, 2) := by decide +kernel
theorem dX12_comes_72 : decode cX12_comes 72 = .ok (.invokevirtual 260, 3) := by decide +kernel
theorem dX12_comes_75 : decode cX12_comes 75 = .ok (.ifCond .eq 6, 3) := by decide +kernel
theorem dX12_comes_78 : decode cX12_comes 78 = .ok (.bipush (-12), 2) := by decide +kernel
theorem dX12_comes_80 : decode cX12_comes 80 = .ok (.ireturn, 1) := by decide +kernel
theorem dX12_comes_81 : decode cX12_comes 81 = .ok (.aload_n 0, 1) := by decide +kernel
theorem dX12_comes_82 : decode cX12_comes 82 = .ok (.invokevirtual 263, 3) := by decide +kernel
theorem dX12_comes_85 : decode cX12_comes 85 = .ok (.aload_n 0, 1) := by decide +kernel
theorem dX12_comes_86 : decode cX12_comes 86 = .ok (.getfield 133, 3) := by decide +kernel
theorem dX12_comes_89 : decode cX12_comes 89 = .ok (.ifCond .eq 6, 3) := by decide +kernel
theorem dX12_comes_92 : decode cX12_comes 92 = .ok (.bipush (-15), 2) := by decide +kernel
theorem dX12_comes_94 : decode cX12_comes 94 = .ok (.ireturn, 1) := by decide +kernel
theorem dX12_comes_95 : decode cX12_comes 95 = .ok (.aload_n 0, 1) := by decide +kernel
theorem dX12_comes_96 : decode cX12_comes 96 = .ok (.getfield 11, 3) := by decide +kernel
theorem dX12_comes_99 : decode cX12_comes 99 = .ok (.bipush 20, 2) := by decide +kernel
theorem dX12_comes_101 : decode cX12_comes 101 = .ok (.if_icmp .ne 6, 3) := by decide +kernel
theorem dX12_comes_104 : decode cX12_comes 104 = .ok (.bipush (-4), 2) := by decide +kernel
theorem dX12_comes_106 : decode cX12_comes 106 = .ok (.ireturn, 1) := by decide +kernel
theorem dX12_comes_107 : decode cX12_comes 107 = .ok (.iconst 0, 1) := by decide +kernel
theorem dX12_comes_108 : decode cX12_comes 108 = .ok (.istore_n 2, 1) := by decide +kernel
theorem dX12_comes_109 : decode cX12_comes 109 = .ok (.iload_n 2, 1) := by decide +kernel
theorem dX12_comes_110 : decode cX12_comes 110 = .ok (.iconst 5, 1) := by decide +kernel
theorem dX12_comes_111 : decode cX12_comes 111 = .ok (.if_icmp .ge 28, 3) := by decide +kernel
theorem dX12_comes_114 : decode cX12_comes 114 = .ok (.aload_n 0, 1) := by decide +kernel
theorem dX12_comes_115 : decode cX12_comes 115 = .ok (.getfield 19, 3) := by decide +kernel
theorem dX12_comes_118 : decode cX12_comes 118 = .ok (.iconst 5, 1) := by decide +kernel
theorem dX12_comes_119 : decode cX12_comes 119 = .ok (.aload_n 0, 1) := by decide +kernel
theorem dX12_comes_120 : decode cX12_comes 120 = .ok (.getfield 11, 3) := by decide +kernel
theorem dX12_comes_123 : decode cX12_comes 123 = .ok (.imul, 1) := by decide +kernel
theorem dX12_comes_124 : decode cX12_comes 124 = .ok (.iload_n 2, 1) := by decide +kernel
theorem dX12_comes_125 : decode cX12_comes 125 = .ok (.iadd, 1) := by decide +kernel
theorem dX12_comes_126 : decode cX12_comes 126 = .ok (.aload_n 0, 1) := by decide +kernel
theorem dX12_comes_127 : decode cX12_comes 127 = .ok (.getfield 74, 3) := by decide +kernel
theorem dX12_comes_130 : decode cX12_comes 130 = .ok (.iload_n 2, 1) := by decide +kernel
theorem dX12_comes_131 : decode cX12_comes 131 = .ok (.iaload, 1) := by decide +kernel
theorem dX12_comes_132 : decode cX12_comes 132 = .ok (.iastore, 1) := by decide +kernel
theorem dX12_comes_133 : decode cX12_comes 133 = .ok (.iinc 2 1, 3) := by decide +kernel
theorem dX12_comes_136 : decode cX12_comes 136 = .ok (.goto (-27), 3) := by decide +kernel
theorem dX12_comes_139 : decode cX12_comes 139 = .ok (.iconst 0, 1) := by decide +kernel
theorem dX12_comes_140 : decode cX12_comes 140 = .ok (.istore_n 2, 1) := by decide +kernel
theorem dX12_comes_141 : decode cX12_comes 141 = .ok (.iload_n 2, 1) := by decide +kernel
theorem dX12_comes_142 : decode cX12_comes 142 = .ok (.iconst 4, 1) := by decide +kernel
theorem dX12_comes_143 : decode cX12_comes 143 = .ok (.if_icmp .ge 37, 3) := by decide +kernel
theorem dX12_comes_146 : decode cX12_comes 146 = .ok (.aload_n 0, 1) := by decide +kernel
theorem dX12_comes_147 : decode cX12_comes 147 = .ok (.getfield 15, 3) := by decide +kernel
theorem dX12_comes_150 : decode cX12_comes 150 = .ok (.iconst 4, 1) := by decide +kernel
theorem dX12_comes_151 : decode cX12_comes 151 = .ok (.aload_n 0, 1) := by decide +kernel
theorem dX12_comes_152 : decode cX12_comes 152 = .ok (.getfield 11, 3) := by decide +kernel
theorem dX12_comes_155 : decode cX12_comes 155 = .ok (.imul, 1) := by decide +kernel
theorem dX12_comes_156 : decode cX12_comes 156 = .ok (.iload_n 2, 1) := by decide +kernel
theorem dX12_comes_157 : decode cX12_comes 157 = .ok (.iadd, 1) := by decide +kernel
theorem dX12_comes_158 : decode cX12_comes 158 = .ok (.iload_n 2, 1) := by decide +kernel
theorem dX12_comes_159 : decode cX12_comes 159 = .ok (.iload_n 1, 1) := by decide +kernel
theorem dX12_comes_160 : decode cX12_comes 160 = .ok (.if_icmp .ge 12, 3) := by decide +kernel
theorem dX12_comes_163 : decode cX12_comes 163 = .ok (.aload_n 0, 1) := by decide +kernel
theorem dX12_comes_164 : decode cX12_comes 164 = .ok (.getfield 59, 3) := by decide +kernel
theorem dX12_comes_167 : decode cX12_comes 167 = .ok (.iload_n 2, 1) := by decide +kernel
theorem dX12_comes_168 : decode cX12_comes 168 = .ok (.iaload, 1) := by decide +kernel
theorem dX12_comes_169 : decode cX12_comes 169 = .ok (.goto 4, 3) := by decide +kernel
theorem dX12_comes_172 : decode cX12_comes 172 = .ok (.iconst 0, 1) := by decide +kernel
theorem dX12_comes_173 : decode cX12_comes 173 = .ok (.iastore, 1) := by decide +kernel
theorem dX12_comes_174 : decode cX12_comes 174 = .ok (.iinc 2 1, 3) := by decide +kernel
theorem dX12_comes_177 : decode cX12_comes 177 = .ok (.goto (-36), 3) := by decide +kernel
theorem dX12_comes_180 : decode cX12_comes 180 = .ok (.aload_n 0, 1) := by decide +kernel
theorem dX12_comes_181 : decode cX12_comes 181 = .ok (.getfield 22, 3) := by decide +kernel
theorem dX12_comes_184 : decode cX12_comes 184 = .ok (.aload_n 0, 1) := by decide +kernel
theorem dX12_comes_185 : decode cX12_comes 185 = .ok (.getfield 11, 3) := by decide +kernel
theorem dX12_comes_188 : decode cX12_comes 188 = .ok (.aload_n 0, 1) := by decide +kernel
theorem dX12_comes_189 : decode cX12_comes 189 = .ok (.getfield 143, 3) := by decide +kernel
theorem dX12_comes_192 : decode cX12_comes 192 = .ok (.lastore, 1) := by decide +kernel
theorem dX12_comes_193 : decode cX12_comes 193 = .ok (.aload_n 0, 1) := by decide +kernel
theorem dX12_comes_194 : decode cX12_comes 194 = .ok (.getfield 26, 3) := by decide +kernel
theorem dX12_comes_197 : decode cX12_comes 197 = .ok (.aload_n 0, 1) := by decide +kernel
theorem dX12_comes_198 : decode cX12_comes 198 = .ok (.getfield 11, 3) := by decide +kernel
theorem dX12_comes_201 : decode cX12_comes 201 = .ok (.aload_n 0, 1) := by decide +kernel
theorem dX12_comes_202 : decode cX12_comes 202 = .ok (.getfield 147, 3) := by decide +kernel
theorem dX12_comes_205 : decode cX12_comes 205 = .ok (.lastore, 1) := by decide +kernel
theorem dX12_comes_206 : decode cX12_comes 206 = .ok (.aload_n 0, 1) := by decide +kernel
theorem dX12_comes_207 : decode cX12_comes 207 = .ok (.aload_n 0, 1) := by decide +kernel
theorem dX12_comes_208 : decode cX12_comes 208 = .ok (.getfield 234, 3) := by decide +kernel
theorem dX12_comes_211 : decode cX12_comes 211 = .ok (.ifCond .ne 7, 3) := by decide +kernel
theorem dX12_comes_214 : decode cX12_comes 214 = .ok (.lconst 0, 1) := by decide +kernel
theorem dX12_comes_215 : decode cX12_comes 215 = .ok (.goto 14, 3) := by decide +kernel
theorem dX12_comes_218 : decode cX12_comes 218 = .ok (.aload_n 0, 1) := by decide +kernel
theorem dX12_comes_219 : decode cX12_comes 219 = .ok (.getfield 234, 3) := by decide +kernel
theorem dX12_comes_222 : decode cX12_comes 222 = .ok (.i2l, 1) := by decide +kernel
theorem dX12_comes_223 : decode cX12_comes 223 = .ok (.aload_n 0, 1) := by decide +kernel
theorem dX12_comes_224 : decode cX12_comes 224 = .ok (.getfield 240, 3) := by decide +kernel
theorem dX12_comes_227 : decode cX12_comes 227 = .ok (.i2l, 1) := by decide +kernel
theorem dX12_comes_228 : decode cX12_comes 228 = .ok (.lmul, 1) := by decide +kernel
theorem dX12_comes_229 : decode cX12_comes 229 = .ok (.aload_n 0, 1) := by decide +kernel
theorem dX12_comes_230 : decode cX12_comes 230 = .ok (.getfield 237, 3) := by decide +kernel
theorem dX12_comes_233 : decode cX12_comes 233 = .ok (.i2l, 1) := by decide +kernel
theorem dX12_comes_234 : decode cX12_comes 234 = .ok (.invokevirtual 157, 3) := by decide +kernel
theorem dX12_comes_237 : decode cX12_comes 237 = .ok (.aload_n 0, 1) := by decide +kernel
theorem dX12_comes_238 : decode cX12_comes 238 = .ok (.getfield 29, 3) := by decide +kernel
theorem dX12_comes_241 : decode cX12_comes 241 = .ok (.aload_n 0, 1) := by decide +kernel
theorem dX12_comes_242 : decode cX12_comes 242 = .ok (.getfield 11, 3) := by decide +kernel
theorem dX12_comes_245 : decode cX12_comes 245 = .ok (.aload_n 0, 1) := by decide +kernel
theorem dX12_comes_246 : decode cX12_comes 246 = .ok (.getfield 143, 3) := by decide +kernel
theorem dX12_comes_249 : decode cX12_comes 249 = .ok (.lastore, 1) := by decide +kernel
theorem dX12_comes_250 : decode cX12_comes 250 = .ok (.aload_n 0, 1) := by decide +kernel
theorem dX12_comes_251 : decode cX12_comes 251 = .ok (.getfield 32, 3) := by decide +kernel
theorem dX12_comes_254 : decode cX12_comes 254 = .ok (.aload_n 0, 1) := by decide +kernel
theorem dX12_comes_255 : decode cX12_comes 255 = .ok (.getfield 11, 3) := by decide +kernel
theorem dX12_comes_258 : decode cX12_comes 258 = .ok (.aload_n 0, 1) := by decide +kernel
theorem dX12_comes_259 : decode cX12_comes 259 = .ok (.getfield 147, 3) := by decide +kernel
theorem dX12_comes_262 : decode cX12_comes 262 = .ok (.lastore, 1) := by decide +kernel
theorem dX12_comes_263 : decode cX12_comes 263 = .ok (.aload_n 0, 1) := by decide +kernel
theorem dX12_comes_264 : decode cX12_comes 264 = .ok (.dup, 1) := by decide +kernel
theorem dX12_comes_265 : decode cX12_comes 265 = .ok (.getfield 11, 3) := by decide +kernel
theorem dX12_comes_268 : decode cX12_comes 268 = .ok (.iconst 1, 1) := by decide +kernel
theorem dX12_comes_269 : decode cX12_comes 269 = .ok (.iadd, 1) := by decide +kernel
theorem dX12_comes_270 : decode cX12_comes 270 = .ok (.putfield 11, 3) := by decide +kernel
theorem dX12_comes_273 : decode cX12_comes 273 = .ok (.aload_n 0, 1) := by decide +kernel
theorem dX12_comes_274 : decode cX12_comes 274 = .ok (.getfield 11, 3) := by decide +kernel
theorem dX12_comes_277 : decode cX12_comes 277 = .ok (.iconst 1, 1) := by decide +kernel
theorem dX12_comes_278 : decode cX12_comes 278 = .ok (.isub, 1) := by decide +kernel
theorem dX12_comes_279 : decode cX12_comes 279 = .ok (.ireturn, 1) := by decide +kernel
theorem dX12_define_0 : decode cX12_define 0 = .ok (.aload_n 0, 1) := by decide +kernel
theorem dX12_define_1 : decode cX12_define 1 = .ok (.iconst 0, 1) := by decide +kernel
theorem dX12_define_2 : decode cX12_define 2 = .ok (.putfield 174, 3) := by decide +kernel
theorem dX12_define_5 : decode cX12_define 5 = .ok (.aload_n 0, 1) := by decide +kernel
theorem dX12_define_6 : decode cX12_define 6 = .ok (.iconst (-1), 1) := by decide +kernel
theorem dX12_define_7 : decode cX12_define 7 = .ok (.putfield 189, 3) := by decide +kernel
theorem dX12_define_10 : decode cX12_define 10 = .ok (.aload_n 0, 1) := by decide +kernel
theorem dX12_define_11 : decode cX12_define 11 = .ok (.invokevirtual 266, 3) := by decide +kernel
theorem dX12_define_14 : decode cX12_define 14 = .ok (.istore_n 1, 1) := by decide +kernel
theorem dX12_define_15 : decode cX12_define 15 = .ok (.aload_n 0, 1) := by decide +kernel
theorem dX12_define_16 : decode cX12_define 16 = .ok (.getfield 189, 3) := by decide +kernel
theorem dX12_define_19 : decode cX12_define 19 = .ok (.ifCond .lt 13, 3) := by decide +kernel
theorem dX12_define_22 : decode cX12_define 22 = .ok (.bipush (-100), 2) := by decide +kernel
theorem dX12_define_24 : decode cX12_define 24 = .ok (.aload_n 0, 1) := by decide +kernel
theorem dX12_define_25 : decode cX12_define 25 = .ok (.getfield 189, 3) := by decide +kernel
theorem dX12_define_28 : decode cX12_define 28 = .ok (.isub, 1) := by decide +kernel
theorem dX12_define_29 : decode cX12_define 29 = .ok (.goto 8, 3) := by decide +kernel
theorem dX12_define_32 : decode cX12_define 32 = .ok (.aload_n 0, 1) := by decide +kernel
theorem dX12_define_33 : decode cX12_define 33 = .ok (.iload_n 1, 1) := by decide +kernel
theorem dX12_define_34 : decode cX12_define 34 = .ok (.invokevirtual 269, 3) := by decide +kernel
theorem dX12_define_37 : decode cX12_define 37 = .ok (.istore_n 2, 1) := by decide +kernel
theorem dX12_define_38 : decode cX12_define 38 = .ok (.iload_n 2, 1) := by decide +kernel
theorem dX12_define_39 : decode cX12_define 39 = .ok (.ifCond .ne 9, 3) := by decide +kernel
theorem dX12_define_42 : decode cX12_define 42 = .ok (.aload_n 0, 1) := by decide +kernel
theorem dX12_define_43 : decode cX12_define 43 = .ok (.iload_n 1, 1) := by decide +kernel
theorem dX12_define_44 : decode cX12_define 44 = .ok (.invokevirtual 272, 3) := by decide +kernel
theorem dX12_define_47 : decode cX12_define 47 = .ok (.istore_n 2, 1) := by decide +kernel
theorem dX12_define_48 : decode cX12_define 48 = .ok (.aload_n 0, 1) := by decide +kernel
theorem dX12_define_49 : decode cX12_define 49 = .ok (.iconst 0, 1) := by decide +kernel
theorem dX12_define_50 : decode cX12_define 50 = .ok (.putfield 171, 3) := by decide +kernel
theorem dX12_define_53 : decode cX12_define 53 = .ok (.iload_n 2, 1) := by decide +kernel
theorem dX12_define_54 : decode cX12_define 54 = .ok (.ireturn, 1) := by decide +kernel
theorem dX12_drop_0 : decode cX12_drop 0 = .ok (.aload_n 0, 1) := by decide +kernel
theorem dX12_drop_1 : decode cX12_drop 1 = .ok (.getfield 11, 3) := by decide +kernel
theorem dX12_drop_4 : decode cX12_drop 4 = .ok (.iconst 5, 1) := by decide +kernel
theorem dX12_drop_5 : decode cX12_drop 5 = .ok (.if_icmp .ne 6, 3) := by decide +kernel
theorem dX12_drop_8 : decode cX12_drop 8 = .ok (.bipush (-3), 2) := by decide +kernel
theorem dX12_drop_10 : decode cX12_drop 10 = .ok (.ireturn, 1) := by decide +kernel
theorem dX12_drop_11 : decode cX12_drop 11 = .ok (.aload_n 0, 1) := by decide +kernel
theorem dX12_drop_12 : decode cX12_drop 12 = .ok (.dup, 1) := by decide +kernel
theorem dX12_drop_13 : decode cX12_drop 13 = .ok (.getfield 11, 3) := by decide +kernel
theorem dX12_drop_16 : decode cX12_drop 16 = .ok (.iconst 1, 1) := by decide +kernel
theorem dX12_drop_17 : decode cX12_drop 17 = .ok (.isub, 1) := by decide +kernel
theorem dX12_drop_18 : decode cX12_drop 18 = .ok (.putfield 11, 3) := by decide +kernel
theorem dX12_drop_21 : decode cX12_drop 21 = .ok (.aload_n 0, 1) := by decide +kernel
theorem dX12_drop_22 : decode cX12_drop 22 = .ok (.getfield 275, 3) := by decide +kernel
theorem dX12_drop_25 : decode cX12_drop 25 = .ok (.iconst 1, 1) := by decide +kernel
theorem dX12_drop_26 : decode cX12_drop 26 = .ok (.isub, 1) := by decide +kernel
theorem dX12_drop_27 : decode cX12_drop 27 = .ok (.istore_n 1, 1) := by decide +kernel
theorem dX12_drop_28 : decode cX12_drop 28 = .ok (.iload_n 1, 1) := by decide +kernel
theorem dX12_drop_29 : decode cX12_drop 29 = .ok (.ifCond .lt 47, 3) := by decide +kernel
theorem dX12_drop_32 : decode cX12_drop 32 = .ok (.aload_n 0, 1) := by decide +kernel
theorem dX12_drop_33 : decode cX12_drop 33 = .ok (.getfield 35, 3) := by decide +kernel
theorem dX12_drop_36 : decode cX12_drop 36 = .ok (.iconst 4, 1) := by decide +kernel
theorem dX12_drop_37 : decode cX12_drop 37 = .ok (.iload_n 1, 1) := by decide +kernel
theorem dX12_drop_38 : decode cX12_drop 38 = .ok (.imul, 1) := by decide +kernel
theorem dX12_drop_39 : decode cX12_drop 39 = .ok (.iaload, 1) := by decide +kernel
theorem dX12_drop_40 : decode cX12_drop 40 = .ok (.aload_n 0, 1) := by decide +kernel
theorem dX12_drop_41 : decode cX12_drop 41 = .ok (.getfield 11, 3) := by decide +kernel
theorem dX12_drop_44 : decode cX12_drop 44 = .ok (.if_icmp .eq 20, 3) := by decide +kernel
theorem dX12_drop_47 : decode cX12_drop 47 = .ok (.aload_n 0, 1) := by decide +kernel
theorem dX12_drop_48 : decode cX12_drop 48 = .ok (.getfield 35, 3) := by decide +kernel
theorem dX12_drop_51 : decode cX12_drop 51 = .ok (.iconst 4, 1) := by decide +kernel
theorem dX12_drop_52 : decode cX12_drop 52 = .ok (.iload_n 1, 1) := by decide +kernel
theorem dX12_drop_53 : decode cX12_drop 53 = .ok (.imul, 1) := by decide +kernel
theorem dX12_drop_54 : decode cX12_drop 54 = .ok (.iconst 1, 1) := by decide +kernel
theorem dX12_drop_55 : decode cX12_drop 55 = .ok (.iadd, 1) := by decide +kernel
theorem dX12_drop_56 : decode cX12_drop 56 = .ok (.iaload, 1) := by decide +kernel
theorem dX12_drop_57 : decode cX12_drop 57 = .ok (.aload_n 0, 1) := by decide +kernel
theorem dX12_drop_58 : decode cX12_drop 58 = .ok (.getfield 11, 3) := by decide +kernel
theorem dX12_drop_61 : decode cX12_drop 61 = .ok (.if_icmp .ne 9, 3) := by decide +kernel
theorem dX12_drop_64 : decode cX12_drop 64 = .ok (.aload_n 0, 1) := by decide +kernel
theorem dX12_drop_65 : decode cX12_drop 65 = .ok (.iload_n 1, 1) := by decide +kernel
theorem dX12_drop_66 : decode cX12_drop 66 = .ok (.invokevirtual 278, 3) := by decide +kernel
theorem dX12_drop_69 : decode cX12_drop 69 = .ok (.pop, 1) := by decide +kernel
theorem dX12_drop_70 : decode cX12_drop 70 = .ok (.iinc 1 (-1), 3) := by decide +kernel
theorem dX12_drop_73 : decode cX12_drop 73 = .ok (.goto (-45), 3) := by decide +kernel
theorem dX12_drop_76 : decode cX12_drop 76 = .ok (.aload_n 0, 1) := by decide +kernel
theorem dX12_drop_77 : decode cX12_drop 77 = .ok (.getfield 11, 3) := by decide +kernel
theorem dX12_drop_80 : decode cX12_drop 80 = .ok (.ireturn, 1) := by decide +kernel
theorem dX12_find_0 : decode cX12_find 0 = .ok (.aload_n 0, 1) := by decide +kernel
theorem dX12_find_1 : decode cX12_find 1 = .ok (.getfield 171, 3) := by decide +kernel
theorem dX12_find_4 : decode cX12_find 4 = .ok (.i2l, 1) := by decide +kernel
theorem dX12_find_5 : decode cX12_find 5 = .ok (.lconst 1, 1) := by decide +kernel
theorem dX12_find_6 : decode cX12_find 6 = .ok (.ldc2_w 281, 3) := by decide +kernel
theorem dX12_find_9 : decode cX12_find 9 = .ok (.invokestatic 161, 3) := by decide +kernel
theorem dX12_find_12 : decode cX12_find 12 = .ok (.istore_n 1, 1) := by decide +kernel
theorem dX12_find_13 : decode cX12_find 13 = .ok (.iload_n 1, 1) := by decide +kernel
theorem dX12_find_14 : decode cX12_find 14 = .ok (.ifCond .eq 15, 3) := by decide +kernel
theorem dX12_find_17 : decode cX12_find 17 = .ok (.aload_n 0, 1) := by decide +kernel
theorem dX12_find_18 : decode cX12_find 18 = .ok (.iconst 0, 1) := by decide +kernel
theorem dX12_find_19 : decode cX12_find 19 = .ok (.aload_n 0, 1) := by decide +kernel
theorem dX12_find_20 : decode cX12_find 20 = .ok (.getfield 171, 3) := by decide +kernel
theorem dX12_find_23 : decode cX12_find 23 = .ok (.invokevirtual 243, 3) := by decide +kernel
theorem dX12_find_26 : decode cX12_find 26 = .ok (.goto 4, 3) := by decide +kernel
theorem dX12_find_29 : decode cX12_find 29 = .ok (.iconst (-1), 1) := by decide +kernel
theorem dX12_find_30 : decode cX12_find 30 = .ok (.istore_n 2, 1) := by decide +kernel
theorem dX12_find_31 : decode cX12_find 31 = .ok (.aload_n 0, 1) := by decide +kernel
theorem dX12_find_32 : decode cX12_find 32 = .ok (.iconst 0, 1) := by decide +kernel
theorem dX12_find_33 : decode cX12_find 33 = .ok (.putfield 171, 3) := by decide +kernel
theorem dX12_find_36 : decode cX12_find 36 = .ok (.iload_n 2, 1) := by decide +kernel
theorem dX12_find_37 : decode cX12_find 37 = .ok (.ifCond .ge 8, 3) := by decide +kernel
theorem dX12_find_40 : decode cX12_find 40 = .ok (.bipush (-5), 2) := by decide +kernel
theorem dX12_find_42 : decode cX12_find 42 = .ok (.goto 4, 3) := by decide +kernel
theorem dX12_find_45 : decode cX12_find 45 = .ok (.iload_n 2, 1) := by decide +kernel
theorem dX12_find_46 : decode cX12_find 46 = .ok (.ireturn, 1) := by decide +kernel
theorem dX12_name_0 : decode cX12_name 0 = .ok (.aload_n 0, 1) := by decide +kernel
theorem dX12_name_1 : decode cX12_name 1 = .ok (.iload_n 1, 1) := by decide +kernel
theorem dX12_name_2 : decode cX12_name 2 = .ok (.invokevirtual 283, 3) := by decide +kernel
theorem dX12_name_5 : decode cX12_name 5 = .ok (.ifCond .eq 22, 3) := by decide +kernel
theorem dX12_name_8 : decode cX12_name 8 = .ok (.iload_n 2, 1) := by decide +kernel
theorem dX12_name_9 : decode cX12_name 9 = .ok (.i2l, 1) := by decide +kernel
theorem dX12_name_10 : decode cX12_name 10 = .ok (.ldc2_w 286, 3) := by decide +kernel
theorem dX12_name_13 : decode cX12_name 13 = .ok (.aload_n 0, 1) := by decide +kernel
theorem dX12_name_14 : decode cX12_name 14 = .ok (.iload_n 1, 1) := by decide +kernel
theorem dX12_name_15 : decode cX12_name 15 = .ok (.invokevirtual 165, 3) := by decide +kernel
theorem dX12_name_18 : decode cX12_name 18 = .ok (.iconst 1, 1) := by decide +kernel
theorem dX12_name_19 : decode cX12_name 19 = .ok (.isub, 1) := by decide +kernel
theorem dX12_name_20 : decode cX12_name 20 = .ok (.i2l, 1) := by decide +kernel
theorem dX12_name_21 : decode cX12_name 21 = .ok (.invokestatic 161, 3) := by decide +kernel
theorem dX12_name_24 : decode cX12_name 24 = .ok (.ifCond .ne 5, 3) := by decide +kernel
theorem dX12_name_27 : decode cX12_name 27 = .ok (.iconst (-1), 1) := by decide +kernel
theorem dX12_name_28 : decode cX12_name 28 = .ok (.ireturn, 1) := by decide +kernel
theorem dX12_name_29 : decode cX12_name 29 = .ok (.iload_n 2, 1) := by decide +kernel
theorem dX12_name_30 : decode cX12_name 30 = .ok (.ifCond .ge 11, 3) := by decide +kernel
theorem dX12_name_33 : decode cX12_name 33 = .ok (.aload_n 0, 1) := by decide +kernel
theorem dX12_name_34 : decode cX12_name 34 = .ok (.iload_n 1, 1) := by decide +kernel
theorem dX12_name_35 : decode cX12_name 35 = .ok (.invokevirtual 165, 3) := by decide +kernel
theorem dX12_name_38 : decode cX12_name 38 = .ok (.goto 13, 3) := by decide +kernel
theorem dX12_name_41 : decode cX12_name 41 = .ok (.aload_n 0, 1) := by decide +kernel
theorem dX12_name_42 : decode cX12_name 42 = .ok (.getfield 15, 3) := by decide +kernel
theorem dX12_name_45 : decode cX12_name 45 = .ok (.iconst 4, 1) := by decide +kernel
theorem dX12_name_46 : decode cX12_name 46 = .ok (.iload_n 1, 1) := by decide +kernel
theorem dX12_name_47 : decode cX12_name 47 = .ok (.imul, 1) := by decide +kernel
theorem dX12_name_48 : decode cX12_name 48 = .ok (.iload_n 2, 1) := by decide +kernel
theorem dX12_name_49 : decode cX12_name 49 = .ok (.iadd, 1) := by decide +kernel
theorem dX12_name_50 : decode cX12_name 50 = .ok (.iaload, 1) := by decide +kernel
theorem dX12_name_51 : decode cX12_name 51 = .ok (.ireturn, 1) := by decide +kernel
theorem dX12_power_0 : decode cX12_power 0 = .ok (.aload_n 0, 1) := by decide +kernel
theorem dX12_power_1 : decode cX12_power 1 = .ok (.iload_n 1, 1) := by decide +kernel
theorem dX12_power_2 : decode cX12_power 2 = .ok (.invokevirtual 283, 3) := by decide +kernel
theorem dX12_power_5 : decode cX12_power 5 = .ok (.ifCond .eq 31, 3) := by decide +kernel
theorem dX12_power_8 : decode cX12_power 8 = .ok (.iload_n 2, 1) := by decide +kernel
theorem dX12_power_9 : decode cX12_power 9 = .ok (.i2l, 1) := by decide +kernel
theorem dX12_power_10 : decode cX12_power 10 = .ok (.lconst 0, 1) := by decide +kernel
theorem dX12_power_11 : decode cX12_power 11 = .ok (.ldc2_w 281, 3) := by decide +kernel
theorem dX12_power_14 : decode cX12_power 14 = .ok (.invokestatic 161, 3) := by decide +kernel
theorem dX12_power_17 : decode cX12_power 17 = .ok (.ifCond .eq 19, 3) := by decide +kernel
theorem dX12_power_20 : decode cX12_power 20 = .ok (.aload_n 0, 1) := by decide +kernel
theorem dX12_power_21 : decode cX12_power 21 = .ok (.getfield 19, 3) := by decide +kernel
theorem dX12_power_24 : decode cX12_power 24 = .ok (.iconst 5, 1) := by decide +kernel
theorem dX12_power_25 : decode cX12_power 25 = .ok (.iload_n 1, 1) := by decide +kernel
theorem dX12_power_26 : decode cX12_power 26 = .ok (.imul, 1) := by decide +kernel
theorem dX12_power_27 : decode cX12_power 27 = .ok (.iload_n 2, 1) := by decide +kernel
theorem dX12_power_28 : decode cX12_power 28 = .ok (.iadd, 1) := by decide +kernel
theorem dX12_power_29 : decode cX12_power 29 = .ok (.iaload, 1) := by decide +kernel
theorem dX12_power_30 : decode cX12_power 30 = .ok (.bipush 10, 2) := by decide +kernel
theorem dX12_power_32 : decode cX12_power 32 = .ok (.iadd, 1) := by decide +kernel
theorem dX12_power_33 : decode cX12_power 33 = .ok (.goto 4, 3) := by decide +kernel
theorem dX12_power_36 : decode cX12_power 36 = .ok (.iconst (-1), 1) := by decide +kernel
theorem dX12_power_37 : decode cX12_power 37 = .ok (.ireturn, 1) := by decide +kernel
theorem dX12_isPart_0 : decode cX12_isPart 0 = .ok (.iload_n 0, 1) := by decide +kernel
theorem dX12_isPart_1 : decode cX12_isPart 1 = .ok (.i2l, 1) := by decide +kernel
theorem dX12_isPart_2 : decode cX12_isPart 2 = .ok (.lconst 0, 1) := by decide +kernel
theorem dX12_isPart_3 : decode cX12_isPart 3 = .ok (.lconst 1, 1) := by decide +kernel
theorem dX12_isPart_4 : decode cX12_isPart 4 = .ok (.invokestatic 161, 3) := by decide +kernel
theorem dX12_isPart_7 : decode cX12_isPart 7 = .ok (.ireturn, 1) := by decide +kernel
theorem dX12_partOf_0 : decode cX12_partOf 0 = .ok (.iload 4, 2) := by decide +kernel
theorem dX12_partOf_2 : decode cX12_partOf 2 = .ok (.ifCond .ne 7, 3) := by decide +kernel
theorem dX12_partOf_5 : decode cX12_partOf 5 = .ok (.lload_n 0, 1) := by decide +kernel
theorem dX12_partOf_6 : decode cX12_partOf 6 = .ok (.goto 4, 3) := by decide +kernel
theorem dX12_partOf_9 : decode cX12_partOf 9 = .ok (.lload_n 2, 1) := by decide +kernel
theorem dX12_partOf_10 : decode cX12_partOf 10 = .ok (.lreturn, 1) := by decide +kernel
theorem dX12_scale_0 : decode cX12_scale 0 = .ok (.aload_n 0, 1) := by decide +kernel
theorem dX12_scale_1 : decode cX12_scale 1 = .ok (.iload_n 1, 1) := by decide +kernel
theorem dX12_scale_2 : decode cX12_scale 2 = .ok (.invokevirtual 283, 3) := by decide +kernel
theorem dX12_scale_5 : decode cX12_scale 5 = .ok (.ifCond .eq 20, 3) := by decide +kernel
theorem dX12_scale_8 : decode cX12_scale 8 = .ok (.iload_n 2, 1) := by decide +kernel
theorem dX12_scale_9 : decode cX12_scale 9 = .ok (.i2l, 1) := by decide +kernel
theorem dX12_scale_10 : decode cX12_scale 10 = .ok (.lconst 0, 1) := by decide +kernel
theorem dX12_scale_11 : decode cX12_scale 11 = .ok (.lconst 1, 1) := by decide +kernel
theorem dX12_scale_12 : decode cX12_scale 12 = .ok (.invokestatic 161, 3) := by decide +kernel
theorem dX12_scale_15 : decode cX12_scale 15 = .ok (.ifCond .eq 10, 3) := by decide +kernel
theorem dX12_scale_18 : decode cX12_scale 18 = .ok (.iload_n 3, 1) := by decide +kernel
theorem dX12_scale_19 : decode cX12_scale 19 = .ok (.invokestatic 288, 3) := by decide +kernel
theorem dX12_scale_22 : decode cX12_scale 22 = .ok (.ifCond .ne 7, 3) := by decide +kernel
theorem dX12_scale_25 : decode cX12_scale 25 = .ok (.ldc2_w 137, 3) := by decide +kernel
theorem dX12_scale_28 : decode cX12_scale 28 = .ok (.lreturn, 1) := by decide +kernel
theorem dX12_scale_29 : decode cX12_scale 29 = .ok (.iload_n 2, 1) := by decide +kernel
theorem dX12_scale_30 : decode cX12_scale 30 = .ok (.ifCond .ne 22, 3) := by decide +kernel
theorem dX12_scale_33 : decode cX12_scale 33 = .ok (.aload_n 0, 1) := by decide +kernel
theorem dX12_scale_34 : decode cX12_scale 34 = .ok (.getfield 22, 3) := by decide +kernel
theorem dX12_scale_37 : decode cX12_scale 37 = .ok (.iload_n 1, 1) := by decide +kernel
theorem dX12_scale_38 : decode cX12_scale 38 = .ok (.laload, 1) := by decide +kernel
theorem dX12_scale_39 : decode cX12_scale 39 = .ok (.aload_n 0, 1) := by decide +kernel
theorem dX12_scale_40 : decode cX12_scale 40 = .ok (.getfield 26, 3) := by decide +kernel
theorem dX12_scale_43 : decode cX12_scale 43 = .ok (.iload_n 1, 1) := by decide +kernel
theorem dX12_scale_44 : decode cX12_scale 44 = .ok (.laload, 1) := by decide +kernel
theorem dX12_scale_45 : decode cX12_scale 45 = .ok (.iload_n 3, 1) := by decide +kernel
theorem dX12_scale_46 : decode cX12_scale 46 = .ok (.invokestatic 291, 3) := by decide +kernel
theorem dX12_scale_49 : decode cX12_scale 49 = .ok (.goto 19, 3) := by decide +kernel
theorem dX12_scale_52 : decode cX12_scale 52 = .ok (.aload_n 0, 1) := by decide +kernel
theorem dX12_scale_53 : decode cX12_scale 53 = .ok (.getfield 29, 3) := by decide +kernel
theorem dX12_scale_56 : decode cX12_scale 56 = .ok (.iload_n 1, 1) := by decide +kernel
theorem dX12_scale_57 : decode cX12_scale 57 = .ok (.laload, 1) := by decide +kernel
theorem dX12_scale_58 : decode cX12_scale 58 = .ok (.aload_n 0, 1) := by decide +kernel
theorem dX12_scale_59 : decode cX12_scale 59 = .ok (.getfield 32, 3) := by decide +kernel
theorem dX12_scale_62 : decode cX12_scale 62 = .ok (.iload_n 1, 1) := by decide +kernel
theorem dX12_scale_63 : decode cX12_scale 63 = .ok (.laload, 1) := by decide +kernel
theorem dX12_scale_64 : decode cX12_scale 64 = .ok (.iload_n 3, 1) := by decide +kernel
theorem dX12_scale_65 : decode cX12_scale 65 = .ok (.invokestatic 291, 3) := by decide +kernel
theorem dX12_scale_68 : decode cX12_scale 68 = .ok (.lreturn, 1) := by decide +kernel
theorem dX12_latest_0 : decode cX12_latest 0 = .ok (.aload_n 0, 1) := by decide +kernel
theorem dX12_latest_1 : decode cX12_latest 1 = .ok (.getfield 133, 3) := by decide +kernel
theorem dX12_latest_4 : decode cX12_latest 4 = .ok (.ifCond .eq 9, 3) := by decide +kernel
theorem dX12_latest_7 : decode cX12_latest 7 = .ok (.ldc2_w 137, 3) := by decide +kernel
theorem dX12_latest_10 : decode cX12_latest 10 = .ok (.goto 15, 3) := by decide +kernel
theorem dX12_latest_13 : decode cX12_latest 13 = .ok (.aload_n 0, 1) := by decide +kernel
theorem dX12_latest_14 : decode cX12_latest 14 = .ok (.getfield 143, 3) := by decide +kernel
theorem dX12_latest_17 : decode cX12_latest 17 = .ok (.aload_n 0, 1) := by decide +kernel
theorem dX12_latest_18 : decode cX12_latest 18 = .ok (.getfield 147, 3) := by decide +kernel
theorem dX12_latest_21 : decode cX12_latest 21 = .ok (.iload_n 1, 1) := by decide +kernel
theorem dX12_latest_22 : decode cX12_latest 22 = .ok (.invokestatic 291, 3) := by decide +kernel
theorem dX12_latest_25 : decode cX12_latest 25 = .ok (.lreturn, 1) := by decide +kernel
theorem dX12_ratio_0 : decode cX12_ratio 0 = .ok (.aload_n 0, 1) := by decide +kernel
theorem dX12_ratio_1 : decode cX12_ratio 1 = .ok (.iload_n 1, 1) := by decide +kernel
theorem dX12_ratio_2 : decode cX12_ratio 2 = .ok (.invokevirtual 283, 3) := by decide +kernel
theorem dX12_ratio_5 : decode cX12_ratio 5 = .ok (.ifCond .eq 43, 3) := by decide +kernel
theorem dX12_ratio_8 : decode cX12_ratio 8 = .ok (.aload_n 0, 1) := by decide +kernel
theorem dX12_ratio_9 : decode cX12_ratio 9 = .ok (.iload_n 2, 1) := by decide +kernel
theorem dX12_ratio_10 : decode cX12_ratio 10 = .ok (.invokevirtual 283, 3) := by decide +kernel
theorem dX12_ratio_13 : decode cX12_ratio 13 = .ok (.ifCond .eq 35, 3) := by decide +kernel
theorem dX12_ratio_16 : decode cX12_ratio 16 = .ok (.iload_n 3, 1) := by decide +kernel
theorem dX12_ratio_17 : decode cX12_ratio 17 = .ok (.invokestatic 288, 3) := by decide +kernel
theorem dX12_ratio_20 : decode cX12_ratio 20 = .ok (.ifCond .eq 28, 3) := by decide +kernel
theorem dX12_ratio_23 : decode cX12_ratio 23 = .ok (.aload_n 0, 1) := by decide +kernel
theorem dX12_ratio_24 : decode cX12_ratio 24 = .ok (.iload_n 1, 1) := by decide +kernel
theorem dX12_ratio_25 : decode cX12_ratio 25 = .ok (.iload_n 2, 1) := by decide +kernel
theorem dX12_ratio_26 : decode cX12_ratio 26 = .ok (.invokevirtual 295, 3) := by decide +kernel
theorem dX12_ratio_29 : decode cX12_ratio 29 = .ok (.ifCond .eq 19, 3) := by decide +kernel
theorem dX12_ratio_32 : decode cX12_ratio 32 = .ok (.aload_n 0, 1) := by decide +kernel
theorem dX12_ratio_33 : decode cX12_ratio 33 = .ok (.iload_n 1, 1) := by decide +kernel
theorem dX12_ratio_34 : decode cX12_ratio 34 = .ok (.invokevirtual 247, 3) := by decide +kernel
theorem dX12_ratio_37 : decode cX12_ratio 37 = .ok (.ifCond .ne 11, 3) := by decide +kernel
theorem dX12_ratio_40 : decode cX12_ratio 40 = .ok (.aload_n 0, 1) := by decide +kernel
theorem dX12_ratio_41 : decode cX12_ratio 41 = .ok (.iload_n 2, 1) := by decide +kernel
theorem dX12_ratio_42 : decode cX12_ratio 42 = .ok (.invokevirtual 247, 3) := by decide +kernel
theorem dX12_ratio_45 : decode cX12_ratio 45 = .ok (.ifCond .eq 7, 3) := by decide +kernel
theorem dX12_ratio_48 : decode cX12_ratio 48 = .ok (.ldc2_w 137, 3) := by decide +kernel
theorem dX12_ratio_51 : decode cX12_ratio 51 = .ok (.lreturn, 1) := by decide +kernel
theorem dX12_ratio_52 : decode cX12_ratio 52 = .ok (.aload_n 0, 1) := by decide +kernel
theorem dX12_ratio_53 : decode cX12_ratio 53 = .ok (.iconst 0, 1) := by decide +kernel
theorem dX12_ratio_54 : decode cX12_ratio 54 = .ok (.putfield 133, 3) := by decide +kernel
theorem dX12_ratio_57 : decode cX12_ratio 57 = .ok (.aload_n 0, 1) := by decide +kernel
theorem dX12_ratio_58 : decode cX12_ratio 58 = .ok (.aload_n 0, 1) := by decide +kernel
theorem dX12_ratio_59 : decode cX12_ratio 59 = .ok (.getfield 22, 3) := by decide +kernel
theorem dX12_ratio_62 : decode cX12_ratio 62 = .ok (.iload_n 2, 1) := by decide +kernel
theorem dX12_ratio_63 : decode cX12_ratio 63 = .ok (.laload, 1) := by decide +kernel
theorem dX12_ratio_64 : decode cX12_ratio 64 = .ok (.aload_n 0, 1) := by decide +kernel
theorem dX12_ratio_65 : decode cX12_ratio 65 = .ok (.getfield 26, 3) := by decide +kernel
theorem dX12_ratio_68 : decode cX12_ratio 68 = .ok (.iload_n 2, 1) := by decide +kernel
theorem dX12_ratio_69 : decode cX12_ratio 69 = .ok (.laload, 1) := by decide +kernel
theorem dX12_ratio_70 : decode cX12_ratio 70 = .ok (.aload_n 0, 1) := by decide +kernel
theorem dX12_ratio_71 : decode cX12_ratio 71 = .ok (.getfield 22, 3) := by decide +kernel
theorem dX12_ratio_74 : decode cX12_ratio 74 = .ok (.iload_n 1, 1) := by decide +kernel
theorem dX12_ratio_75 : decode cX12_ratio 75 = .ok (.laload, 1) := by decide +kernel
theorem dX12_ratio_76 : decode cX12_ratio 76 = .ok (.aload_n 0, 1) := by decide +kernel
theorem dX12_ratio_77 : decode cX12_ratio 77 = .ok (.getfield 26, 3) := by decide +kernel
theorem dX12_ratio_80 : decode cX12_ratio 80 = .ok (.iload_n 1, 1) := by decide +kernel
theorem dX12_ratio_81 : decode cX12_ratio 81 = .ok (.laload, 1) := by decide +kernel
theorem dX12_ratio_82 : decode cX12_ratio 82 = .ok (.invokevirtual 253, 3) := by decide +kernel
theorem dX12_ratio_85 : decode cX12_ratio 85 = .ok (.aload_n 0, 1) := by decide +kernel
theorem dX12_ratio_86 : decode cX12_ratio 86 = .ok (.iload_n 3, 1) := by decide +kernel
theorem dX12_ratio_87 : decode cX12_ratio 87 = .ok (.invokevirtual 299, 3) := by decide +kernel
theorem dX12_ratio_90 : decode cX12_ratio 90 = .ok (.lreturn, 1) := by decide +kernel
theorem dX12_isLesser_0 : decode cX12_isLesser 0 = .ok (.aload_n 0, 1) := by decide +kernel
theorem dX12_isLesser_1 : decode cX12_isLesser 1 = .ok (.getfield 22, 3) := by decide +kernel
theorem dX12_isLesser_4 : decode cX12_isLesser 4 = .ok (.iload_n 1, 1) := by decide +kernel
theorem dX12_isLesser_5 : decode cX12_isLesser 5 = .ok (.laload, 1) := by decide +kernel
theorem dX12_isLesser_6 : decode cX12_isLesser 6 = .ok (.aload_n 0, 1) := by decide +kernel
theorem dX12_isLesser_7 : decode cX12_isLesser 7 = .ok (.getfield 26, 3) := by decide +kernel
theorem dX12_isLesser_10 : decode cX12_isLesser 10 = .ok (.iload_n 1, 1) := by decide +kernel
theorem dX12_isLesser_11 : decode cX12_isLesser 11 = .ok (.laload, 1) := by decide +kernel
theorem dX12_isLesser_12 : decode cX12_isLesser 12 = .ok (.aload_n 0, 1) := by decide +kernel
theorem dX12_isLesser_13 : decode cX12_isLesser 13 = .ok (.getfield 22, 3) := by decide +kernel
theorem dX12_isLesser_16 : decode cX12_isLesser 16 = .ok (.iload_n 2, 1) := by decide +kernel
theorem dX12_isLesser_17 : decode cX12_isLesser 17 = .ok (.laload, 1) := by decide +kernel
theorem dX12_isLesser_18 : decode cX12_isLesser 18 = .ok (.aload_n 0, 1) := by decide +kernel
theorem dX12_isLesser_19 : decode cX12_isLesser 19 = .ok (.getfield 26, 3) := by decide +kernel
theorem dX12_isLesser_22 : decode cX12_isLesser 22 = .ok (.iload_n 2, 1) := by decide +kernel
theorem dX12_isLesser_23 : decode cX12_isLesser 23 = .ok (.laload, 1) := by decide +kernel
theorem dX12_isLesser_24 : decode cX12_isLesser 24 = .ok (.invokestatic 303, 3) := by decide +kernel
theorem dX12_isLesser_27 : decode cX12_isLesser 27 = .ok (.ireturn, 1) := by decide +kernel
theorem dX12_nearest_0 : decode cX12_nearest 0 = .ok (.aload_n 0, 1) := by decide +kernel
theorem dX12_nearest_1 : decode cX12_nearest 1 = .ok (.iload_n 1, 1) := by decide +kernel
theorem dX12_nearest_2 : decode cX12_nearest 2 = .ok (.invokevirtual 283, 3) := by decide +kernel
theorem dX12_nearest_5 : decode cX12_nearest 5 = .ok (.ifCond .ne 5, 3) := by decide +kernel
theorem dX12_nearest_8 : decode cX12_nearest 8 = .ok (.iconst (-1), 1) := by decide +kernel
theorem dX12_nearest_9 : decode cX12_nearest 9 = .ok (.ireturn, 1) := by decide +kernel
theorem dX12_nearest_10 : decode cX12_nearest 10 = .ok (.iload_n 2, 1) := by decide +kernel
theorem dX12_nearest_11 : decode cX12_nearest 11 = .ok (.i2l, 1) := by decide +kernel
theorem dX12_nearest_12 : decode cX12_nearest 12 = .ok (.lconst 1, 1) := by decide +kernel
theorem dX12_nearest_13 : decode cX12_nearest 13 = .ok (.ldc2_w 307, 3) := by decide +kernel
theorem dX12_nearest_16 : decode cX12_nearest 16 = .ok (.invokestatic 161, 3) := by decide +kernel
theorem dX12_nearest_19 : decode cX12_nearest 19 = .ok (.ifCond .eq 15, 3) := by decide +kernel
theorem dX12_nearest_22 : decode cX12_nearest 22 = .ok (.iload_n 3, 1) := by decide +kernel
theorem dX12_nearest_23 : decode cX12_nearest 23 = .ok (.i2l, 1) := by decide +kernel
theorem dX12_nearest_24 : decode cX12_nearest 24 = .ok (.lconst 1, 1) := by decide +kernel
theorem dX12_nearest_25 : decode cX12_nearest 25 = .ok (.ldc2_w 307, 3) := by decide +kernel
theorem dX12_nearest_28 : decode cX12_nearest 28 = .ok (.invokestatic 161, 3) := by decide +kernel
theorem dX12_nearest_31 : decode cX12_nearest 31 = .ok (.ifCond .ne 6, 3) := by decide +kernel
theorem dX12_nearest_34 : decode cX12_nearest 34 = .ok (.bipush (-2), 2) := by decide +kernel
theorem dX12_nearest_36 : decode cX12_nearest 36 = .ok (.ireturn, 1) := by decide +kernel
theorem dX12_nearest_37 : decode cX12_nearest 37 = .ok (.aload_n 0, 1) := by decide +kernel
theorem dX12_nearest_38 : decode cX12_nearest 38 = .ok (.iconst 0, 1) := by decide +kernel
theorem dX12_nearest_39 : decode cX12_nearest 39 = .ok (.putfield 133, 3) := by decide +kernel
theorem dX12_nearest_42 : decode cX12_nearest 42 = .ok (.aload_n 0, 1) := by decide +kernel
theorem dX12_nearest_43 : decode cX12_nearest 43 = .ok (.iload_n 2, 1) := by decide +kernel
theorem dX12_nearest_44 : decode cX12_nearest 44 = .ok (.i2l, 1) := by decide +kernel
theorem dX12_nearest_45 : decode cX12_nearest 45 = .ok (.iload_n 3, 1) := by decide +kernel
theorem dX12_nearest_46 : decode cX12_nearest 46 = .ok (.i2l, 1) := by decide +kernel
theorem dX12_nearest_47 : decode cX12_nearest 47 = .ok (.invokevirtual 157, 3) := by decide +kernel
theorem dX12_nearest_50 : decode cX12_nearest 50 = .ok (.aload_n 0, 1) := by decide +kernel
theorem dX12_nearest_51 : decode cX12_nearest 51 = .ok (.aload_n 0, 1) := by decide +kernel
theorem dX12_nearest_52 : decode cX12_nearest 52 = .ok (.getfield 143, 3) := by decide +kernel
theorem dX12_nearest_55 : decode cX12_nearest 55 = .ok (.aload_n 0, 1) := by decide +kernel
theorem dX12_nearest_56 : decode cX12_nearest 56 = .ok (.getfield 147, 3) := by decide +kernel
theorem dX12_nearest_59 : decode cX12_nearest 59 = .ok (.aload_n 0, 1) := by decide +kernel
theorem dX12_nearest_60 : decode cX12_nearest 60 = .ok (.getfield 22, 3) := by decide +kernel
theorem dX12_nearest_63 : decode cX12_nearest 63 = .ok (.iload_n 1, 1) := by decide +kernel
theorem dX12_nearest_64 : decode cX12_nearest 64 = .ok (.laload, 1) := by decide +kernel
theorem dX12_nearest_65 : decode cX12_nearest 65 = .ok (.aload_n 0, 1) := by decide +kernel
theorem dX12_nearest_66 : decode cX12_nearest 66 = .ok (.getfield 26, 3) := by decide +kernel
theorem dX12_nearest_69 : decode cX12_nearest 69 = .ok (.iload_n 1, 1) := by decide +kernel
theorem dX12_nearest_70 : decode cX12_nearest 70 = .ok (.laload, 1) := by decide +kernel
theorem dX12_nearest_71 : decode cX12_nearest 71 = .ok (.invokevirtual 153, 3) := by decide +kernel
theorem dX12_nearest_74 : decode cX12_nearest 74 = .ok (.aload_n 0, 1) := by decide +kernel
theorem dX12_nearest_75 : decode cX12_nearest 75 = .ok (.getfield 133, 3) := by decide +kernel
theorem dX12_nearest_78 : decode cX12_nearest 78 = .ok (.ifCond .eq 6, 3) := by decide +kernel
theorem dX12_nearest_81 : decode cX12_nearest 81 = .ok (.bipush (-5), 2) := by decide +kernel
theorem dX12_nearest_83 : decode cX12_nearest 83 = .ok (.ireturn, 1) := by decide +kernel
theorem dX12_nearest_84 : decode cX12_nearest 84 = .ok (.bipush (-5), 2) := by decide +kernel
theorem dX12_nearest_86 : decode cX12_nearest 86 = .ok (.istore 4, 2) := by decide +kernel
theorem dX12_nearest_88 : decode cX12_nearest 88 = .ok (.iconst 0, 1) := by decide +kernel
theorem dX12_nearest_89 : decode cX12_nearest 89 = .ok (.istore 5, 2) := by decide +kernel
theorem dX12_nearest_91 : decode cX12_nearest 91 = .ok (.iload 5, 2) := by decide +kernel
theorem dX12_nearest_93 : decode cX12_nearest 93 = .ok (.aload_n 0, 1) := by decide +kernel
theorem dX12_nearest_94 : decode cX12_nearest 94 = .ok (.getfield 11, 3) := by decide +kernel
theorem dX12_nearest_97 : decode cX12_nearest 97 = .ok (.if_icmp .ge 70, 3) := by decide +kernel
theorem dX12_nearest_100 : decode cX12_nearest 100 = .ok (.aload_n 0, 1) := by decide +kernel
theorem dX12_nearest_101 : decode cX12_nearest 101 = .ok (.iload 5, 2) := by decide +kernel
theorem dX12_nearest_103 : decode cX12_nearest 103 = .ok (.iload_n 1, 1) := by decide +kernel
theorem dX12_nearest_104 : decode cX12_nearest 104 = .ok (.invokevirtual 295, 3) := by decide +kernel
theorem dX12_nearest_107 : decode cX12_nearest 107 = .ok (.ifCond .eq 54, 3) := by decide +kernel
theorem dX12_nearest_110 : decode cX12_nearest 110 = .ok (.aload_n 0, 1) := by decide +kernel
theorem dX12_nearest_111 : decode cX12_nearest 111 = .ok (.getfield 143, 3) := by decide +kernel
theorem dX12_nearest_114 : decode cX12_nearest 114 = .ok (.aload_n 0, 1) := by decide +kernel
theorem dX12_nearest_115 : decode cX12_nearest 115 = .ok (.getfield 147, 3) := by decide +kernel
theorem dX12_nearest_118 : decode cX12_nearest 118 = .ok (.aload_n 0, 1) := by decide +kernel
theorem dX12_nearest_119 : decode cX12_nearest 119 = .ok (.getfield 22, 3) := by decide +kernel
theorem dX12_nearest_122 : decode cX12_nearest 122 = .ok (.iload 5, 2) := by decide +kernel
theorem dX12_nearest_124 : decode cX12_nearest 124 = .ok (.laload, 1) := by decide +kernel
theorem dX12_nearest_125 : decode cX12_nearest 125 = .ok (.aload_n 0, 1) := by decide +kernel
theorem dX12_nearest_126 : decode cX12_nearest 126 = .ok (.getfield 26, 3) := by decide +kernel
theorem dX12_nearest_129 : decode cX12_nearest 129 = .ok (.iload 5, 2) := by decide +kernel
theorem dX12_nearest_131 : decode cX12_nearest 131 = .ok (.laload, 1) := by decide +kernel
theorem dX12_nearest_132 : decode cX12_nearest 132 = .ok (.invokestatic 303, 3) := by decide +kernel
theorem dX12_nearest_135 : decode cX12_nearest 135 = .ok (.ifCond .eq 6, 3) := by decide +kernel
theorem dX12_nearest_138 : decode cX12_nearest 138 = .ok (.goto 23, 3) := by decide +kernel
theorem dX12_nearest_141 : decode cX12_nearest 141 = .ok (.iload 4, 2) := by decide +kernel
theorem dX12_nearest_143 : decode cX12_nearest 143 = .ok (.ifCond .lt 14, 3) := by decide +kernel
theorem dX12_nearest_146 : decode cX12_nearest 146 = .ok (.aload_n 0, 1) := by decide +kernel
theorem dX12_nearest_147 : decode cX12_nearest 147 = .ok (.iload 4, 2) := by decide +kernel
theorem dX12_nearest_149 : decode cX12_nearest 149 = .ok (.iload 5, 2) := by decide +kernel
theorem dX12_nearest_151 : decode cX12_nearest 151 = .ok (.invokevirtual 309, 3) := by decide +kernel
theorem dX12_nearest_154 : decode cX12_nearest 154 = .ok (.ifCond .eq 7, 3) := by decide +kernel
theorem dX12_nearest_157 : decode cX12_nearest 157 = .ok (.iload 5, 2) := by decide +kernel
theorem dX12_nearest_159 : decode cX12_nearest 159 = .ok (.istore 4, 2) := by decide +kernel
theorem dX12_nearest_161 : decode cX12_nearest 161 = .ok (.iinc 5 1, 3) := by decide +kernel
theorem dX12_nearest_164 : decode cX12_nearest 164 = .ok (.goto (-73), 3) := by decide +kernel
theorem dX12_nearest_167 : decode cX12_nearest 167 = .ok (.iload 4, 2) := by decide +kernel
theorem dX12_nearest_169 : decode cX12_nearest 169 = .ok (.ireturn, 1) := by decide +kernel
theorem dX12_amount_0 : decode cX12_amount 0 = .ok (.aload_n 0, 1) := by decide +kernel
theorem dX12_amount_1 : decode cX12_amount 1 = .ok (.bipush 6, 2) := by decide +kernel
theorem dX12_amount_3 : decode cX12_amount 3 = .ok (.invokevirtual 206, 3) := by decide +kernel
theorem dX12_amount_6 : decode cX12_amount 6 = .ok (.i2l, 1) := by decide +kernel
theorem dX12_amount_7 : decode cX12_amount 7 = .ok (.ldc2_w 312, 3) := by decide +kernel
theorem dX12_amount_10 : decode cX12_amount 10 = .ok (.lmul, 1) := by decide +kernel
theorem dX12_amount_11 : decode cX12_amount 11 = .ok (.lstore_n 1, 1) := by decide +kernel
theorem dX12_amount_12 : decode cX12_amount 12 = .ok (.aload_n 0, 1) := by decide +kernel
theorem dX12_amount_13 : decode cX12_amount 13 = .ok (.getfield 189, 3) := by decide +kernel
theorem dX12_amount_16 : decode cX12_amount 16 = .ok (.ifCond .ge 12, 3) := by decide +kernel
theorem dX12_amount_19 : decode cX12_amount 19 = .ok (.aload_n 0, 1) := by decide +kernel
theorem dX12_amount_20 : decode cX12_amount 20 = .ok (.invokevirtual 177, 3) := by decide +kernel
theorem dX12_amount_23 : decode cX12_amount 23 = .ok (.bipush 46, 2) := by decide +kernel
theorem dX12_amount_25 : decode cX12_amount 25 = .ok (.if_icmp .eq 5, 3) := by decide +kernel
theorem dX12_amount_28 : decode cX12_amount 28 = .ok (.lload_n 1, 1) := by decide +kernel
theorem dX12_amount_29 : decode cX12_amount 29 = .ok (.lreturn, 1) := by decide +kernel
theorem dX12_amount_30 : decode cX12_amount 30 = .ok (.aload_n 0, 1) := by decide +kernel
theorem dX12_amount_31 : decode cX12_amount 31 = .ok (.dup, 1) := by decide +kernel
theorem dX12_amount_32 : decode cX12_amount 32 = .ok (.getfield 174, 3) := by decide +kernel
theorem dX12_amount_35 : decode cX12_amount 35 = .ok (.iconst 1, 1) := by decide +kernel
theorem dX12_amount_36 : decode cX12_amount 36 = .ok (.iadd, 1) := by decide +kernel
theorem dX12_amount_37 : decode cX12_amount 37 = .ok (.putfield 174, 3) := by decide +kernel
theorem dX12_amount_40 : decode cX12_amount 40 = .ok (.aload_n 0, 1) := by decide +kernel
theorem dX12_amount_41 : decode cX12_amount 41 = .ok (.getfield 174, 3) := by decide +kernel
theorem dX12_amount_44 : decode cX12_amount 44 = .ok (.istore_n 3, 1) := by decide +kernel
theorem dX12_amount_45 : decode cX12_amount 45 = .ok (.aload_n 0, 1) := by decide +kernel
theorem dX12_amount_46 : decode cX12_amount 46 = .ok (.iconst 3, 1) := by decide +kernel
theorem dX12_amount_47 : decode cX12_amount 47 = .ok (.invokevirtual 206, 3) := by decide +kernel
theorem dX12_amount_50 : decode cX12_amount 50 = .ok (.istore 4, 2) := by decide +kernel
theorem dX12_amount_52 : decode cX12_amount 52 = .ok (.aload_n 0, 1) := by decide +kernel
theorem dX12_amount_53 : decode cX12_amount 53 = .ok (.getfield 174, 3) := by decide +kernel
theorem dX12_amount_56 : decode cX12_amount 56 = .ok (.iload_n 3, 1) := by decide +kernel
theorem dX12_amount_57 : decode cX12_amount 57 = .ok (.isub, 1) := by decide +kernel
theorem dX12_amount_58 : decode cX12_amount 58 = .ok (.istore 5, 2) := by decide +kernel
theorem dX12_amount_60 : decode cX12_amount 60 = .ok (.iload 5, 2) := by decide +kernel
theorem dX12_amount_62 : decode cX12_amount 62 = .ok (.iconst 3, 1) := by decide +kernel
theorem dX12_amount_63 : decode cX12_amount 63 = .ok (.if_icmp .ge 16, 3) := by decide +kernel
theorem dX12_amount_66 : decode cX12_amount 66 = .ok (.iload 4, 2) := by decide +kernel
theorem dX12_amount_68 : decode cX12_amount 68 = .ok (.bipush 10, 2) := by decide +kernel
theorem dX12_amount_70 : decode cX12_amount 70 = .ok (.imul, 1) := by decide +kernel
theorem dX12_amount_71 : decode cX12_amount 71 = .ok (.istore 4, 2) := by decide +kernel
theorem dX12_amount_73 : decode cX12_amount 73 = .ok (.iinc 5 1, 3) := by decide +kernel
theorem dX12_amount_76 : decode cX12_amount 76 = .ok (.goto (-16), 3) := by decide +kernel
theorem dX12_amount_79 : decode cX12_amount 79 = .ok (.lload_n 1, 1) := by decide +kernel
theorem dX12_amount_80 : decode cX12_amount 80 = .ok (.iload 4, 2) := by decide +kernel
theorem dX12_amount_82 : decode cX12_amount 82 = .ok (.i2l, 1) := by decide +kernel
theorem dX12_amount_83 : decode cX12_amount 83 = .ok (.ladd, 1) := by decide +kernel
theorem dX12_amount_84 : decode cX12_amount 84 = .ok (.lreturn, 1) := by decide +kernel
theorem dX12_unit_0 : decode cX12_unit 0 = .ok (.aload_n 0, 1) := by decide +kernel
theorem dX12_unit_1 : decode cX12_unit 1 = .ok (.getfield 174, 3) := by decide +kernel
theorem dX12_unit_4 : decode cX12_unit 4 = .ok (.istore_n 1, 1) := by decide +kernel
theorem dX12_unit_5 : decode cX12_unit 5 = .ok (.aload_n 0, 1) := by decide +kernel
theorem dX12_unit_6 : decode cX12_unit 6 = .ok (.invokevirtual 212, 3) := by decide +kernel
theorem dX12_unit_9 : decode cX12_unit 9 = .ok (.istore_n 2, 1) := by decide +kernel
theorem dX12_unit_10 : decode cX12_unit 10 = .ok (.aload_n 0, 1) := by decide +kernel
theorem dX12_unit_11 : decode cX12_unit 11 = .ok (.getfield 189, 3) := by decide +kernel
theorem dX12_unit_14 : decode cX12_unit 14 = .ok (.ifCond .ge 12, 3) := by decide +kernel
theorem dX12_unit_17 : decode cX12_unit 17 = .ok (.aload_n 0, 1) := by decide +kernel
theorem dX12_unit_18 : decode cX12_unit 18 = .ok (.iload_n 1, 1) := by decide +kernel
theorem dX12_unit_19 : decode cX12_unit 19 = .ok (.iload_n 2, 1) := by decide +kernel
theorem dX12_unit_20 : decode cX12_unit 20 = .ok (.invokevirtual 243, 3) := by decide +kernel
theorem dX12_unit_23 : decode cX12_unit 23 = .ok (.goto 4, 3) := by decide +kernel
theorem dX12_unit_26 : decode cX12_unit 26 = .ok (.iconst (-1), 1) := by decide +kernel
theorem dX12_unit_27 : decode cX12_unit 27 = .ok (.ireturn, 1) := by decide +kernel
theorem dX12_isOwn_0 : decode cX12_isOwn 0 = .ok (.aload_n 0, 1) := by decide +kernel
theorem dX12_isOwn_1 : decode cX12_isOwn 1 = .ok (.getfield 174, 3) := by decide +kernel
theorem dX12_isOwn_4 : decode cX12_isOwn 4 = .ok (.iconst 1, 1) := by decide +kernel
theorem dX12_isOwn_5 : decode cX12_isOwn 5 = .ok (.iadd, 1) := by decide +kernel
theorem dX12_isOwn_6 : decode cX12_isOwn 6 = .ok (.aload_n 0, 1) := by decide +kernel
theorem dX12_isOwn_7 : decode cX12_isOwn 7 = .ok (.getfield 171, 3) := by decide +kernel
theorem dX12_isOwn_10 : decode cX12_isOwn 10 = .ok (.if_icmp .ge 17, 3) := by decide +kernel
theorem dX12_isOwn_13 : decode cX12_isOwn 13 = .ok (.aload_n 0, 1) := by decide +kernel
theorem dX12_isOwn_14 : decode cX12_isOwn 14 = .ok (.getfield 59, 3) := by decide +kernel
theorem dX12_isOwn_17 : decode cX12_isOwn 17 = .ok (.aload_n 0, 1) := by decide +kernel
theorem dX12_isOwn_18 : decode cX12_isOwn 18 = .ok (.getfield 174, 3) := by decide +kernel
theorem dX12_isOwn_21 : decode cX12_isOwn 21 = .ok (.iconst 1, 1) := by decide +kernel
theorem dX12_isOwn_22 : decode cX12_isOwn 22 = .ok (.iadd, 1) := by decide +kernel
theorem dX12_isOwn_23 : decode cX12_isOwn 23 = .ok (.iaload, 1) := by decide +kernel
theorem dX12_isOwn_24 : decode cX12_isOwn 24 = .ok (.goto 4, 3) := by decide +kernel
theorem dX12_isOwn_27 : decode cX12_isOwn 27 = .ok (.iconst 0, 1) := by decide +kernel
theorem dX12_isOwn_28 : decode cX12_isOwn 28 = .ok (.istore_n 1, 1) := by decide +kernel
theorem dX12_isOwn_29 : decode cX12_isOwn 29 = .ok (.aload_n 0, 1) := by decide +kernel
theorem dX12_isOwn_30 : decode cX12_isOwn 30 = .ok (.invokevirtual 177, 3) := by decide +kernel
theorem dX12_isOwn_33 : decode cX12_isOwn 33 = .ok (.i2l, 1) := by decide +kernel
theorem dX12_isOwn_34 : decode cX12_isOwn 34 = .ok (.ldc2_w 202, 3) := by decide +kernel
theorem dX12_isOwn_37 : decode cX12_isOwn 37 = .ok (.ldc2_w 204, 3) := by decide +kernel
theorem dX12_isOwn_40 : decode cX12_isOwn 40 = .ok (.invokestatic 161, 3) := by decide +kernel
theorem dX12_isOwn_43 : decode cX12_isOwn 43 = .ok (.ifCond .eq 41, 3) := by decide +kernel
theorem dX12_isOwn_46 : decode cX12_isOwn 46 = .ok (.iload_n 1, 1) := by decide +kernel
theorem dX12_isOwn_47 : decode cX12_isOwn 47 = .ok (.bipush 46, 2) := by decide +kernel
theorem dX12_isOwn_49 : decode cX12_isOwn 49 = .ok (.if_icmp .eq 35, 3) := by decide +kernel
theorem dX12_isOwn_52 : decode cX12_isOwn 52 = .ok (.iload_n 1, 1) := by decide +kernel
theorem dX12_isOwn_53 : decode cX12_isOwn 53 = .ok (.i2l, 1) := by decide +kernel
theorem dX12_isOwn_54 : decode cX12_isOwn 54 = .ok (.ldc2_w 185, 3) := by decide +kernel
theorem dX12_isOwn_57 : decode cX12_isOwn 57 = .ok (.ldc2_w 187, 3) := by decide +kernel
theorem dX12_isOwn_60 : decode cX12_isOwn 60 = .ok (.invokestatic 161, 3) := by decide +kernel
theorem dX12_isOwn_63 : decode cX12_isOwn 63 = .ok (.ifCond .ne 21, 3) := by decide +kernel
theorem dX12_isOwn_66 : decode cX12_isOwn 66 = .ok (.iload_n 1, 1) := by decide +kernel
theorem dX12_isOwn_67 : decode cX12_isOwn 67 = .ok (.i2l, 1) := by decide +kernel
theorem dX12_isOwn_68 : decode cX12_isOwn 68 = .ok (.ldc2_w 181, 3) := by decide +kernel
theorem dX12_isOwn_71 : decode cX12_isOwn 71 = .ok (.ldc2_w 183, 3) := by decide +kernel
theorem dX12_isOwn_74 : decode cX12_isOwn 74 = .ok (.invokestatic 161, 3) := by decide +kernel
theorem dX12_isOwn_77 : decode cX12_isOwn 77 = .ok (.ifCond .ne 7, 3) := by decide +kernel
theorem dX12_isOwn_80 : decode cX12_isOwn 80 = .ok (.iconst 1, 1) := by decide +kernel
theorem dX12_isOwn_81 : decode cX12_isOwn 81 = .ok (.goto 4, 3) := by decide +kernel
theorem dX12_isOwn_84 : decode cX12_isOwn 84 = .ok (.iconst 0, 1) := by decide +kernel
theorem dX12_isOwn_85 : decode cX12_isOwn 85 = .ok (.ireturn, 1) := by decide +kernel
theorem dX12_goesOn_0 : decode cX12_goesOn 0 = .ok (.aload_n 0, 1) := by decide +kernel
theorem dX12_goesOn_1 : decode cX12_goesOn 1 = .ok (.getfield 314, 3) := by decide +kernel
theorem dX12_goesOn_4 : decode cX12_goesOn 4 = .ok (.ifCond .eq 14, 3) := by decide +kernel
theorem dX12_goesOn_7 : decode cX12_goesOn 7 = .ok (.aload_n 0, 1) := by decide +kernel
theorem dX12_goesOn_8 : decode cX12_goesOn 8 = .ok (.getfield 317, 3) := by decide +kernel
theorem dX12_goesOn_11 : decode cX12_goesOn 11 = .ok (.ifCond .ne 7, 3) := by decide +kernel
theorem dX12_goesOn_14 : decode cX12_goesOn 14 = .ok (.iconst 1, 1) := by decide +kernel
theorem dX12_goesOn_15 : decode cX12_goesOn 15 = .ok (.goto 4, 3) := by decide +kernel
theorem dX12_goesOn_18 : decode cX12_goesOn 18 = .ok (.iconst 0, 1) := by decide +kernel
theorem dX12_goesOn_19 : decode cX12_goesOn 19 = .ok (.ireturn, 1) := by decide +kernel
theorem dX12_ends_0 : decode cX12_ends 0 = .ok (.aload_n 0, 1) := by decide +kernel
theorem dX12_ends_1 : decode cX12_ends 1 = .ok (.iload_n 1, 1) := by decide +kernel
theorem dX12_ends_2 : decode cX12_ends 2 = .ok (.putfield 317, 3) := by decide +kernel
theorem dX12_ends_5 : decode cX12_ends 5 = .ok (.iconst (-1), 1) := by decide +kernel
theorem dX12_ends_6 : decode cX12_ends 6 = .ok (.ireturn, 1) := by decide +kernel
theorem dX12_stepComes_0 : decode cX12_stepComes 0 = .ok (.aload_n 0, 1) := by decide +kernel
theorem dX12_stepComes_1 : decode cX12_stepComes 1 = .ok (.getfield 77, 3) := by decide +kernel
theorem dX12_stepComes_4 : decode cX12_stepComes 4 = .ok (.aload_n 0, 1) := by decide +kernel
theorem dX12_stepComes_5 : decode cX12_stepComes 5 = .ok (.getfield 320, 3) := by decide +kernel
theorem dX12_stepComes_8 : decode cX12_stepComes 8 = .ok (.iload_n 1, 1) := by decide +kernel
theorem dX12_stepComes_9 : decode cX12_stepComes 9 = .ok (.iastore, 1) := by decide +kernel
theorem dX12_stepComes_10 : decode cX12_stepComes 10 = .ok (.iconst 0, 1) := by decide +kernel
theorem dX12_stepComes_11 : decode cX12_stepComes 11 = .ok (.istore_n 2, 1) := by decide +kernel
theorem dX12_stepComes_12 : decode cX12_stepComes 12 = .ok (.iload_n 2, 1) := by decide +kernel
theorem dX12_stepComes_13 : decode cX12_stepComes 13 = .ok (.iconst 5, 1) := by decide +kernel
theorem dX12_stepComes_14 : decode cX12_stepComes 14 = .ok (.if_icmp .ge 28, 3) := by decide +kernel
theorem dX12_stepComes_17 : decode cX12_stepComes 17 = .ok (.aload_n 0, 1) := by decide +kernel
theorem dX12_stepComes_18 : decode cX12_stepComes 18 = .ok (.getfield 80, 3) := by decide +kernel
theorem dX12_stepComes_21 : decode cX12_stepComes 21 = .ok (.iconst 5, 1) := by decide +kernel
theorem dX12_stepComes_22 : decode cX12_stepComes 22 = .ok (.aload_n 0, 1) := by decide +kernel
theorem dX12_stepComes_23 : decode cX12_stepComes 23 = .ok (.getfield 320, 3) := by decide +kernel
theorem dX12_stepComes_26 : decode cX12_stepComes 26 = .ok (.imul, 1) := by decide +kernel
theorem dX12_stepComes_27 : decode cX12_stepComes 27 = .ok (.iload_n 2, 1) := by decide +kernel
theorem dX12_stepComes_28 : decode cX12_stepComes 28 = .ok (.iadd, 1) := by decide +kernel
theorem dX12_stepComes_29 : decode cX12_stepComes 29 = .ok (.aload_n 0, 1) := by decide +kernel
theorem dX12_stepComes_30 : decode cX12_stepComes 30 = .ok (.getfield 74, 3) := by decide +kernel
theorem dX12_stepComes_33 : decode cX12_stepComes 33 = .ok (.iload_n 2, 1) := by decide +kernel
theorem dX12_stepComes_34 : decode cX12_stepComes 34 = .ok (.iaload, 1) := by decide +kernel
theorem dX12_stepComes_35 : decode cX12_stepComes 35 = .ok (.iastore, 1) := by decide +kernel
theorem dX12_stepComes_36 : decode cX12_stepComes 36 = .ok (.iinc 2 1, 3) := by decide +kernel
theorem dX12_stepComes_39 : decode cX12_stepComes 39 = .ok (.goto (-27), 3) := by decide +kernel
theorem dX12_stepComes_42 : decode cX12_stepComes 42 = .ok (.aload_n 0, 1) := by decide +kernel
theorem dX12_stepComes_43 : decode cX12_stepComes 43 = .ok (.getfield 83, 3) := by decide +kernel
theorem dX12_stepComes_46 : decode cX12_stepComes 46 = .ok (.aload_n 0, 1) := by decide +kernel
theorem dX12_stepComes_47 : decode cX12_stepComes 47 = .ok (.getfield 320, 3) := by decide +kernel
theorem dX12_stepComes_50 : decode cX12_stepComes 50 = .ok (.aload_n 0, 1) := by decide +kernel
theorem dX12_stepComes_51 : decode cX12_stepComes 51 = .ok (.getfield 143, 3) := by decide +kernel
theorem dX12_stepComes_54 : decode cX12_stepComes 54 = .ok (.lastore, 1) := by decide +kernel
theorem dX12_stepComes_55 : decode cX12_stepComes 55 = .ok (.aload_n 0, 1) := by decide +kernel
theorem dX12_stepComes_56 : decode cX12_stepComes 56 = .ok (.getfield 86, 3) := by decide +kernel
theorem dX12_stepComes_59 : decode cX12_stepComes 59 = .ok (.aload_n 0, 1) := by decide +kernel
theorem dX12_stepComes_60 : decode cX12_stepComes 60 = .ok (.getfield 320, 3) := by decide +kernel
theorem dX12_stepComes_63 : decode cX12_stepComes 63 = .ok (.aload_n 0, 1) := by decide +kernel
theorem dX12_stepComes_64 : decode cX12_stepComes 64 = .ok (.getfield 147, 3) := by decide +kernel
theorem dX12_stepComes_67 : decode cX12_stepComes 67 = .ok (.lastore, 1) := by decide +kernel
theorem dX12_stepComes_68 : decode cX12_stepComes 68 = .ok (.aload_n 0, 1) := by decide +kernel
theorem dX12_stepComes_69 : decode cX12_stepComes 69 = .ok (.dup, 1) := by decide +kernel
theorem dX12_stepComes_70 : decode cX12_stepComes 70 = .ok (.getfield 320, 3) := by decide +kernel
theorem dX12_stepComes_73 : decode cX12_stepComes 73 = .ok (.iconst 1, 1) := by decide +kernel
theorem dX12_stepComes_74 : decode cX12_stepComes 74 = .ok (.iadd, 1) := by decide +kernel
theorem dX12_stepComes_75 : decode cX12_stepComes 75 = .ok (.putfield 320, 3) := by decide +kernel
theorem dX12_stepComes_78 : decode cX12_stepComes 78 = .ok (.aload_n 0, 1) := by decide +kernel
theorem dX12_stepComes_79 : decode cX12_stepComes 79 = .ok (.getfield 320, 3) := by decide +kernel
theorem dX12_stepComes_82 : decode cX12_stepComes 82 = .ok (.iconst 1, 1) := by decide +kernel
theorem dX12_stepComes_83 : decode cX12_stepComes 83 = .ok (.isub, 1) := by decide +kernel
theorem dX12_stepComes_84 : decode cX12_stepComes 84 = .ok (.ireturn, 1) := by decide +kernel
theorem dX12_clears_0 : decode cX12_clears 0 = .ok (.iconst 0, 1) := by decide +kernel
theorem dX12_clears_1 : decode cX12_clears 1 = .ok (.istore_n 1, 1) := by decide +kernel
theorem dX12_clears_2 : decode cX12_clears 2 = .ok (.iload_n 1, 1) := by decide +kernel
theorem dX12_clears_3 : decode cX12_clears 3 = .ok (.iconst 5, 1) := by decide +kernel
theorem dX12_clears_4 : decode cX12_clears 4 = .ok (.if_icmp .ge 16, 3) := by decide +kernel
theorem dX12_clears_7 : decode cX12_clears 7 = .ok (.aload_n 0, 1) := by decide +kernel
theorem dX12_clears_8 : decode cX12_clears 8 = .ok (.getfield 74, 3) := by decide +kernel
theorem dX12_clears_11 : decode cX12_clears 11 = .ok (.iload_n 1, 1) := by decide +kernel
theorem dX12_clears_12 : decode cX12_clears 12 = .ok (.iconst 0, 1) := by decide +kernel
theorem dX12_clears_13 : decode cX12_clears 13 = .ok (.iastore, 1) := by decide +kernel
theorem dX12_clears_14 : decode cX12_clears 14 = .ok (.iinc 1 1, 3) := by decide +kernel
theorem dX12_clears_17 : decode cX12_clears 17 = .ok (.goto (-15), 3) := by decide +kernel
theorem dX12_clears_20 : decode cX12_clears 20 = .ok (.aload_n 0, 1) := by decide +kernel
theorem dX12_clears_21 : decode cX12_clears 21 = .ok (.iconst 0, 1) := by decide +kernel
theorem dX12_clears_22 : decode cX12_clears 22 = .ok (.putfield 133, 3) := by decide +kernel
theorem dX12_clears_25 : decode cX12_clears 25 = .ok (.return_, 1) := by decide +kernel
theorem dX12_measured_0 : decode cX12_measured 0 = .ok (.aload_n 0, 1) := by decide +kernel
theorem dX12_measured_1 : decode cX12_measured 1 = .ok (.invokevirtual 323, 3) := by decide +kernel
theorem dX12_measured_4 : decode cX12_measured 4 = .ok (.iload_n 3, 1) := by decide +kernel
theorem dX12_measured_5 : decode cX12_measured 5 = .ok (.ifCond .ge 10, 3) := by decide +kernel
theorem dX12_measured_8 : decode cX12_measured 8 = .ok (.aload_n 0, 1) := by decide +kernel
theorem dX12_measured_9 : decode cX12_measured 9 = .ok (.bipush (-8), 2) := by decide +kernel
theorem dX12_measured_11 : decode cX12_measured 11 = .ok (.invokevirtual 326, 3) := by decide +kernel
theorem dX12_measured_14 : decode cX12_measured 14 = .ok (.ireturn, 1) := by decide +kernel
theorem dX12_measured_15 : decode cX12_measured 15 = .ok (.iload 4, 2) := by decide +kernel
theorem dX12_measured_17 : decode cX12_measured 17 = .ok (.iconst 1, 1) := by decide +kernel
theorem dX12_measured_18 : decode cX12_measured 18 = .ok (.if_icmp .le 18, 3) := by decide +kernel
theorem dX12_measured_21 : decode cX12_measured 21 = .ok (.aload_n 0, 1) := by decide +kernel
theorem dX12_measured_22 : decode cX12_measured 22 = .ok (.iload_n 3, 1) := by decide +kernel
theorem dX12_measured_23 : decode cX12_measured 23 = .ok (.invokevirtual 247, 3) := by decide +kernel
theorem dX12_measured_26 : decode cX12_measured 26 = .ok (.ifCond .eq 10, 3) := by decide +kernel
theorem dX12_measured_29 : decode cX12_measured 29 = .ok (.aload_n 0, 1) := by decide +kernel
theorem dX12_measured_30 : decode cX12_measured 30 = .ok (.bipush (-10), 2) := by decide +kernel
theorem dX12_measured_32 : decode cX12_measured 32 = .ok (.invokevirtual 326, 3) := by decide +kernel
theorem dX12_measured_35 : decode cX12_measured 35 = .ok (.ireturn, 1) := by decide +kernel
theorem dX12_measured_36 : decode cX12_measured 36 = .ok (.aload_n 0, 1) := by decide +kernel
theorem dX12_measured_37 : decode cX12_measured 37 = .ok (.iload_n 3, 1) := by decide +kernel
theorem dX12_measured_38 : decode cX12_measured 38 = .ok (.iload 4, 2) := by decide +kernel
theorem dX12_measured_40 : decode cX12_measured 40 = .ok (.invokevirtual 256, 3) := by decide +kernel
theorem dX12_measured_43 : decode cX12_measured 43 = .ok (.aload_n 0, 1) := by decide +kernel
theorem dX12_measured_44 : decode cX12_measured 44 = .ok (.bipush 18, 2) := by decide +kernel
theorem dX12_measured_46 : decode cX12_measured 46 = .ok (.invokevirtual 260, 3) := by decide +kernel
theorem dX12_measured_49 : decode cX12_measured 49 = .ok (.ifCond .eq 10, 3) := by decide +kernel
theorem dX12_measured_52 : decode cX12_measured 52 = .ok (.aload_n 0, 1) := by decide +kernel
theorem dX12_measured_53 : decode cX12_measured 53 = .ok (.bipush (-12), 2) := by decide +kernel
theorem dX12_measured_55 : decode cX12_measured 55 = .ok (.invokevirtual 326, 3) := by decide +kernel
theorem dX12_measured_58 : decode cX12_measured 58 = .ok (.ireturn, 1) := by decide +kernel
theorem dX12_measured_59 : decode cX12_measured 59 = .ok (.aload_n 0, 1) := by decide +kernel
theorem dX12_measured_60 : decode cX12_measured 60 = .ok (.lload_n 1, 1) := by decide +kernel
theorem dX12_measured_61 : decode cX12_measured 61 = .ok (.ldc2_w 312, 3) := by decide +kernel
theorem dX12_measured_64 : decode cX12_measured 64 = .ok (.invokevirtual 157, 3) := by decide +kernel
theorem dX12_measured_67 : decode cX12_measured 67 = .ok (.iconst 0, 1) := by decide +kernel
theorem dX12_measured_68 : decode cX12_measured 68 = .ok (.istore 5, 2) := by decide +kernel
theorem dX12_measured_70 : decode cX12_measured 70 = .ok (.iload 5, 2) := by decide +kernel
theorem dX12_measured_72 : decode cX12_measured 72 = .ok (.iload 4, 2) := by decide +kernel
theorem dX12_measured_74 : decode cX12_measured 74 = .ok (.if_icmp .ge 40, 3) := by decide +kernel
theorem dX12_measured_77 : decode cX12_measured 77 = .ok (.aload_n 0, 1) := by decide +kernel
theorem dX12_measured_78 : decode cX12_measured 78 = .ok (.getfield 133, 3) := by decide +kernel
theorem dX12_measured_81 : decode cX12_measured 81 = .ok (.ifCond .ne 33, 3) := by decide +kernel
theorem dX12_measured_84 : decode cX12_measured 84 = .ok (.aload_n 0, 1) := by decide +kernel
theorem dX12_measured_85 : decode cX12_measured 85 = .ok (.aload_n 0, 1) := by decide +kernel
theorem dX12_measured_86 : decode cX12_measured 86 = .ok (.getfield 143, 3) := by decide +kernel
theorem dX12_measured_89 : decode cX12_measured 89 = .ok (.aload_n 0, 1) := by decide +kernel
theorem dX12_measured_90 : decode cX12_measured 90 = .ok (.getfield 147, 3) := by decide +kernel
theorem dX12_measured_93 : decode cX12_measured 93 = .ok (.aload_n 0, 1) := by decide +kernel
theorem dX12_measured_94 : decode cX12_measured 94 = .ok (.getfield 22, 3) := by decide +kernel
theorem dX12_measured_97 : decode cX12_measured 97 = .ok (.iload_n 3, 1) := by decide +kernel
theorem dX12_measured_98 : decode cX12_measured 98 = .ok (.laload, 1) := by decide +kernel
theorem dX12_measured_99 : decode cX12_measured 99 = .ok (.aload_n 0, 1) := by decide +kernel
theorem dX12_measured_100 : decode cX12_measured 100 = .ok (.getfield 26, 3) := by decide +kernel
theorem dX12_measured_103 : decode cX12_measured 103 = .ok (.iload_n 3, 1) := by decide +kernel
theorem dX12_measured_104 : decode cX12_measured 104 = .ok (.laload, 1) := by decide +kernel
theorem dX12_measured_105 : decode cX12_measured 105 = .ok (.invokevirtual 153, 3) := by decide +kernel
theorem dX12_measured_108 : decode cX12_measured 108 = .ok (.iinc 5 1, 3) := by decide +kernel
theorem dX12_measured_111 : decode cX12_measured 111 = .ok (.goto (-41), 3) := by decide +kernel
theorem dX12_measured_114 : decode cX12_measured 114 = .ok (.aload_n 0, 1) := by decide +kernel
theorem dX12_measured_115 : decode cX12_measured 115 = .ok (.getfield 133, 3) := by decide +kernel
theorem dX12_measured_118 : decode cX12_measured 118 = .ok (.ifCond .ne 36, 3) := by decide +kernel
theorem dX12_measured_121 : decode cX12_measured 121 = .ok (.aload_n 0, 1) := by decide +kernel
theorem dX12_measured_122 : decode cX12_measured 122 = .ok (.iload_n 3, 1) := by decide +kernel
theorem dX12_measured_123 : decode cX12_measured 123 = .ok (.invokevirtual 247, 3) := by decide +kernel
theorem dX12_measured_126 : decode cX12_measured 126 = .ok (.ifCond .eq 28, 3) := by decide +kernel
theorem dX12_measured_129 : decode cX12_measured 129 = .ok (.aload_n 0, 1) := by decide +kernel
theorem dX12_measured_130 : decode cX12_measured 130 = .ok (.aload_n 0, 1) := by decide +kernel
theorem dX12_measured_131 : decode cX12_measured 131 = .ok (.getfield 143, 3) := by decide +kernel
theorem dX12_measured_134 : decode cX12_measured 134 = .ok (.aload_n 0, 1) := by decide +kernel
theorem dX12_measured_135 : decode cX12_measured 135 = .ok (.getfield 147, 3) := by decide +kernel
theorem dX12_measured_138 : decode cX12_measured 138 = .ok (.aload_n 0, 1) := by decide +kernel
theorem dX12_measured_139 : decode cX12_measured 139 = .ok (.getfield 29, 3) := by decide +kernel
theorem dX12_measured_142 : decode cX12_measured 142 = .ok (.iload_n 3, 1) := by decide +kernel
theorem dX12_measured_143 : decode cX12_measured 143 = .ok (.laload, 1) := by decide +kernel
theorem dX12_measured_144 : decode cX12_measured 144 = .ok (.aload_n 0, 1) := by decide +kernel
theorem dX12_measured_145 : decode cX12_measured 145 = .ok (.getfield 32, 3) := by decide +kernel
theorem dX12_measured_148 : decode cX12_measured 148 = .ok (.iload_n 3, 1) := by decide +kernel
theorem dX12_measured_149 : decode cX12_measured 149 = .ok (.laload, 1) := by decide +kernel
theorem dX12_measured_150 : decode cX12_measured 150 = .ok (.iconst 1, 1) := by decide +kernel
theorem dX12_measured_151 : decode cX12_measured 151 = .ok (.invokevirtual 329, 3) := by decide +kernel
theorem dX12_measured_154 : decode cX12_measured 154 = .ok (.aload_n 0, 1) := by decide +kernel
theorem dX12_measured_155 : decode cX12_measured 155 = .ok (.getfield 133, 3) := by decide +kernel
theorem dX12_measured_158 : decode cX12_measured 158 = .ok (.ifCond .eq 12, 3) := by decide +kernel
theorem dX12_measured_161 : decode cX12_measured 161 = .ok (.aload_n 0, 1) := by decide +kernel
theorem dX12_measured_162 : decode cX12_measured 162 = .ok (.bipush (-15), 2) := by decide +kernel
theorem dX12_measured_164 : decode cX12_measured 164 = .ok (.invokevirtual 326, 3) := by decide +kernel
theorem dX12_measured_167 : decode cX12_measured 167 = .ok (.goto 8, 3) := by decide +kernel
theorem dX12_measured_170 : decode cX12_measured 170 = .ok (.aload_n 0, 1) := by decide +kernel
theorem dX12_measured_171 : decode cX12_measured 171 = .ok (.iconst 0, 1) := by decide +kernel
theorem dX12_measured_172 : decode cX12_measured 172 = .ok (.invokevirtual 333, 3) := by decide +kernel
theorem dX12_measured_175 : decode cX12_measured 175 = .ok (.ireturn, 1) := by decide +kernel
theorem dX12_wrongMixed_0 : decode cX12_wrongMixed 0 = .ok (.iconst 0, 1) := by decide +kernel
theorem dX12_wrongMixed_1 : decode cX12_wrongMixed 1 = .ok (.istore_n 1, 1) := by decide +kernel
theorem dX12_wrongMixed_2 : decode cX12_wrongMixed 2 = .ok (.iload_n 1, 1) := by decide +kernel
theorem dX12_wrongMixed_3 : decode cX12_wrongMixed 3 = .ok (.aload_n 0, 1) := by decide +kernel
theorem dX12_wrongMixed_4 : decode cX12_wrongMixed 4 = .ok (.getfield 336, 3) := by decide +kernel
theorem dX12_wrongMixed_7 : decode cX12_wrongMixed 7 = .ok (.if_icmp .ge 21, 3) := by decide +kernel
theorem dX12_wrongMixed_10 : decode cX12_wrongMixed 10 = .ok (.aload_n 0, 1) := by decide +kernel
theorem dX12_wrongMixed_11 : decode cX12_wrongMixed 11 = .ok (.getfield 92, 3) := by decide +kernel
theorem dX12_wrongMixed_14 : decode cX12_wrongMixed 14 = .ok (.iload_n 1, 1) := by decide +kernel
theorem dX12_wrongMixed_15 : decode cX12_wrongMixed 15 = .ok (.iaload, 1) := by decide +kernel
theorem dX12_wrongMixed_16 : decode cX12_wrongMixed 16 = .ok (.ifCond .ge 6, 3) := by decide +kernel
theorem dX12_wrongMixed_19 : decode cX12_wrongMixed 19 = .ok (.bipush (-8), 2) := by decide +kernel
theorem dX12_wrongMixed_21 : decode cX12_wrongMixed 21 = .ok (.ireturn, 1) := by decide +kernel
theorem dX12_wrongMixed_22 : decode cX12_wrongMixed 22 = .ok (.iinc 1 1, 3) := by decide +kernel
theorem dX12_wrongMixed_25 : decode cX12_wrongMixed 25 = .ok (.goto (-23), 3) := by decide +kernel
theorem dX12_wrongMixed_28 : decode cX12_wrongMixed 28 = .ok (.iconst 0, 1) := by decide +kernel
theorem dX12_wrongMixed_29 : decode cX12_wrongMixed 29 = .ok (.istore_n 1, 1) := by decide +kernel
theorem dX12_wrongMixed_30 : decode cX12_wrongMixed 30 = .ok (.iload_n 1, 1) := by decide +kernel
theorem dX12_wrongMixed_31 : decode cX12_wrongMixed 31 = .ok (.aload_n 0, 1) := by decide +kernel
theorem dX12_wrongMixed_32 : decode cX12_wrongMixed 32 = .ok (.getfield 336, 3) := by decide +kernel
theorem dX12_wrongMixed_35 : decode cX12_wrongMixed 35 = .ok (.if_icmp .ge 25, 3) := by decide +kernel
theorem dX12_wrongMixed_38 : decode cX12_wrongMixed 38 = .ok (.aload_n 0, 1) := by decide +kernel
theorem dX12_wrongMixed_39 : decode cX12_wrongMixed 39 = .ok (.aload_n 0, 1) := by decide +kernel
theorem dX12_wrongMixed_40 : decode cX12_wrongMixed 40 = .ok (.getfield 92, 3) := by decide +kernel
theorem dX12_wrongMixed_43 : decode cX12_wrongMixed 43 = .ok (.iload_n 1, 1) := by decide +kernel
theorem dX12_wrongMixed_44 : decode cX12_wrongMixed 44 = .ok (.iaload, 1) := by decide +kernel
theorem dX12_wrongMixed_45 : decode cX12_wrongMixed 45 = .ok (.invokevirtual 247, 3) := by decide +kernel
theorem dX12_wrongMixed_48 : decode cX12_wrongMixed 48 = .ok (.ifCond .eq 6, 3) := by decide +kernel
theorem dX12_wrongMixed_51 : decode cX12_wrongMixed 51 = .ok (.bipush (-10), 2) := by decide +kernel
theorem dX12_wrongMixed_53 : decode cX12_wrongMixed 53 = .ok (.ireturn, 1) := by decide +kernel
theorem dX12_wrongMixed_54 : decode cX12_wrongMixed 54 = .ok (.iinc 1 1, 3) := by decide +kernel
theorem dX12_wrongMixed_57 : decode cX12_wrongMixed 57 = .ok (.goto (-27), 3) := by decide +kernel
theorem dX12_wrongMixed_60 : decode cX12_wrongMixed 60 = .ok (.iconst 1, 1) := by decide +kernel
theorem dX12_wrongMixed_61 : decode cX12_wrongMixed 61 = .ok (.istore_n 1, 1) := by decide +kernel
theorem dX12_wrongMixed_62 : decode cX12_wrongMixed 62 = .ok (.iload_n 1, 1) := by decide +kernel
theorem dX12_wrongMixed_63 : decode cX12_wrongMixed 63 = .ok (.aload_n 0, 1) := by decide +kernel
theorem dX12_wrongMixed_64 : decode cX12_wrongMixed 64 = .ok (.getfield 336, 3) := by decide +kernel
theorem dX12_wrongMixed_67 : decode cX12_wrongMixed 67 = .ok (.if_icmp .ge 31, 3) := by decide +kernel
theorem dX12_wrongMixed_70 : decode cX12_wrongMixed 70 = .ok (.aload_n 0, 1) := by decide +kernel
theorem dX12_wrongMixed_71 : decode cX12_wrongMixed 71 = .ok (.aload_n 0, 1) := by decide +kernel
theorem dX12_wrongMixed_72 : decode cX12_wrongMixed 72 = .ok (.getfield 92, 3) := by decide +kernel
theorem dX12_wrongMixed_75 : decode cX12_wrongMixed 75 = .ok (.iconst 0, 1) := by decide +kernel
theorem dX12_wrongMixed_76 : decode cX12_wrongMixed 76 = .ok (.iaload, 1) := by decide +kernel
theorem dX12_wrongMixed_77 : decode cX12_wrongMixed 77 = .ok (.aload_n 0, 1) := by decide +kernel
theorem dX12_wrongMixed_78 : decode cX12_wrongMixed 78 = .ok (.getfield 92, 3) := by decide +kernel
theorem dX12_wrongMixed_81 : decode cX12_wrongMixed 81 = .ok (.iload_n 1, 1) := by decide +kernel
theorem dX12_wrongMixed_82 : decode cX12_wrongMixed 82 = .ok (.iaload, 1) := by decide +kernel
theorem dX12_wrongMixed_83 : decode cX12_wrongMixed 83 = .ok (.invokevirtual 295, 3) := by decide +kernel
theorem dX12_wrongMixed_86 : decode cX12_wrongMixed 86 = .ok (.ifCond .ne 6, 3) := by decide +kernel
theorem dX12_wrongMixed_89 : decode cX12_wrongMixed 89 = .ok (.bipush (-13), 2) := by decide +kernel
theorem dX12_wrongMixed_91 : decode cX12_wrongMixed 91 = .ok (.ireturn, 1) := by decide +kernel
theorem dX12_wrongMixed_92 : decode cX12_wrongMixed 92 = .ok (.iinc 1 1, 3) := by decide +kernel
theorem dX12_wrongMixed_95 : decode cX12_wrongMixed 95 = .ok (.goto (-33), 3) := by decide +kernel
theorem dX12_wrongMixed_98 : decode cX12_wrongMixed 98 = .ok (.iconst 1, 1) := by decide +kernel
theorem dX12_wrongMixed_99 : decode cX12_wrongMixed 99 = .ok (.istore_n 1, 1) := by decide +kernel
theorem dX12_wrongMixed_100 : decode cX12_wrongMixed 100 = .ok (.iload_n 1, 1) := by decide +kernel
theorem dX12_wrongMixed_101 : decode cX12_wrongMixed 101 = .ok (.aload_n 0, 1) := by decide +kernel
theorem dX12_wrongMixed_102 : decode cX12_wrongMixed 102 = .ok (.getfield 336, 3) := by decide +kernel
theorem dX12_wrongMixed_105 : decode cX12_wrongMixed 105 = .ok (.if_icmp .ge 33, 3) := by decide +kernel
theorem dX12_wrongMixed_108 : decode cX12_wrongMixed 108 = .ok (.aload_n 0, 1) := by decide +kernel
theorem dX12_wrongMixed_109 : decode cX12_wrongMixed 109 = .ok (.aload_n 0, 1) := by decide +kernel
theorem dX12_wrongMixed_110 : decode cX12_wrongMixed 110 = .ok (.getfield 92, 3) := by decide +kernel
theorem dX12_wrongMixed_113 : decode cX12_wrongMixed 113 = .ok (.iload_n 1, 1) := by decide +kernel
theorem dX12_wrongMixed_114 : decode cX12_wrongMixed 114 = .ok (.iaload, 1) := by decide +kernel
theorem dX12_wrongMixed_115 : decode cX12_wrongMixed 115 = .ok (.aload_n 0, 1) := by decide +kernel
theorem dX12_wrongMixed_116 : decode cX12_wrongMixed 116 = .ok (.getfield 92, 3) := by decide +kernel
theorem dX12_wrongMixed_119 : decode cX12_wrongMixed 119 = .ok (.iload_n 1, 1) := by decide +kernel
theorem dX12_wrongMixed_120 : decode cX12_wrongMixed 120 = .ok (.iconst 1, 1) := by decide +kernel
theorem dX12_wrongMixed_121 : decode cX12_wrongMixed 121 = .ok (.isub, 1) := by decide +kernel
theorem dX12_wrongMixed_122 : decode cX12_wrongMixed 122 = .ok (.iaload, 1) := by decide +kernel
theorem dX12_wrongMixed_123 : decode cX12_wrongMixed 123 = .ok (.invokevirtual 309, 3) := by decide +kernel
theorem dX12_wrongMixed_126 : decode cX12_wrongMixed 126 = .ok (.ifCond .ne 6, 3) := by decide +kernel
theorem dX12_wrongMixed_129 : decode cX12_wrongMixed 129 = .ok (.bipush (-14), 2) := by decide +kernel
theorem dX12_wrongMixed_131 : decode cX12_wrongMixed 131 = .ok (.ireturn, 1) := by decide +kernel
theorem dX12_wrongMixed_132 : decode cX12_wrongMixed 132 = .ok (.iinc 1 1, 3) := by decide +kernel
theorem dX12_wrongMixed_135 : decode cX12_wrongMixed 135 = .ok (.goto (-35), 3) := by decide +kernel
theorem dX12_wrongMixed_138 : decode cX12_wrongMixed 138 = .ok (.iconst 0, 1) := by decide +kernel
theorem dX12_wrongMixed_139 : decode cX12_wrongMixed 139 = .ok (.ireturn, 1) := by decide +kernel
theorem dX12_mixed_0 : decode cX12_mixed 0 = .ok (.aload_n 0, 1) := by decide +kernel
theorem dX12_mixed_1 : decode cX12_mixed 1 = .ok (.invokevirtual 339, 3) := by decide +kernel
theorem dX12_mixed_4 : decode cX12_mixed 4 = .ok (.istore_n 1, 1) := by decide +kernel
theorem dX12_mixed_5 : decode cX12_mixed 5 = .ok (.iload_n 1, 1) := by decide +kernel
theorem dX12_mixed_6 : decode cX12_mixed 6 = .ok (.ifCond .eq 9, 3) := by decide +kernel
theorem dX12_mixed_9 : decode cX12_mixed 9 = .ok (.aload_n 0, 1) := by decide +kernel
theorem dX12_mixed_10 : decode cX12_mixed 10 = .ok (.iload_n 1, 1) := by decide +kernel
theorem dX12_mixed_11 : decode cX12_mixed 11 = .ok (.invokevirtual 326, 3) := by decide +kernel
theorem dX12_mixed_14 : decode cX12_mixed 14 = .ok (.ireturn, 1) := by decide +kernel
theorem dX12_mixed_15 : decode cX12_mixed 15 = .ok (.aload_n 0, 1) := by decide +kernel
theorem dX12_mixed_16 : decode cX12_mixed 16 = .ok (.invokevirtual 323, 3) := by decide +kernel
theorem dX12_mixed_19 : decode cX12_mixed 19 = .ok (.aload_n 0, 1) := by decide +kernel
theorem dX12_mixed_20 : decode cX12_mixed 20 = .ok (.aload_n 0, 1) := by decide +kernel
theorem dX12_mixed_21 : decode cX12_mixed 21 = .ok (.getfield 92, 3) := by decide +kernel
theorem dX12_mixed_24 : decode cX12_mixed 24 = .ok (.iconst 0, 1) := by decide +kernel
theorem dX12_mixed_25 : decode cX12_mixed 25 = .ok (.iaload, 1) := by decide +kernel
theorem dX12_mixed_26 : decode cX12_mixed 26 = .ok (.iconst 1, 1) := by decide +kernel
theorem dX12_mixed_27 : decode cX12_mixed 27 = .ok (.invokevirtual 256, 3) := by decide +kernel
theorem dX12_mixed_30 : decode cX12_mixed 30 = .ok (.lconst 0, 1) := by decide +kernel
theorem dX12_mixed_31 : decode cX12_mixed 31 = .ok (.lstore_n 2, 1) := by decide +kernel
theorem dX12_mixed_32 : decode cX12_mixed 32 = .ok (.lconst 1, 1) := by decide +kernel
theorem dX12_mixed_33 : decode cX12_mixed 33 = .ok (.lstore 4, 2) := by decide +kernel
theorem dX12_mixed_35 : decode cX12_mixed 35 = .ok (.iconst 0, 1) := by decide +kernel
theorem dX12_mixed_36 : decode cX12_mixed 36 = .ok (.istore 6, 2) := by decide +kernel
theorem dX12_mixed_38 : decode cX12_mixed 38 = .ok (.iload 6, 2) := by decide +kernel
theorem dX12_mixed_40 : decode cX12_mixed 40 = .ok (.aload_n 0, 1) := by decide +kernel
theorem dX12_mixed_41 : decode cX12_mixed 41 = .ok (.getfield 336, 3) := by decide +kernel
theorem dX12_mixed_44 : decode cX12_mixed 44 = .ok (.if_icmp .ge 105, 3) := by decide +kernel
theorem dX12_mixed_47 : decode cX12_mixed 47 = .ok (.aload_n 0, 1) := by decide +kernel
theorem dX12_mixed_48 : decode cX12_mixed 48 = .ok (.getfield 133, 3) := by decide +kernel
theorem dX12_mixed_51 : decode cX12_mixed 51 = .ok (.ifCond .ne 98, 3) := by decide +kernel
theorem dX12_mixed_54 : decode cX12_mixed 54 = .ok (.aload_n 0, 1) := by decide +kernel
theorem dX12_mixed_55 : decode cX12_mixed 55 = .ok (.aload_n 0, 1) := by decide +kernel
theorem dX12_mixed_56 : decode cX12_mixed 56 = .ok (.getfield 89, 3) := by decide +kernel
theorem dX12_mixed_59 : decode cX12_mixed 59 = .ok (.iload 6, 2) := by decide +kernel
theorem dX12_mixed_61 : decode cX12_mixed 61 = .ok (.laload, 1) := by decide +kernel
theorem dX12_mixed_62 : decode cX12_mixed 62 = .ok (.ldc2_w 312, 3) := by decide +kernel
theorem dX12_mixed_65 : decode cX12_mixed 65 = .ok (.invokevirtual 157, 3) := by decide +kernel
theorem dX12_mixed_68 : decode cX12_mixed 68 = .ok (.aload_n 0, 1) := by decide +kernel
theorem dX12_mixed_69 : decode cX12_mixed 69 = .ok (.aload_n 0, 1) := by decide +kernel
theorem dX12_mixed_70 : decode cX12_mixed 70 = .ok (.getfield 143, 3) := by decide +kernel
theorem dX12_mixed_73 : decode cX12_mixed 73 = .ok (.aload_n 0, 1) := by decide +kernel
theorem dX12_mixed_74 : decode cX12_mixed 74 = .ok (.getfield 147, 3) := by decide +kernel
theorem dX12_mixed_77 : decode cX12_mixed 77 = .ok (.aload_n 0, 1) := by decide +kernel
theorem dX12_mixed_78 : decode cX12_mixed 78 = .ok (.getfield 22, 3) := by decide +kernel
theorem dX12_mixed_81 : decode cX12_mixed 81 = .ok (.aload_n 0, 1) := by decide +kernel
theorem dX12_mixed_82 : decode cX12_mixed 82 = .ok (.getfield 92, 3) := by decide +kernel
theorem dX12_mixed_85 : decode cX12_mixed 85 = .ok (.iload 6, 2) := by decide +kernel
theorem dX12_mixed_87 : decode cX12_mixed 87 = .ok (.iaload, 1) := by decide +kernel
theorem dX12_mixed_88 : decode cX12_mixed 88 = .ok (.laload, 1) := by decide +kernel
theorem dX12_mixed_89 : decode cX12_mixed 89 = .ok (.aload_n 0, 1) := by decide +kernel
theorem dX12_mixed_90 : decode cX12_mixed 90 = .ok (.getfield 26, 3) := by decide +kernel
theorem dX12_mixed_93 : decode cX12_mixed 93 = .ok (.aload_n 0, 1) := by decide +kernel
theorem dX12_mixed_94 : decode cX12_mixed 94 = .ok (.getfield 92, 3) := by decide +kernel
theorem dX12_mixed_97 : decode cX12_mixed 97 = .ok (.iload 6, 2) := by decide +kernel
theorem dX12_mixed_99 : decode cX12_mixed 99 = .ok (.iaload, 1) := by decide +kernel
theorem dX12_mixed_100 : decode cX12_mixed 100 = .ok (.laload, 1) := by decide +kernel
theorem dX12_mixed_101 : decode cX12_mixed 101 = .ok (.invokevirtual 153, 3) := by decide +kernel
theorem dX12_mixed_104 : decode cX12_mixed 104 = .ok (.aload_n 0, 1) := by decide +kernel
theorem dX12_mixed_105 : decode cX12_mixed 105 = .ok (.getfield 133, 3) := by decide +kernel
theorem dX12_mixed_108 : decode cX12_mixed 108 = .ok (.ifCond .ne 24, 3) := by decide +kernel
theorem dX12_mixed_111 : decode cX12_mixed 111 = .ok (.iload 6, 2) := by decide +kernel
theorem dX12_mixed_113 : decode cX12_mixed 113 = .ok (.ifCond .le 19, 3) := by decide +kernel
theorem dX12_mixed_116 : decode cX12_mixed 116 = .ok (.aload_n 0, 1) := by decide +kernel
theorem dX12_mixed_117 : decode cX12_mixed 117 = .ok (.lload_n 2, 1) := by decide +kernel
theorem dX12_mixed_118 : decode cX12_mixed 118 = .ok (.lload 4, 2) := by decide +kernel
theorem dX12_mixed_120 : decode cX12_mixed 120 = .ok (.aload_n 0, 1) := by decide +kernel
theorem dX12_mixed_121 : decode cX12_mixed 121 = .ok (.getfield 143, 3) := by decide +kernel
theorem dX12_mixed_124 : decode cX12_mixed 124 = .ok (.aload_n 0, 1) := by decide +kernel
theorem dX12_mixed_125 : decode cX12_mixed 125 = .ok (.getfield 147, 3) := by decide +kernel
theorem dX12_mixed_128 : decode cX12_mixed 128 = .ok (.iconst 1, 1) := by decide +kernel
theorem dX12_mixed_129 : decode cX12_mixed 129 = .ok (.invokevirtual 329, 3) := by decide +kernel
theorem dX12_mixed_132 : decode cX12_mixed 132 = .ok (.aload_n 0, 1) := by decide +kernel
theorem dX12_mixed_133 : decode cX12_mixed 133 = .ok (.getfield 143, 3) := by decide +kernel
theorem dX12_mixed_136 : decode cX12_mixed 136 = .ok (.lstore_n 2, 1) := by decide +kernel
theorem dX12_mixed_137 : decode cX12_mixed 137 = .ok (.aload_n 0, 1) := by decide +kernel
theorem dX12_mixed_138 : decode cX12_mixed 138 = .ok (.getfield 147, 3) := by decide +kernel
theorem dX12_mixed_141 : decode cX12_mixed 141 = .ok (.lstore 4, 2) := by decide +kernel
theorem dX12_mixed_143 : decode cX12_mixed 143 = .ok (.iinc 6 1, 3) := by decide +kernel
theorem dX12_mixed_146 : decode cX12_mixed 146 = .ok (.goto (-108), 3) := by decide +kernel
theorem dX12_mixed_149 : decode cX12_mixed 149 = .ok (.aload_n 0, 1) := by decide +kernel
theorem dX12_mixed_150 : decode cX12_mixed 150 = .ok (.getfield 133, 3) := by decide +kernel
theorem dX12_mixed_153 : decode cX12_mixed 153 = .ok (.ifCond .eq 12, 3) := by decide +kernel
theorem dX12_mixed_156 : decode cX12_mixed 156 = .ok (.aload_n 0, 1) := by decide +kernel
theorem dX12_mixed_157 : decode cX12_mixed 157 = .ok (.bipush (-15), 2) := by decide +kernel
theorem dX12_mixed_159 : decode cX12_mixed 159 = .ok (.invokevirtual 326, 3) := by decide +kernel
theorem dX12_mixed_162 : decode cX12_mixed 162 = .ok (.goto 8, 3) := by decide +kernel
theorem dX12_mixed_165 : decode cX12_mixed 165 = .ok (.aload_n 0, 1) := by decide +kernel
theorem dX12_mixed_166 : decode cX12_mixed 166 = .ok (.iconst 0, 1) := by decide +kernel
theorem dX12_mixed_167 : decode cX12_mixed 167 = .ok (.invokevirtual 333, 3) := by decide +kernel
theorem dX12_mixed_170 : decode cX12_mixed 170 = .ok (.ireturn, 1) := by decide +kernel
theorem dX12_plain_0 : decode cX12_plain 0 = .ok (.aload_n 0, 1) := by decide +kernel
theorem dX12_plain_1 : decode cX12_plain 1 = .ok (.invokevirtual 323, 3) := by decide +kernel
theorem dX12_plain_4 : decode cX12_plain 4 = .ok (.aload_n 0, 1) := by decide +kernel
theorem dX12_plain_5 : decode cX12_plain 5 = .ok (.lload_n 1, 1) := by decide +kernel
theorem dX12_plain_6 : decode cX12_plain 6 = .ok (.ldc2_w 312, 3) := by decide +kernel
theorem dX12_plain_9 : decode cX12_plain 9 = .ok (.invokevirtual 157, 3) := by decide +kernel
theorem dX12_plain_12 : decode cX12_plain 12 = .ok (.aload_n 0, 1) := by decide +kernel
theorem dX12_plain_13 : decode cX12_plain 13 = .ok (.iconst 0, 1) := by decide +kernel
theorem dX12_plain_14 : decode cX12_plain 14 = .ok (.invokevirtual 333, 3) := by decide +kernel
theorem dX12_plain_17 : decode cX12_plain 17 = .ok (.ireturn, 1) := by decide +kernel
theorem dX12_numbered_0 : decode cX12_numbered 0 = .ok (.aload_n 0, 1) := by decide +kernel
theorem dX12_numbered_1 : decode cX12_numbered 1 = .ok (.iconst 0, 1) := by decide +kernel
theorem dX12_numbered_2 : decode cX12_numbered 2 = .ok (.putfield 336, 3) := by decide +kernel
theorem dX12_numbered_5 : decode cX12_numbered 5 = .ok (.aload_n 0, 1) := by decide +kernel
theorem dX12_numbered_6 : decode cX12_numbered 6 = .ok (.invokevirtual 342, 3) := by decide +kernel
theorem dX12_numbered_9 : decode cX12_numbered 9 = .ok (.lstore_n 1, 1) := by decide +kernel
theorem dX12_numbered_10 : decode cX12_numbered 10 = .ok (.aload_n 0, 1) := by decide +kernel
theorem dX12_numbered_11 : decode cX12_numbered 11 = .ok (.getfield 189, 3) := by decide +kernel
theorem dX12_numbered_14 : decode cX12_numbered 14 = .ok (.ifCond .ge 10, 3) := by decide +kernel
theorem dX12_numbered_17 : decode cX12_numbered 17 = .ok (.aload_n 0, 1) := by decide +kernel
theorem dX12_numbered_18 : decode cX12_numbered 18 = .ok (.invokevirtual 195, 3) := by decide +kernel
theorem dX12_numbered_21 : decode cX12_numbered 21 = .ok (.ifCond .ne 27, 3) := by decide +kernel
theorem dX12_numbered_24 : decode cX12_numbered 24 = .ok (.aload_n 0, 1) := by decide +kernel
theorem dX12_numbered_25 : decode cX12_numbered 25 = .ok (.invokevirtual 346, 3) := by decide +kernel
theorem dX12_numbered_28 : decode cX12_numbered 28 = .ok (.ifCond .eq 18, 3) := by decide +kernel
theorem dX12_numbered_31 : decode cX12_numbered 31 = .ok (.aload_n 0, 1) := by decide +kernel
theorem dX12_numbered_32 : decode cX12_numbered 32 = .ok (.getfield 189, 3) := by decide +kernel
theorem dX12_numbered_35 : decode cX12_numbered 35 = .ok (.ifCond .ge 11, 3) := by decide +kernel
theorem dX12_numbered_38 : decode cX12_numbered 38 = .ok (.aload_n 0, 1) := by decide +kernel
theorem dX12_numbered_39 : decode cX12_numbered 39 = .ok (.lload_n 1, 1) := by decide +kernel
theorem dX12_numbered_40 : decode cX12_numbered 40 = .ok (.invokevirtual 349, 3) := by decide +kernel
theorem dX12_numbered_43 : decode cX12_numbered 43 = .ok (.goto 4, 3) := by decide +kernel
theorem dX12_numbered_46 : decode cX12_numbered 46 = .ok (.iconst (-1), 1) := by decide +kernel
theorem dX12_numbered_47 : decode cX12_numbered 47 = .ok (.ireturn, 1) := by decide +kernel
theorem dX12_numbered_48 : decode cX12_numbered 48 = .ok (.aload_n 0, 1) := by decide +kernel
theorem dX12_numbered_49 : decode cX12_numbered 49 = .ok (.invokevirtual 353, 3) := by decide +kernel
theorem dX12_numbered_52 : decode cX12_numbered 52 = .ok (.istore_n 3, 1) := by decide +kernel
theorem dX12_numbered_53 : decode cX12_numbered 53 = .ok (.aload_n 0, 1) := by decide +kernel
theorem dX12_numbered_54 : decode cX12_numbered 54 = .ok (.getfield 189, 3) := by decide +kernel
theorem dX12_numbered_57 : decode cX12_numbered 57 = .ok (.ifCond .lt 5, 3) := by decide +kernel
theorem dX12_numbered_60 : decode cX12_numbered 60 = .ok (.iconst (-1), 1) := by decide +kernel
theorem dX12_numbered_61 : decode cX12_numbered 61 = .ok (.ireturn, 1) := by decide +kernel
theorem dX12_numbered_62 : decode cX12_numbered 62 = .ok (.aload_n 0, 1) := by decide +kernel
theorem dX12_numbered_63 : decode cX12_numbered 63 = .ok (.invokevirtual 356, 3) := by decide +kernel
theorem dX12_numbered_66 : decode cX12_numbered 66 = .ok (.ifCond .ne 10, 3) := by decide +kernel
theorem dX12_numbered_69 : decode cX12_numbered 69 = .ok (.aload_n 0, 1) := by decide +kernel
theorem dX12_numbered_70 : decode cX12_numbered 70 = .ok (.invokevirtual 199, 3) := by decide +kernel
theorem dX12_numbered_73 : decode cX12_numbered 73 = .ok (.ifCond .ne 50, 3) := by decide +kernel
theorem dX12_numbered_76 : decode cX12_numbered 76 = .ok (.aload_n 0, 1) := by decide +kernel
theorem dX12_numbered_77 : decode cX12_numbered 77 = .ok (.invokevirtual 215, 3) := by decide +kernel
theorem dX12_numbered_80 : decode cX12_numbered 80 = .ok (.istore 4, 2) := by decide +kernel
theorem dX12_numbered_82 : decode cX12_numbered 82 = .ok (.aload_n 0, 1) := by decide +kernel
theorem dX12_numbered_83 : decode cX12_numbered 83 = .ok (.iload_n 3, 1) := by decide +kernel
theorem dX12_numbered_84 : decode cX12_numbered 84 = .ok (.ifCond .lt 15, 3) := by decide +kernel
theorem dX12_numbered_87 : decode cX12_numbered 87 = .ok (.aload_n 0, 1) := by decide +kernel
theorem dX12_numbered_88 : decode cX12_numbered 88 = .ok (.iload_n 3, 1) := by decide +kernel
theorem dX12_numbered_89 : decode cX12_numbered 89 = .ok (.invokevirtual 247, 3) := by decide +kernel
theorem dX12_numbered_92 : decode cX12_numbered 92 = .ok (.ifCond .eq 7, 3) := by decide +kernel
theorem dX12_numbered_95 : decode cX12_numbered 95 = .ok (.iconst 1, 1) := by decide +kernel
theorem dX12_numbered_96 : decode cX12_numbered 96 = .ok (.goto 4, 3) := by decide +kernel
theorem dX12_numbered_99 : decode cX12_numbered 99 = .ok (.iconst 0, 1) := by decide +kernel
theorem dX12_numbered_100 : decode cX12_numbered 100 = .ok (.putfield 359, 3) := by decide +kernel
theorem dX12_numbered_103 : decode cX12_numbered 103 = .ok (.aload_n 0, 1) := by decide +kernel
theorem dX12_numbered_104 : decode cX12_numbered 104 = .ok (.invokevirtual 346, 3) := by decide +kernel
theorem dX12_numbered_107 : decode cX12_numbered 107 = .ok (.ifCond .eq 14, 3) := by decide +kernel
theorem dX12_numbered_110 : decode cX12_numbered 110 = .ok (.aload_n 0, 1) := by decide +kernel
theorem dX12_numbered_111 : decode cX12_numbered 111 = .ok (.lload_n 1, 1) := by decide +kernel
theorem dX12_numbered_112 : decode cX12_numbered 112 = .ok (.iload_n 3, 1) := by decide +kernel
theorem dX12_numbered_113 : decode cX12_numbered 113 = .ok (.iload 4, 2) := by decide +kernel
theorem dX12_numbered_115 : decode cX12_numbered 115 = .ok (.invokevirtual 362, 3) := by decide +kernel
theorem dX12_numbered_118 : decode cX12_numbered 118 = .ok (.goto 4, 3) := by decide +kernel
theorem dX12_numbered_121 : decode cX12_numbered 121 = .ok (.iconst (-1), 1) := by decide +kernel
theorem dX12_numbered_122 : decode cX12_numbered 122 = .ok (.ireturn, 1) := by decide +kernel
theorem dX12_numbered_123 : decode cX12_numbered 123 = .ok (.aload_n 0, 1) := by decide +kernel
theorem dX12_numbered_124 : decode cX12_numbered 124 = .ok (.getfield 89, 3) := by decide +kernel
theorem dX12_numbered_127 : decode cX12_numbered 127 = .ok (.iconst 0, 1) := by decide +kernel
theorem dX12_numbered_128 : decode cX12_numbered 128 = .ok (.lload_n 1, 1) := by decide +kernel
theorem dX12_numbered_129 : decode cX12_numbered 129 = .ok (.lastore, 1) := by decide +kernel
theorem dX12_numbered_130 : decode cX12_numbered 130 = .ok (.aload_n 0, 1) := by decide +kernel
theorem dX12_numbered_131 : decode cX12_numbered 131 = .ok (.getfield 92, 3) := by decide +kernel
theorem dX12_numbered_134 : decode cX12_numbered 134 = .ok (.iconst 0, 1) := by decide +kernel
theorem dX12_numbered_135 : decode cX12_numbered 135 = .ok (.iload_n 3, 1) := by decide +kernel
theorem dX12_numbered_136 : decode cX12_numbered 136 = .ok (.iastore, 1) := by decide +kernel
theorem dX12_numbered_137 : decode cX12_numbered 137 = .ok (.aload_n 0, 1) := by decide +kernel
theorem dX12_numbered_138 : decode cX12_numbered 138 = .ok (.iconst 1, 1) := by decide +kernel
theorem dX12_numbered_139 : decode cX12_numbered 139 = .ok (.putfield 336, 3) := by decide +kernel
theorem dX12_numbered_142 : decode cX12_numbered 142 = .ok (.aload_n 0, 1) := by decide +kernel
theorem dX12_numbered_143 : decode cX12_numbered 143 = .ok (.getfield 189, 3) := by decide +kernel
theorem dX12_numbered_146 : decode cX12_numbered 146 = .ok (.ifCond .ge 68, 3) := by decide +kernel
theorem dX12_numbered_149 : decode cX12_numbered 149 = .ok (.aload_n 0, 1) := by decide +kernel
theorem dX12_numbered_150 : decode cX12_numbered 150 = .ok (.invokevirtual 199, 3) := by decide +kernel
theorem dX12_numbered_153 : decode cX12_numbered 153 = .ok (.ifCond .eq 61, 3) := by decide +kernel
theorem dX12_numbered_156 : decode cX12_numbered 156 = .ok (.aload_n 0, 1) := by decide +kernel
theorem dX12_numbered_157 : decode cX12_numbered 157 = .ok (.getfield 336, 3) := by decide +kernel
theorem dX12_numbered_160 : decode cX12_numbered 160 = .ok (.iconst 4, 1) := by decide +kernel
theorem dX12_numbered_161 : decode cX12_numbered 161 = .ok (.if_icmp .ge 53, 3) := by decide +kernel
theorem dX12_numbered_164 : decode cX12_numbered 164 = .ok (.aload_n 0, 1) := by decide +kernel
theorem dX12_numbered_165 : decode cX12_numbered 165 = .ok (.getfield 89, 3) := by decide +kernel
theorem dX12_numbered_168 : decode cX12_numbered 168 = .ok (.aload_n 0, 1) := by decide +kernel
theorem dX12_numbered_169 : decode cX12_numbered 169 = .ok (.getfield 336, 3) := by decide +kernel
theorem dX12_numbered_172 : decode cX12_numbered 172 = .ok (.aload_n 0, 1) := by decide +kernel
theorem dX12_numbered_173 : decode cX12_numbered 173 = .ok (.invokevirtual 342, 3) := by decide +kernel
theorem dX12_numbered_176 : decode cX12_numbered 176 = .ok (.lastore, 1) := by decide +kernel
theorem dX12_numbered_177 : decode cX12_numbered 177 = .ok (.aload_n 0, 1) := by decide +kernel
theorem dX12_numbered_178 : decode cX12_numbered 178 = .ok (.getfield 92, 3) := by decide +kernel
theorem dX12_numbered_181 : decode cX12_numbered 181 = .ok (.aload_n 0, 1) := by decide +kernel
theorem dX12_numbered_182 : decode cX12_numbered 182 = .ok (.getfield 336, 3) := by decide +kernel
theorem dX12_numbered_185 : decode cX12_numbered 185 = .ok (.aload_n 0, 1) := by decide +kernel
theorem dX12_numbered_186 : decode cX12_numbered 186 = .ok (.getfield 189, 3) := by decide +kernel
theorem dX12_numbered_189 : decode cX12_numbered 189 = .ok (.ifCond .ge 10, 3) := by decide +kernel
theorem dX12_numbered_192 : decode cX12_numbered 192 = .ok (.aload_n 0, 1) := by decide +kernel
theorem dX12_numbered_193 : decode cX12_numbered 193 = .ok (.invokevirtual 353, 3) := by decide +kernel
theorem dX12_numbered_196 : decode cX12_numbered 196 = .ok (.goto 4, 3) := by decide +kernel
theorem dX12_numbered_199 : decode cX12_numbered 199 = .ok (.iconst (-1), 1) := by decide +kernel
theorem dX12_numbered_200 : decode cX12_numbered 200 = .ok (.iastore, 1) := by decide +kernel
theorem dX12_numbered_201 : decode cX12_numbered 201 = .ok (.aload_n 0, 1) := by decide +kernel
theorem dX12_numbered_202 : decode cX12_numbered 202 = .ok (.dup, 1) := by decide +kernel
theorem dX12_numbered_203 : decode cX12_numbered 203 = .ok (.getfield 336, 3) := by decide +kernel
theorem dX12_numbered_206 : decode cX12_numbered 206 = .ok (.iconst 1, 1) := by decide +kernel
theorem dX12_numbered_207 : decode cX12_numbered 207 = .ok (.iadd, 1) := by decide +kernel
theorem dX12_numbered_208 : decode cX12_numbered 208 = .ok (.putfield 336, 3) := by decide +kernel
theorem dX12_numbered_211 : decode cX12_numbered 211 = .ok (.goto (-69), 3) := by decide +kernel
theorem dX12_numbered_214 : decode cX12_numbered 214 = .ok (.aload_n 0, 1) := by decide +kernel
theorem dX12_numbered_215 : decode cX12_numbered 215 = .ok (.invokevirtual 346, 3) := by decide +kernel
theorem dX12_numbered_218 : decode cX12_numbered 218 = .ok (.ifCond .eq 17, 3) := by decide +kernel
theorem dX12_numbered_221 : decode cX12_numbered 221 = .ok (.aload_n 0, 1) := by decide +kernel
theorem dX12_numbered_222 : decode cX12_numbered 222 = .ok (.getfield 189, 3) := by decide +kernel
theorem dX12_numbered_225 : decode cX12_numbered 225 = .ok (.ifCond .ge 10, 3) := by decide +kernel
theorem dX12_numbered_228 : decode cX12_numbered 228 = .ok (.aload_n 0, 1) := by decide +kernel
theorem dX12_numbered_229 : decode cX12_numbered 229 = .ok (.invokevirtual 366, 3) := by decide +kernel
theorem dX12_numbered_232 : decode cX12_numbered 232 = .ok (.goto 4, 3) := by decide +kernel
theorem dX12_numbered_235 : decode cX12_numbered 235 = .ok (.iconst (-1), 1) := by decide +kernel
theorem dX12_numbered_236 : decode cX12_numbered 236 = .ok (.ireturn, 1) := by decide +kernel
theorem dX12_part_0 : decode cX12_part 0 = .ok (.aload_n 0, 1) := by decide +kernel
theorem dX12_part_1 : decode cX12_part 1 = .ok (.iconst 0, 1) := by decide +kernel
theorem dX12_part_2 : decode cX12_part 2 = .ok (.putfield 359, 3) := by decide +kernel
theorem dX12_part_5 : decode cX12_part 5 = .ok (.aload_n 0, 1) := by decide +kernel
theorem dX12_part_6 : decode cX12_part 6 = .ok (.getfield 189, 3) := by decide +kernel
theorem dX12_part_9 : decode cX12_part 9 = .ok (.ifCond .lt 5, 3) := by decide +kernel
theorem dX12_part_12 : decode cX12_part 12 = .ok (.iconst (-1), 1) := by decide +kernel
theorem dX12_part_13 : decode cX12_part 13 = .ok (.ireturn, 1) := by decide +kernel
theorem dX12_part_14 : decode cX12_part 14 = .ok (.aload_n 0, 1) := by decide +kernel
theorem dX12_part_15 : decode cX12_part 15 = .ok (.invokevirtual 177, 3) := by decide +kernel
theorem dX12_part_18 : decode cX12_part 18 = .ok (.bipush 40, 2) := by decide +kernel
theorem dX12_part_20 : decode cX12_part 20 = .ok (.if_icmp .ne 65, 3) := by decide +kernel
theorem dX12_part_23 : decode cX12_part 23 = .ok (.aload_n 0, 1) := by decide +kernel
theorem dX12_part_24 : decode cX12_part 24 = .ok (.getfield 369, 3) := by decide +kernel
theorem dX12_part_27 : decode cX12_part 27 = .ok (.iconst 4, 1) := by decide +kernel
theorem dX12_part_28 : decode cX12_part 28 = .ok (.if_icmp .ne 9, 3) := by decide +kernel
theorem dX12_part_31 : decode cX12_part 31 = .ok (.aload_n 0, 1) := by decide +kernel
theorem dX12_part_32 : decode cX12_part 32 = .ok (.invokevirtual 192, 3) := by decide +kernel
theorem dX12_part_35 : decode cX12_part 35 = .ok (.iconst (-1), 1) := by decide +kernel
theorem dX12_part_36 : decode cX12_part 36 = .ok (.ireturn, 1) := by decide +kernel
theorem dX12_part_37 : decode cX12_part 37 = .ok (.aload_n 0, 1) := by decide +kernel
theorem dX12_part_38 : decode cX12_part 38 = .ok (.dup, 1) := by decide +kernel
theorem dX12_part_39 : decode cX12_part 39 = .ok (.getfield 369, 3) := by decide +kernel
theorem dX12_part_42 : decode cX12_part 42 = .ok (.iconst 1, 1) := by decide +kernel
theorem dX12_part_43 : decode cX12_part 43 = .ok (.iadd, 1) := by decide +kernel
theorem dX12_part_44 : decode cX12_part 44 = .ok (.putfield 369, 3) := by decide +kernel
theorem dX12_part_47 : decode cX12_part 47 = .ok (.aload_n 0, 1) := by decide +kernel
theorem dX12_part_48 : decode cX12_part 48 = .ok (.dup, 1) := by decide +kernel
theorem dX12_part_49 : decode cX12_part 49 = .ok (.getfield 174, 3) := by decide +kernel
theorem dX12_part_52 : decode cX12_part 52 = .ok (.iconst 1, 1) := by decide +kernel
theorem dX12_part_53 : decode cX12_part 53 = .ok (.iadd, 1) := by decide +kernel
theorem dX12_part_54 : decode cX12_part 54 = .ok (.putfield 174, 3) := by decide +kernel
theorem dX12_part_57 : decode cX12_part 57 = .ok (.aload_n 0, 1) := by decide +kernel
theorem dX12_part_58 : decode cX12_part 58 = .ok (.invokevirtual 372, 3) := by decide +kernel
theorem dX12_part_61 : decode cX12_part 61 = .ok (.istore_n 1, 1) := by decide +kernel
theorem dX12_part_62 : decode cX12_part 62 = .ok (.aload_n 0, 1) := by decide +kernel
theorem dX12_part_63 : decode cX12_part 63 = .ok (.bipush 41, 2) := by decide +kernel
theorem dX12_part_65 : decode cX12_part 65 = .ok (.invokevirtual 218, 3) := by decide +kernel
theorem dX12_part_68 : decode cX12_part 68 = .ok (.aload_n 0, 1) := by decide +kernel
theorem dX12_part_69 : decode cX12_part 69 = .ok (.dup, 1) := by decide +kernel
theorem dX12_part_70 : decode cX12_part 70 = .ok (.getfield 369, 3) := by decide +kernel
theorem dX12_part_73 : decode cX12_part 73 = .ok (.iconst 1, 1) := by decide +kernel
theorem dX12_part_74 : decode cX12_part 74 = .ok (.isub, 1) := by decide +kernel
theorem dX12_part_75 : decode cX12_part 75 = .ok (.putfield 369, 3) := by decide +kernel
theorem dX12_part_78 : decode cX12_part 78 = .ok (.aload_n 0, 1) := by decide +kernel
theorem dX12_part_79 : decode cX12_part 79 = .ok (.iconst 0, 1) := by decide +kernel
