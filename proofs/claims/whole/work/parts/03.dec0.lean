theorem dX0_init_0 : decode cX0_init 0 = .ok (.aload_n 0, 1) := by decide +kernel
theorem dX0_init_1 : decode cX0_init 1 = .ok (.invokespecial 3, 3) := by decide +kernel
theorem dX0_init_4 : decode cX0_init 4 = .ok (.aload_n 0, 1) := by decide +kernel
theorem dX0_init_5 : decode cX0_init 5 = .ok (.bipush 16, 2) := by decide +kernel
theorem dX0_init_7 : decode cX0_init 7 = .ok (.newarray .int, 2) := by decide +kernel
theorem dX0_init_9 : decode cX0_init 9 = .ok (.putfield 9, 3) := by decide +kernel
theorem dX0_init_12 : decode cX0_init 12 = .ok (.aload_n 0, 1) := by decide +kernel
theorem dX0_init_13 : decode cX0_init 13 = .ok (.bipush 16, 2) := by decide +kernel
theorem dX0_init_15 : decode cX0_init 15 = .ok (.newarray .int, 2) := by decide +kernel
theorem dX0_init_17 : decode cX0_init 17 = .ok (.putfield 15, 3) := by decide +kernel
theorem dX0_init_20 : decode cX0_init 20 = .ok (.aload_n 0, 1) := by decide +kernel
theorem dX0_init_21 : decode cX0_init 21 = .ok (.bipush 16, 2) := by decide +kernel
theorem dX0_init_23 : decode cX0_init 23 = .ok (.newarray .int, 2) := by decide +kernel
theorem dX0_init_25 : decode cX0_init 25 = .ok (.putfield 18, 3) := by decide +kernel
theorem dX0_init_28 : decode cX0_init 28 = .ok (.aload_n 0, 1) := by decide +kernel
theorem dX0_init_29 : decode cX0_init 29 = .ok (.bipush 16, 2) := by decide +kernel
theorem dX0_init_31 : decode cX0_init 31 = .ok (.newarray .int, 2) := by decide +kernel
theorem dX0_init_33 : decode cX0_init 33 = .ok (.putfield 21, 3) := by decide +kernel
theorem dX0_init_36 : decode cX0_init 36 = .ok (.aload_n 0, 1) := by decide +kernel
theorem dX0_init_37 : decode cX0_init 37 = .ok (.iconst 0, 1) := by decide +kernel
theorem dX0_init_38 : decode cX0_init 38 = .ok (.putfield 24, 3) := by decide +kernel
theorem dX0_init_41 : decode cX0_init 41 = .ok (.aload_n 0, 1) := by decide +kernel
theorem dX0_init_42 : decode cX0_init 42 = .ok (.bipush 16, 2) := by decide +kernel
theorem dX0_init_44 : decode cX0_init 44 = .ok (.newarray .boolean, 2) := by decide +kernel
theorem dX0_init_46 : decode cX0_init 46 = .ok (.putfield 28, 3) := by decide +kernel
theorem dX0_init_49 : decode cX0_init 49 = .ok (.aload_n 0, 1) := by decide +kernel
theorem dX0_init_50 : decode cX0_init 50 = .ok (.bipush 16, 2) := by decide +kernel
theorem dX0_init_52 : decode cX0_init 52 = .ok (.newarray .int, 2) := by decide +kernel
theorem dX0_init_54 : decode cX0_init 54 = .ok (.putfield 32, 3) := by decide +kernel
theorem dX0_init_57 : decode cX0_init 57 = .ok (.aload_n 0, 1) := by decide +kernel
theorem dX0_init_58 : decode cX0_init 58 = .ok (.bipush 20, 2) := by decide +kernel
theorem dX0_init_60 : decode cX0_init 60 = .ok (.newarray .int, 2) := by decide +kernel
theorem dX0_init_62 : decode cX0_init 62 = .ok (.putfield 35, 3) := by decide +kernel
theorem dX0_init_65 : decode cX0_init 65 = .ok (.aload_n 0, 1) := by decide +kernel
theorem dX0_init_66 : decode cX0_init 66 = .ok (.bipush 20, 2) := by decide +kernel
theorem dX0_init_68 : decode cX0_init 68 = .ok (.newarray .int, 2) := by decide +kernel
theorem dX0_init_70 : decode cX0_init 70 = .ok (.putfield 38, 3) := by decide +kernel
theorem dX0_init_73 : decode cX0_init 73 = .ok (.aload_n 0, 1) := by decide +kernel
theorem dX0_init_74 : decode cX0_init 74 = .ok (.new 41, 3) := by decide +kernel
theorem dX0_init_77 : decode cX0_init 77 = .ok (.dup, 1) := by decide +kernel
theorem dX0_init_78 : decode cX0_init 78 = .ok (.invokespecial 43, 3) := by decide +kernel
theorem dX0_init_81 : decode cX0_init 81 = .ok (.putfield 44, 3) := by decide +kernel
theorem dX0_init_84 : decode cX0_init 84 = .ok (.aload_n 0, 1) := by decide +kernel
theorem dX0_init_85 : decode cX0_init 85 = .ok (.new 41, 3) := by decide +kernel
theorem dX0_init_88 : decode cX0_init 88 = .ok (.dup, 1) := by decide +kernel
theorem dX0_init_89 : decode cX0_init 89 = .ok (.invokespecial 43, 3) := by decide +kernel
theorem dX0_init_92 : decode cX0_init 92 = .ok (.putfield 48, 3) := by decide +kernel
theorem dX0_init_95 : decode cX0_init 95 = .ok (.return_, 1) := by decide +kernel
theorem dX0_append_0 : decode cX0_append 0 = .ok (.aload_n 0, 1) := by decide +kernel
theorem dX0_append_1 : decode cX0_append 1 = .ok (.getfield 24, 3) := by decide +kernel
theorem dX0_append_4 : decode cX0_append 4 = .ok (.bipush 16, 2) := by decide +kernel
theorem dX0_append_6 : decode cX0_append 6 = .ok (.if_icmp .lt 5, 3) := by decide +kernel
theorem dX0_append_9 : decode cX0_append 9 = .ok (.iconst 0, 1) := by decide +kernel
theorem dX0_append_10 : decode cX0_append 10 = .ok (.ireturn, 1) := by decide +kernel
theorem dX0_append_11 : decode cX0_append 11 = .ok (.aload_n 0, 1) := by decide +kernel
theorem dX0_append_12 : decode cX0_append 12 = .ok (.getfield 9, 3) := by decide +kernel
theorem dX0_append_15 : decode cX0_append 15 = .ok (.aload_n 0, 1) := by decide +kernel
theorem dX0_append_16 : decode cX0_append 16 = .ok (.getfield 24, 3) := by decide +kernel
theorem dX0_append_19 : decode cX0_append 19 = .ok (.iload_n 1, 1) := by decide +kernel
theorem dX0_append_20 : decode cX0_append 20 = .ok (.iastore, 1) := by decide +kernel
theorem dX0_append_21 : decode cX0_append 21 = .ok (.aload_n 0, 1) := by decide +kernel
theorem dX0_append_22 : decode cX0_append 22 = .ok (.getfield 15, 3) := by decide +kernel
theorem dX0_append_25 : decode cX0_append 25 = .ok (.aload_n 0, 1) := by decide +kernel
theorem dX0_append_26 : decode cX0_append 26 = .ok (.getfield 24, 3) := by decide +kernel
theorem dX0_append_29 : decode cX0_append 29 = .ok (.iload_n 2, 1) := by decide +kernel
theorem dX0_append_30 : decode cX0_append 30 = .ok (.iastore, 1) := by decide +kernel
theorem dX0_append_31 : decode cX0_append 31 = .ok (.aload_n 0, 1) := by decide +kernel
theorem dX0_append_32 : decode cX0_append 32 = .ok (.getfield 18, 3) := by decide +kernel
theorem dX0_append_35 : decode cX0_append 35 = .ok (.aload_n 0, 1) := by decide +kernel
theorem dX0_append_36 : decode cX0_append 36 = .ok (.getfield 24, 3) := by decide +kernel
theorem dX0_append_39 : decode cX0_append 39 = .ok (.iload_n 3, 1) := by decide +kernel
theorem dX0_append_40 : decode cX0_append 40 = .ok (.iastore, 1) := by decide +kernel
theorem dX0_append_41 : decode cX0_append 41 = .ok (.aload_n 0, 1) := by decide +kernel
theorem dX0_append_42 : decode cX0_append 42 = .ok (.getfield 21, 3) := by decide +kernel
theorem dX0_append_45 : decode cX0_append 45 = .ok (.aload_n 0, 1) := by decide +kernel
theorem dX0_append_46 : decode cX0_append 46 = .ok (.getfield 24, 3) := by decide +kernel
theorem dX0_append_49 : decode cX0_append 49 = .ok (.iload 4, 2) := by decide +kernel
theorem dX0_append_51 : decode cX0_append 51 = .ok (.iastore, 1) := by decide +kernel
theorem dX0_append_52 : decode cX0_append 52 = .ok (.aload_n 0, 1) := by decide +kernel
theorem dX0_append_53 : decode cX0_append 53 = .ok (.dup, 1) := by decide +kernel
theorem dX0_append_54 : decode cX0_append 54 = .ok (.getfield 24, 3) := by decide +kernel
theorem dX0_append_57 : decode cX0_append 57 = .ok (.iconst 1, 1) := by decide +kernel
theorem dX0_append_58 : decode cX0_append 58 = .ok (.iadd, 1) := by decide +kernel
theorem dX0_append_59 : decode cX0_append 59 = .ok (.putfield 24, 3) := by decide +kernel
theorem dX0_append_62 : decode cX0_append 62 = .ok (.aload_n 0, 1) := by decide +kernel
theorem dX0_append_63 : decode cX0_append 63 = .ok (.invokevirtual 51, 3) := by decide +kernel
theorem dX0_append_66 : decode cX0_append 66 = .ok (.iconst 1, 1) := by decide +kernel
theorem dX0_append_67 : decode cX0_append 67 = .ok (.ireturn, 1) := by decide +kernel
theorem dX0_remove_0 : decode cX0_remove 0 = .ok (.aload_n 0, 1) := by decide +kernel
theorem dX0_remove_1 : decode cX0_remove 1 = .ok (.iload_n 1, 1) := by decide +kernel
theorem dX0_remove_2 : decode cX0_remove 2 = .ok (.invokevirtual 54, 3) := by decide +kernel
theorem dX0_remove_5 : decode cX0_remove 5 = .ok (.aload_n 0, 1) := by decide +kernel
theorem dX0_remove_6 : decode cX0_remove 6 = .ok (.invokevirtual 51, 3) := by decide +kernel
theorem dX0_remove_9 : decode cX0_remove 9 = .ok (.return_, 1) := by decide +kernel
theorem dX0_removeOf_0 : decode cX0_removeOf 0 = .ok (.aload_n 0, 1) := by decide +kernel
theorem dX0_removeOf_1 : decode cX0_removeOf 1 = .ok (.getfield 24, 3) := by decide +kernel
theorem dX0_removeOf_4 : decode cX0_removeOf 4 = .ok (.iconst 1, 1) := by decide +kernel
theorem dX0_removeOf_5 : decode cX0_removeOf 5 = .ok (.isub, 1) := by decide +kernel
theorem dX0_removeOf_6 : decode cX0_removeOf 6 = .ok (.istore_n 2, 1) := by decide +kernel
theorem dX0_removeOf_7 : decode cX0_removeOf 7 = .ok (.iload_n 2, 1) := by decide +kernel
theorem dX0_removeOf_8 : decode cX0_removeOf 8 = .ok (.ifCond .lt 34, 3) := by decide +kernel
theorem dX0_removeOf_11 : decode cX0_removeOf 11 = .ok (.aload_n 0, 1) := by decide +kernel
theorem dX0_removeOf_12 : decode cX0_removeOf 12 = .ok (.getfield 9, 3) := by decide +kernel
theorem dX0_removeOf_15 : decode cX0_removeOf 15 = .ok (.iload_n 2, 1) := by decide +kernel
theorem dX0_removeOf_16 : decode cX0_removeOf 16 = .ok (.iaload, 1) := by decide +kernel
theorem dX0_removeOf_17 : decode cX0_removeOf 17 = .ok (.iload_n 1, 1) := by decide +kernel
theorem dX0_removeOf_18 : decode cX0_removeOf 18 = .ok (.if_icmp .eq 13, 3) := by decide +kernel
theorem dX0_removeOf_21 : decode cX0_removeOf 21 = .ok (.aload_n 0, 1) := by decide +kernel
theorem dX0_removeOf_22 : decode cX0_removeOf 22 = .ok (.getfield 15, 3) := by decide +kernel
theorem dX0_removeOf_25 : decode cX0_removeOf 25 = .ok (.iload_n 2, 1) := by decide +kernel
theorem dX0_removeOf_26 : decode cX0_removeOf 26 = .ok (.iaload, 1) := by decide +kernel
theorem dX0_removeOf_27 : decode cX0_removeOf 27 = .ok (.iload_n 1, 1) := by decide +kernel
theorem dX0_removeOf_28 : decode cX0_removeOf 28 = .ok (.if_icmp .ne 8, 3) := by decide +kernel
theorem dX0_removeOf_31 : decode cX0_removeOf 31 = .ok (.aload_n 0, 1) := by decide +kernel
theorem dX0_removeOf_32 : decode cX0_removeOf 32 = .ok (.iload_n 2, 1) := by decide +kernel
theorem dX0_removeOf_33 : decode cX0_removeOf 33 = .ok (.invokevirtual 54, 3) := by decide +kernel
theorem dX0_removeOf_36 : decode cX0_removeOf 36 = .ok (.iinc 2 (-1), 3) := by decide +kernel
theorem dX0_removeOf_39 : decode cX0_removeOf 39 = .ok (.goto (-32), 3) := by decide +kernel
theorem dX0_removeOf_42 : decode cX0_removeOf 42 = .ok (.aload_n 0, 1) := by decide +kernel
theorem dX0_removeOf_43 : decode cX0_removeOf 43 = .ok (.invokevirtual 51, 3) := by decide +kernel
theorem dX0_removeOf_46 : decode cX0_removeOf 46 = .ok (.return_, 1) := by decide +kernel
theorem dX0_takeOut_0 : decode cX0_takeOut 0 = .ok (.iload_n 1, 1) := by decide +kernel
theorem dX0_takeOut_1 : decode cX0_takeOut 1 = .ok (.istore_n 2, 1) := by decide +kernel
theorem dX0_takeOut_2 : decode cX0_takeOut 2 = .ok (.iload_n 2, 1) := by decide +kernel
theorem dX0_takeOut_3 : decode cX0_takeOut 3 = .ok (.aload_n 0, 1) := by decide +kernel
theorem dX0_takeOut_4 : decode cX0_takeOut 4 = .ok (.getfield 24, 3) := by decide +kernel
theorem dX0_takeOut_7 : decode cX0_takeOut 7 = .ok (.iconst 1, 1) := by decide +kernel
theorem dX0_takeOut_8 : decode cX0_takeOut 8 = .ok (.isub, 1) := by decide +kernel
theorem dX0_takeOut_9 : decode cX0_takeOut 9 = .ok (.if_icmp .ge 65, 3) := by decide +kernel
theorem dX0_takeOut_12 : decode cX0_takeOut 12 = .ok (.aload_n 0, 1) := by decide +kernel
theorem dX0_takeOut_13 : decode cX0_takeOut 13 = .ok (.getfield 9, 3) := by decide +kernel
theorem dX0_takeOut_16 : decode cX0_takeOut 16 = .ok (.iload_n 2, 1) := by decide +kernel
theorem dX0_takeOut_17 : decode cX0_takeOut 17 = .ok (.aload_n 0, 1) := by decide +kernel
theorem dX0_takeOut_18 : decode cX0_takeOut 18 = .ok (.getfield 9, 3) := by decide +kernel
theorem dX0_takeOut_21 : decode cX0_takeOut 21 = .ok (.iload_n 2, 1) := by decide +kernel
theorem dX0_takeOut_22 : decode cX0_takeOut 22 = .ok (.iconst 1, 1) := by decide +kernel
theorem dX0_takeOut_23 : decode cX0_takeOut 23 = .ok (.iadd, 1) := by decide +kernel
theorem dX0_takeOut_24 : decode cX0_takeOut 24 = .ok (.iaload, 1) := by decide +kernel
theorem dX0_takeOut_25 : decode cX0_takeOut 25 = .ok (.iastore, 1) := by decide +kernel
theorem dX0_takeOut_26 : decode cX0_takeOut 26 = .ok (.aload_n 0, 1) := by decide +kernel
theorem dX0_takeOut_27 : decode cX0_takeOut 27 = .ok (.getfield 15, 3) := by decide +kernel
theorem dX0_takeOut_30 : decode cX0_takeOut 30 = .ok (.iload_n 2, 1) := by decide +kernel
theorem dX0_takeOut_31 : decode cX0_takeOut 31 = .ok (.aload_n 0, 1) := by decide +kernel
theorem dX0_takeOut_32 : decode cX0_takeOut 32 = .ok (.getfield 15, 3) := by decide +kernel
theorem dX0_takeOut_35 : decode cX0_takeOut 35 = .ok (.iload_n 2, 1) := by decide +kernel
theorem dX0_takeOut_36 : decode cX0_takeOut 36 = .ok (.iconst 1, 1) := by decide +kernel
theorem dX0_takeOut_37 : decode cX0_takeOut 37 = .ok (.iadd, 1) := by decide +kernel
theorem dX0_takeOut_38 : decode cX0_takeOut 38 = .ok (.iaload, 1) := by decide +kernel
theorem dX0_takeOut_39 : decode cX0_takeOut 39 = .ok (.iastore, 1) := by decide +kernel
theorem dX0_takeOut_40 : decode cX0_takeOut 40 = .ok (.aload_n 0, 1) := by decide +kernel
theorem dX0_takeOut_41 : decode cX0_takeOut 41 = .ok (.getfield 18, 3) := by decide +kernel
theorem dX0_takeOut_44 : decode cX0_takeOut 44 = .ok (.iload_n 2, 1) := by decide +kernel
theorem dX0_takeOut_45 : decode cX0_takeOut 45 = .ok (.aload_n 0, 1) := by decide +kernel
theorem dX0_takeOut_46 : decode cX0_takeOut 46 = .ok (.getfield 18, 3) := by decide +kernel
theorem dX0_takeOut_49 : decode cX0_takeOut 49 = .ok (.iload_n 2, 1) := by decide +kernel
theorem dX0_takeOut_50 : decode cX0_takeOut 50 = .ok (.iconst 1, 1) := by decide +kernel
theorem dX0_takeOut_51 : decode cX0_takeOut 51 = .ok (.iadd, 1) := by decide +kernel
theorem dX0_takeOut_52 : decode cX0_takeOut 52 = .ok (.iaload, 1) := by decide +kernel
theorem dX0_takeOut_53 : decode cX0_takeOut 53 = .ok (.iastore, 1) := by decide +kernel
theorem dX0_takeOut_54 : decode cX0_takeOut 54 = .ok (.aload_n 0, 1) := by decide +kernel
theorem dX0_takeOut_55 : decode cX0_takeOut 55 = .ok (.getfield 21, 3) := by decide +kernel
theorem dX0_takeOut_58 : decode cX0_takeOut 58 = .ok (.iload_n 2, 1) := by decide +kernel
theorem dX0_takeOut_59 : decode cX0_takeOut 59 = .ok (.aload_n 0, 1) := by decide +kernel
theorem dX0_takeOut_60 : decode cX0_takeOut 60 = .ok (.getfield 21, 3) := by decide +kernel
theorem dX0_takeOut_63 : decode cX0_takeOut 63 = .ok (.iload_n 2, 1) := by decide +kernel
theorem dX0_takeOut_64 : decode cX0_takeOut 64 = .ok (.iconst 1, 1) := by decide +kernel
theorem dX0_takeOut_65 : decode cX0_takeOut 65 = .ok (.iadd, 1) := by decide +kernel
theorem dX0_takeOut_66 : decode cX0_takeOut 66 = .ok (.iaload, 1) := by decide +kernel
theorem dX0_takeOut_67 : decode cX0_takeOut 67 = .ok (.iastore, 1) := by decide +kernel
theorem dX0_takeOut_68 : decode cX0_takeOut 68 = .ok (.iinc 2 1, 3) := by decide +kernel
theorem dX0_takeOut_71 : decode cX0_takeOut 71 = .ok (.goto (-69), 3) := by decide +kernel
theorem dX0_takeOut_74 : decode cX0_takeOut 74 = .ok (.aload_n 0, 1) := by decide +kernel
theorem dX0_takeOut_75 : decode cX0_takeOut 75 = .ok (.dup, 1) := by decide +kernel
theorem dX0_takeOut_76 : decode cX0_takeOut 76 = .ok (.getfield 24, 3) := by decide +kernel
theorem dX0_takeOut_79 : decode cX0_takeOut 79 = .ok (.iconst 1, 1) := by decide +kernel
theorem dX0_takeOut_80 : decode cX0_takeOut 80 = .ok (.isub, 1) := by decide +kernel
theorem dX0_takeOut_81 : decode cX0_takeOut 81 = .ok (.putfield 24, 3) := by decide +kernel
theorem dX0_takeOut_84 : decode cX0_takeOut 84 = .ok (.return_, 1) := by decide +kernel
theorem dX0_copy_0 : decode cX0_copy 0 = .ok (.aload_n 0, 1) := by decide +kernel
theorem dX0_copy_1 : decode cX0_copy 1 = .ok (.aload_n 1, 1) := by decide +kernel
theorem dX0_copy_2 : decode cX0_copy 2 = .ok (.getfield 24, 3) := by decide +kernel
theorem dX0_copy_5 : decode cX0_copy 5 = .ok (.putfield 24, 3) := by decide +kernel
theorem dX0_copy_8 : decode cX0_copy 8 = .ok (.aload_n 1, 1) := by decide +kernel
theorem dX0_copy_9 : decode cX0_copy 9 = .ok (.getfield 9, 3) := by decide +kernel
theorem dX0_copy_12 : decode cX0_copy 12 = .ok (.iconst 0, 1) := by decide +kernel
theorem dX0_copy_13 : decode cX0_copy 13 = .ok (.aload_n 0, 1) := by decide +kernel
theorem dX0_copy_14 : decode cX0_copy 14 = .ok (.getfield 9, 3) := by decide +kernel
theorem dX0_copy_17 : decode cX0_copy 17 = .ok (.iconst 0, 1) := by decide +kernel
theorem dX0_copy_18 : decode cX0_copy 18 = .ok (.bipush 16, 2) := by decide +kernel
theorem dX0_copy_20 : decode cX0_copy 20 = .ok (.invokestatic 58, 3) := by decide +kernel
theorem dX0_copy_23 : decode cX0_copy 23 = .ok (.aload_n 1, 1) := by decide +kernel
theorem dX0_copy_24 : decode cX0_copy 24 = .ok (.getfield 15, 3) := by decide +kernel
theorem dX0_copy_27 : decode cX0_copy 27 = .ok (.iconst 0, 1) := by decide +kernel
theorem dX0_copy_28 : decode cX0_copy 28 = .ok (.aload_n 0, 1) := by decide +kernel
theorem dX0_copy_29 : decode cX0_copy 29 = .ok (.getfield 15, 3) := by decide +kernel
theorem dX0_copy_32 : decode cX0_copy 32 = .ok (.iconst 0, 1) := by decide +kernel
theorem dX0_copy_33 : decode cX0_copy 33 = .ok (.bipush 16, 2) := by decide +kernel
theorem dX0_copy_35 : decode cX0_copy 35 = .ok (.invokestatic 58, 3) := by decide +kernel
theorem dX0_copy_38 : decode cX0_copy 38 = .ok (.aload_n 1, 1) := by decide +kernel
theorem dX0_copy_39 : decode cX0_copy 39 = .ok (.getfield 18, 3) := by decide +kernel
theorem dX0_copy_42 : decode cX0_copy 42 = .ok (.iconst 0, 1) := by decide +kernel
theorem dX0_copy_43 : decode cX0_copy 43 = .ok (.aload_n 0, 1) := by decide +kernel
theorem dX0_copy_44 : decode cX0_copy 44 = .ok (.getfield 18, 3) := by decide +kernel
theorem dX0_copy_47 : decode cX0_copy 47 = .ok (.iconst 0, 1) := by decide +kernel
theorem dX0_copy_48 : decode cX0_copy 48 = .ok (.bipush 16, 2) := by decide +kernel
theorem dX0_copy_50 : decode cX0_copy 50 = .ok (.invokestatic 58, 3) := by decide +kernel
theorem dX0_copy_53 : decode cX0_copy 53 = .ok (.aload_n 1, 1) := by decide +kernel
theorem dX0_copy_54 : decode cX0_copy 54 = .ok (.getfield 21, 3) := by decide +kernel
theorem dX0_copy_57 : decode cX0_copy 57 = .ok (.iconst 0, 1) := by decide +kernel
theorem dX0_copy_58 : decode cX0_copy 58 = .ok (.aload_n 0, 1) := by decide +kernel
theorem dX0_copy_59 : decode cX0_copy 59 = .ok (.getfield 21, 3) := by decide +kernel
theorem dX0_copy_62 : decode cX0_copy 62 = .ok (.iconst 0, 1) := by decide +kernel
theorem dX0_copy_63 : decode cX0_copy 63 = .ok (.bipush 16, 2) := by decide +kernel
theorem dX0_copy_65 : decode cX0_copy 65 = .ok (.invokestatic 58, 3) := by decide +kernel
theorem dX0_copy_68 : decode cX0_copy 68 = .ok (.aload_n 0, 1) := by decide +kernel
theorem dX0_copy_69 : decode cX0_copy 69 = .ok (.invokevirtual 51, 3) := by decide +kernel
theorem dX0_copy_72 : decode cX0_copy 72 = .ok (.return_, 1) := by decide +kernel
theorem dX0_joining_0 : decode cX0_joining 0 = .ok (.iconst 0, 1) := by decide +kernel
theorem dX0_joining_1 : decode cX0_joining 1 = .ok (.istore_n 1, 1) := by decide +kernel
theorem dX0_joining_2 : decode cX0_joining 2 = .ok (.iconst 0, 1) := by decide +kernel
theorem dX0_joining_3 : decode cX0_joining 3 = .ok (.istore_n 2, 1) := by decide +kernel
theorem dX0_joining_4 : decode cX0_joining 4 = .ok (.iload_n 2, 1) := by decide +kernel
theorem dX0_joining_5 : decode cX0_joining 5 = .ok (.aload_n 0, 1) := by decide +kernel
theorem dX0_joining_6 : decode cX0_joining 6 = .ok (.getfield 24, 3) := by decide +kernel
theorem dX0_joining_9 : decode cX0_joining 9 = .ok (.if_icmp .ge 26, 3) := by decide +kernel
theorem dX0_joining_12 : decode cX0_joining 12 = .ok (.iload_n 1, 1) := by decide +kernel
theorem dX0_joining_13 : decode cX0_joining 13 = .ok (.aload_n 0, 1) := by decide +kernel
theorem dX0_joining_14 : decode cX0_joining 14 = .ok (.getfield 28, 3) := by decide +kernel
theorem dX0_joining_17 : decode cX0_joining 17 = .ok (.iload_n 2, 1) := by decide +kernel
theorem dX0_joining_18 : decode cX0_joining 18 = .ok (.baload, 1) := by decide +kernel
theorem dX0_joining_19 : decode cX0_joining 19 = .ok (.ifCond .eq 7, 3) := by decide +kernel
theorem dX0_joining_22 : decode cX0_joining 22 = .ok (.iconst 1, 1) := by decide +kernel
theorem dX0_joining_23 : decode cX0_joining 23 = .ok (.goto 4, 3) := by decide +kernel
theorem dX0_joining_26 : decode cX0_joining 26 = .ok (.iconst 0, 1) := by decide +kernel
theorem dX0_joining_27 : decode cX0_joining 27 = .ok (.iadd, 1) := by decide +kernel
theorem dX0_joining_28 : decode cX0_joining 28 = .ok (.istore_n 1, 1) := by decide +kernel
theorem dX0_joining_29 : decode cX0_joining 29 = .ok (.iinc 2 1, 3) := by decide +kernel
theorem dX0_joining_32 : decode cX0_joining 32 = .ok (.goto (-28), 3) := by decide +kernel
theorem dX0_joining_35 : decode cX0_joining 35 = .ok (.iload_n 1, 1) := by decide +kernel
theorem dX0_joining_36 : decode cX0_joining 36 = .ok (.ireturn, 1) := by decide +kernel
theorem dX0_against_0 : decode cX0_against 0 = .ok (.iconst 0, 1) := by decide +kernel
theorem dX0_against_1 : decode cX0_against 1 = .ok (.istore_n 1, 1) := by decide +kernel
theorem dX0_against_2 : decode cX0_against 2 = .ok (.iconst 0, 1) := by decide +kernel
theorem dX0_against_3 : decode cX0_against 3 = .ok (.istore_n 2, 1) := by decide +kernel
theorem dX0_against_4 : decode cX0_against 4 = .ok (.iload_n 2, 1) := by decide +kernel
theorem dX0_against_5 : decode cX0_against 5 = .ok (.aload_n 0, 1) := by decide +kernel
theorem dX0_against_6 : decode cX0_against 6 = .ok (.getfield 24, 3) := by decide +kernel
theorem dX0_against_9 : decode cX0_against 9 = .ok (.if_icmp .ge 27, 3) := by decide +kernel
theorem dX0_against_12 : decode cX0_against 12 = .ok (.iload_n 1, 1) := by decide +kernel
theorem dX0_against_13 : decode cX0_against 13 = .ok (.aload_n 0, 1) := by decide +kernel
theorem dX0_against_14 : decode cX0_against 14 = .ok (.getfield 32, 3) := by decide +kernel
theorem dX0_against_17 : decode cX0_against 17 = .ok (.iload_n 2, 1) := by decide +kernel
theorem dX0_against_18 : decode cX0_against 18 = .ok (.iaload, 1) := by decide +kernel
theorem dX0_against_19 : decode cX0_against 19 = .ok (.iconst 1, 1) := by decide +kernel
theorem dX0_against_20 : decode cX0_against 20 = .ok (.if_icmp .ne 7, 3) := by decide +kernel
theorem dX0_against_23 : decode cX0_against 23 = .ok (.iconst 1, 1) := by decide +kernel
theorem dX0_against_24 : decode cX0_against 24 = .ok (.goto 4, 3) := by decide +kernel
theorem dX0_against_27 : decode cX0_against 27 = .ok (.iconst 0, 1) := by decide +kernel
theorem dX0_against_28 : decode cX0_against 28 = .ok (.iadd, 1) := by decide +kernel
theorem dX0_against_29 : decode cX0_against 29 = .ok (.istore_n 1, 1) := by decide +kernel
theorem dX0_against_30 : decode cX0_against 30 = .ok (.iinc 2 1, 3) := by decide +kernel
theorem dX0_against_33 : decode cX0_against 33 = .ok (.goto (-29), 3) := by decide +kernel
theorem dX0_against_36 : decode cX0_against 36 = .ok (.iload_n 1, 1) := by decide +kernel
theorem dX0_against_37 : decode cX0_against 37 = .ok (.ireturn, 1) := by decide +kernel
theorem dX0_isOver_0 : decode cX0_isOver 0 = .ok (.iconst 0, 1) := by decide +kernel
theorem dX0_isOver_1 : decode cX0_isOver 1 = .ok (.istore_n 1, 1) := by decide +kernel
theorem dX0_isOver_2 : decode cX0_isOver 2 = .ok (.iload_n 1, 1) := by decide +kernel
theorem dX0_isOver_3 : decode cX0_isOver 3 = .ok (.aload_n 0, 1) := by decide +kernel
theorem dX0_isOver_4 : decode cX0_isOver 4 = .ok (.getfield 24, 3) := by decide +kernel
theorem dX0_isOver_7 : decode cX0_isOver 7 = .ok (.if_icmp .ge 22, 3) := by decide +kernel
theorem dX0_isOver_10 : decode cX0_isOver 10 = .ok (.aload_n 0, 1) := by decide +kernel
theorem dX0_isOver_11 : decode cX0_isOver 11 = .ok (.getfield 32, 3) := by decide +kernel
theorem dX0_isOver_14 : decode cX0_isOver 14 = .ok (.iload_n 1, 1) := by decide +kernel
theorem dX0_isOver_15 : decode cX0_isOver 15 = .ok (.iaload, 1) := by decide +kernel
theorem dX0_isOver_16 : decode cX0_isOver 16 = .ok (.bipush (-15), 2) := by decide +kernel
theorem dX0_isOver_18 : decode cX0_isOver 18 = .ok (.if_icmp .ne 5, 3) := by decide +kernel
theorem dX0_isOver_21 : decode cX0_isOver 21 = .ok (.iconst 1, 1) := by decide +kernel
theorem dX0_isOver_22 : decode cX0_isOver 22 = .ok (.ireturn, 1) := by decide +kernel
theorem dX0_isOver_23 : decode cX0_isOver 23 = .ok (.iinc 1 1, 3) := by decide +kernel
theorem dX0_isOver_26 : decode cX0_isOver 26 = .ok (.goto (-24), 3) := by decide +kernel
theorem dX0_isOver_29 : decode cX0_isOver 29 = .ok (.iconst 0, 1) := by decide +kernel
theorem dX0_isOver_30 : decode cX0_isOver 30 = .ok (.ireturn, 1) := by decide +kernel
theorem dX0_judgeAll_0 : decode cX0_judgeAll 0 = .ok (.iconst 0, 1) := by decide +kernel
theorem dX0_judgeAll_1 : decode cX0_judgeAll 1 = .ok (.istore_n 1, 1) := by decide +kernel
theorem dX0_judgeAll_2 : decode cX0_judgeAll 2 = .ok (.iload_n 1, 1) := by decide +kernel
theorem dX0_judgeAll_3 : decode cX0_judgeAll 3 = .ok (.bipush 20, 2) := by decide +kernel
theorem dX0_judgeAll_5 : decode cX0_judgeAll 5 = .ok (.if_icmp .ge 16, 3) := by decide +kernel
theorem dX0_judgeAll_8 : decode cX0_judgeAll 8 = .ok (.aload_n 0, 1) := by decide +kernel
theorem dX0_judgeAll_9 : decode cX0_judgeAll 9 = .ok (.getfield 35, 3) := by decide +kernel
theorem dX0_judgeAll_12 : decode cX0_judgeAll 12 = .ok (.iload_n 1, 1) := by decide +kernel
theorem dX0_judgeAll_13 : decode cX0_judgeAll 13 = .ok (.iload_n 1, 1) := by decide +kernel
theorem dX0_judgeAll_14 : decode cX0_judgeAll 14 = .ok (.iastore, 1) := by decide +kernel
theorem dX0_judgeAll_15 : decode cX0_judgeAll 15 = .ok (.iinc 1 1, 3) := by decide +kernel
theorem dX0_judgeAll_18 : decode cX0_judgeAll 18 = .ok (.goto (-16), 3) := by decide +kernel
theorem dX0_judgeAll_21 : decode cX0_judgeAll 21 = .ok (.iconst 0, 1) := by decide +kernel
theorem dX0_judgeAll_22 : decode cX0_judgeAll 22 = .ok (.istore_n 1, 1) := by decide +kernel
theorem dX0_judgeAll_23 : decode cX0_judgeAll 23 = .ok (.iload_n 1, 1) := by decide +kernel
theorem dX0_judgeAll_24 : decode cX0_judgeAll 24 = .ok (.aload_n 0, 1) := by decide +kernel
theorem dX0_judgeAll_25 : decode cX0_judgeAll 25 = .ok (.getfield 24, 3) := by decide +kernel
theorem dX0_judgeAll_28 : decode cX0_judgeAll 28 = .ok (.if_icmp .ge 80, 3) := by decide +kernel
theorem dX0_judgeAll_31 : decode cX0_judgeAll 31 = .ok (.aload_n 0, 1) := by decide +kernel
theorem dX0_judgeAll_32 : decode cX0_judgeAll 32 = .ok (.getfield 28, 3) := by decide +kernel
theorem dX0_judgeAll_35 : decode cX0_judgeAll 35 = .ok (.iload_n 1, 1) := by decide +kernel
theorem dX0_judgeAll_36 : decode cX0_judgeAll 36 = .ok (.aload_n 0, 1) := by decide +kernel
theorem dX0_judgeAll_37 : decode cX0_judgeAll 37 = .ok (.getfield 35, 3) := by decide +kernel
theorem dX0_judgeAll_40 : decode cX0_judgeAll 40 = .ok (.aload_n 0, 1) := by decide +kernel
theorem dX0_judgeAll_41 : decode cX0_judgeAll 41 = .ok (.getfield 9, 3) := by decide +kernel
theorem dX0_judgeAll_44 : decode cX0_judgeAll 44 = .ok (.iload_n 1, 1) := by decide +kernel
theorem dX0_judgeAll_45 : decode cX0_judgeAll 45 = .ok (.iaload, 1) := by decide +kernel
theorem dX0_judgeAll_46 : decode cX0_judgeAll 46 = .ok (.iaload, 1) := by decide +kernel
theorem dX0_judgeAll_47 : decode cX0_judgeAll 47 = .ok (.aload_n 0, 1) := by decide +kernel
theorem dX0_judgeAll_48 : decode cX0_judgeAll 48 = .ok (.getfield 35, 3) := by decide +kernel
theorem dX0_judgeAll_51 : decode cX0_judgeAll 51 = .ok (.aload_n 0, 1) := by decide +kernel
theorem dX0_judgeAll_52 : decode cX0_judgeAll 52 = .ok (.getfield 15, 3) := by decide +kernel
theorem dX0_judgeAll_55 : decode cX0_judgeAll 55 = .ok (.iload_n 1, 1) := by decide +kernel
theorem dX0_judgeAll_56 : decode cX0_judgeAll 56 = .ok (.iaload, 1) := by decide +kernel
theorem dX0_judgeAll_57 : decode cX0_judgeAll 57 = .ok (.iaload, 1) := by decide +kernel
theorem dX0_judgeAll_58 : decode cX0_judgeAll 58 = .ok (.if_icmp .eq 7, 3) := by decide +kernel
theorem dX0_judgeAll_61 : decode cX0_judgeAll 61 = .ok (.iconst 1, 1) := by decide +kernel
theorem dX0_judgeAll_62 : decode cX0_judgeAll 62 = .ok (.goto 4, 3) := by decide +kernel
theorem dX0_judgeAll_65 : decode cX0_judgeAll 65 = .ok (.iconst 0, 1) := by decide +kernel
theorem dX0_judgeAll_66 : decode cX0_judgeAll 66 = .ok (.bastore, 1) := by decide +kernel
theorem dX0_judgeAll_67 : decode cX0_judgeAll 67 = .ok (.aload_n 0, 1) := by decide +kernel
theorem dX0_judgeAll_68 : decode cX0_judgeAll 68 = .ok (.getfield 28, 3) := by decide +kernel
theorem dX0_judgeAll_71 : decode cX0_judgeAll 71 = .ok (.iload_n 1, 1) := by decide +kernel
theorem dX0_judgeAll_72 : decode cX0_judgeAll 72 = .ok (.baload, 1) := by decide +kernel
theorem dX0_judgeAll_73 : decode cX0_judgeAll 73 = .ok (.ifCond .eq 29, 3) := by decide +kernel
theorem dX0_judgeAll_76 : decode cX0_judgeAll 76 = .ok (.aload_n 0, 1) := by decide +kernel
theorem dX0_judgeAll_77 : decode cX0_judgeAll 77 = .ok (.aload_n 0, 1) := by decide +kernel
theorem dX0_judgeAll_78 : decode cX0_judgeAll 78 = .ok (.getfield 35, 3) := by decide +kernel
theorem dX0_judgeAll_81 : decode cX0_judgeAll 81 = .ok (.aload_n 0, 1) := by decide +kernel
theorem dX0_judgeAll_82 : decode cX0_judgeAll 82 = .ok (.getfield 9, 3) := by decide +kernel
theorem dX0_judgeAll_85 : decode cX0_judgeAll 85 = .ok (.iload_n 1, 1) := by decide +kernel
theorem dX0_judgeAll_86 : decode cX0_judgeAll 86 = .ok (.iaload, 1) := by decide +kernel
theorem dX0_judgeAll_87 : decode cX0_judgeAll 87 = .ok (.iaload, 1) := by decide +kernel
theorem dX0_judgeAll_88 : decode cX0_judgeAll 88 = .ok (.aload_n 0, 1) := by decide +kernel
theorem dX0_judgeAll_89 : decode cX0_judgeAll 89 = .ok (.getfield 35, 3) := by decide +kernel
theorem dX0_judgeAll_92 : decode cX0_judgeAll 92 = .ok (.aload_n 0, 1) := by decide +kernel
theorem dX0_judgeAll_93 : decode cX0_judgeAll 93 = .ok (.getfield 15, 3) := by decide +kernel
theorem dX0_judgeAll_96 : decode cX0_judgeAll 96 = .ok (.iload_n 1, 1) := by decide +kernel
theorem dX0_judgeAll_97 : decode cX0_judgeAll 97 = .ok (.iaload, 1) := by decide +kernel
theorem dX0_judgeAll_98 : decode cX0_judgeAll 98 = .ok (.iaload, 1) := by decide +kernel
theorem dX0_judgeAll_99 : decode cX0_judgeAll 99 = .ok (.invokevirtual 64, 3) := by decide +kernel
theorem dX0_judgeAll_102 : decode cX0_judgeAll 102 = .ok (.iinc 1 1, 3) := by decide +kernel
theorem dX0_judgeAll_105 : decode cX0_judgeAll 105 = .ok (.goto (-82), 3) := by decide +kernel
theorem dX0_judgeAll_108 : decode cX0_judgeAll 108 = .ok (.iconst 0, 1) := by decide +kernel
theorem dX0_judgeAll_109 : decode cX0_judgeAll 109 = .ok (.istore_n 1, 1) := by decide +kernel
theorem dX0_judgeAll_110 : decode cX0_judgeAll 110 = .ok (.iload_n 1, 1) := by decide +kernel
theorem dX0_judgeAll_111 : decode cX0_judgeAll 111 = .ok (.aload_n 0, 1) := by decide +kernel
theorem dX0_judgeAll_112 : decode cX0_judgeAll 112 = .ok (.getfield 24, 3) := by decide +kernel
theorem dX0_judgeAll_115 : decode cX0_judgeAll 115 = .ok (.if_icmp .ge 33, 3) := by decide +kernel
theorem dX0_judgeAll_118 : decode cX0_judgeAll 118 = .ok (.aload_n 0, 1) := by decide +kernel
theorem dX0_judgeAll_119 : decode cX0_judgeAll 119 = .ok (.getfield 32, 3) := by decide +kernel
theorem dX0_judgeAll_122 : decode cX0_judgeAll 122 = .ok (.iload_n 1, 1) := by decide +kernel
theorem dX0_judgeAll_123 : decode cX0_judgeAll 123 = .ok (.aload_n 0, 1) := by decide +kernel
theorem dX0_judgeAll_124 : decode cX0_judgeAll 124 = .ok (.getfield 28, 3) := by decide +kernel
theorem dX0_judgeAll_127 : decode cX0_judgeAll 127 = .ok (.iload_n 1, 1) := by decide +kernel
theorem dX0_judgeAll_128 : decode cX0_judgeAll 128 = .ok (.baload, 1) := by decide +kernel
theorem dX0_judgeAll_129 : decode cX0_judgeAll 129 = .ok (.ifCond .eq 7, 3) := by decide +kernel
theorem dX0_judgeAll_132 : decode cX0_judgeAll 132 = .ok (.iconst 0, 1) := by decide +kernel
theorem dX0_judgeAll_133 : decode cX0_judgeAll 133 = .ok (.goto 8, 3) := by decide +kernel
theorem dX0_judgeAll_136 : decode cX0_judgeAll 136 = .ok (.aload_n 0, 1) := by decide +kernel
theorem dX0_judgeAll_137 : decode cX0_judgeAll 137 = .ok (.iload_n 1, 1) := by decide +kernel
theorem dX0_judgeAll_138 : decode cX0_judgeAll 138 = .ok (.invokevirtual 68, 3) := by decide +kernel
theorem dX0_judgeAll_141 : decode cX0_judgeAll 141 = .ok (.iastore, 1) := by decide +kernel
theorem dX0_judgeAll_142 : decode cX0_judgeAll 142 = .ok (.iinc 1 1, 3) := by decide +kernel
theorem dX0_judgeAll_145 : decode cX0_judgeAll 145 = .ok (.goto (-35), 3) := by decide +kernel
theorem dX0_judgeAll_148 : decode cX0_judgeAll 148 = .ok (.return_, 1) := by decide +kernel
theorem dX0_mergeBunches_0 : decode cX0_mergeBunches 0 = .ok (.iconst 0, 1) := by decide +kernel
theorem dX0_mergeBunches_1 : decode cX0_mergeBunches 1 = .ok (.istore_n 3, 1) := by decide +kernel
theorem dX0_mergeBunches_2 : decode cX0_mergeBunches 2 = .ok (.iload_n 3, 1) := by decide +kernel
theorem dX0_mergeBunches_3 : decode cX0_mergeBunches 3 = .ok (.bipush 20, 2) := by decide +kernel
theorem dX0_mergeBunches_5 : decode cX0_mergeBunches 5 = .ok (.if_icmp .ge 26, 3) := by decide +kernel
theorem dX0_mergeBunches_8 : decode cX0_mergeBunches 8 = .ok (.aload_n 0, 1) := by decide +kernel
theorem dX0_mergeBunches_9 : decode cX0_mergeBunches 9 = .ok (.getfield 35, 3) := by decide +kernel
theorem dX0_mergeBunches_12 : decode cX0_mergeBunches 12 = .ok (.iload_n 3, 1) := by decide +kernel
theorem dX0_mergeBunches_13 : decode cX0_mergeBunches 13 = .ok (.iaload, 1) := by decide +kernel
theorem dX0_mergeBunches_14 : decode cX0_mergeBunches 14 = .ok (.iload_n 2, 1) := by decide +kernel
theorem dX0_mergeBunches_15 : decode cX0_mergeBunches 15 = .ok (.if_icmp .ne 10, 3) := by decide +kernel
theorem dX0_mergeBunches_18 : decode cX0_mergeBunches 18 = .ok (.aload_n 0, 1) := by decide +kernel
theorem dX0_mergeBunches_19 : decode cX0_mergeBunches 19 = .ok (.getfield 35, 3) := by decide +kernel
theorem dX0_mergeBunches_22 : decode cX0_mergeBunches 22 = .ok (.iload_n 3, 1) := by decide +kernel
theorem dX0_mergeBunches_23 : decode cX0_mergeBunches 23 = .ok (.iload_n 1, 1) := by decide +kernel
theorem dX0_mergeBunches_24 : decode cX0_mergeBunches 24 = .ok (.iastore, 1) := by decide +kernel
theorem dX0_mergeBunches_25 : decode cX0_mergeBunches 25 = .ok (.iinc 3 1, 3) := by decide +kernel
theorem dX0_mergeBunches_28 : decode cX0_mergeBunches 28 = .ok (.goto (-26), 3) := by decide +kernel
theorem dX0_mergeBunches_31 : decode cX0_mergeBunches 31 = .ok (.return_, 1) := by decide +kernel
theorem dX0_verdictOn_0 : decode cX0_verdictOn 0 = .ok (.aload_n 0, 1) := by decide +kernel
theorem dX0_verdictOn_1 : decode cX0_verdictOn 1 = .ok (.aload_n 0, 1) := by decide +kernel
theorem dX0_verdictOn_2 : decode cX0_verdictOn 2 = .ok (.getfield 9, 3) := by decide +kernel
theorem dX0_verdictOn_5 : decode cX0_verdictOn 5 = .ok (.iload_n 1, 1) := by decide +kernel
theorem dX0_verdictOn_6 : decode cX0_verdictOn 6 = .ok (.iaload, 1) := by decide +kernel
theorem dX0_verdictOn_7 : decode cX0_verdictOn 7 = .ok (.aload_n 0, 1) := by decide +kernel
theorem dX0_verdictOn_8 : decode cX0_verdictOn 8 = .ok (.getfield 15, 3) := by decide +kernel
theorem dX0_verdictOn_11 : decode cX0_verdictOn 11 = .ok (.iload_n 1, 1) := by decide +kernel
theorem dX0_verdictOn_12 : decode cX0_verdictOn 12 = .ok (.iaload, 1) := by decide +kernel
theorem dX0_verdictOn_13 : decode cX0_verdictOn 13 = .ok (.invokevirtual 72, 3) := by decide +kernel
theorem dX0_verdictOn_16 : decode cX0_verdictOn 16 = .ok (.bipush (-15), 2) := by decide +kernel
theorem dX0_verdictOn_18 : decode cX0_verdictOn 18 = .ok (.if_icmp .ne 6, 3) := by decide +kernel
theorem dX0_verdictOn_21 : decode cX0_verdictOn 21 = .ok (.bipush (-15), 2) := by decide +kernel
theorem dX0_verdictOn_23 : decode cX0_verdictOn 23 = .ok (.ireturn, 1) := by decide +kernel
theorem dX0_verdictOn_24 : decode cX0_verdictOn 24 = .ok (.aload_n 0, 1) := by decide +kernel
theorem dX0_verdictOn_25 : decode cX0_verdictOn 25 = .ok (.getfield 48, 3) := by decide +kernel
theorem dX0_verdictOn_28 : decode cX0_verdictOn 28 = .ok (.aload_n 0, 1) := by decide +kernel
theorem dX0_verdictOn_29 : decode cX0_verdictOn 29 = .ok (.getfield 18, 3) := by decide +kernel
theorem dX0_verdictOn_32 : decode cX0_verdictOn 32 = .ok (.iload_n 1, 1) := by decide +kernel
theorem dX0_verdictOn_33 : decode cX0_verdictOn 33 = .ok (.iaload, 1) := by decide +kernel
theorem dX0_verdictOn_34 : decode cX0_verdictOn 34 = .ok (.i2l, 1) := by decide +kernel
theorem dX0_verdictOn_35 : decode cX0_verdictOn 35 = .ok (.aload_n 0, 1) := by decide +kernel
theorem dX0_verdictOn_36 : decode cX0_verdictOn 36 = .ok (.getfield 21, 3) := by decide +kernel
theorem dX0_verdictOn_39 : decode cX0_verdictOn 39 = .ok (.iload_n 1, 1) := by decide +kernel
theorem dX0_verdictOn_40 : decode cX0_verdictOn 40 = .ok (.iaload, 1) := by decide +kernel
theorem dX0_verdictOn_41 : decode cX0_verdictOn 41 = .ok (.i2l, 1) := by decide +kernel
theorem dX0_verdictOn_42 : decode cX0_verdictOn 42 = .ok (.invokevirtual 76, 3) := by decide +kernel
theorem dX0_verdictOn_45 : decode cX0_verdictOn 45 = .ok (.aload_n 0, 1) := by decide +kernel
theorem dX0_verdictOn_46 : decode cX0_verdictOn 46 = .ok (.getfield 44, 3) := by decide +kernel
theorem dX0_verdictOn_49 : decode cX0_verdictOn 49 = .ok (.aload_n 0, 1) := by decide +kernel
theorem dX0_verdictOn_50 : decode cX0_verdictOn 50 = .ok (.getfield 48, 3) := by decide +kernel
theorem dX0_verdictOn_53 : decode cX0_verdictOn 53 = .ok (.invokevirtual 80, 3) := by decide +kernel
theorem dX0_verdictOn_56 : decode cX0_verdictOn 56 = .ok (.ifCond .ne 7, 3) := by decide +kernel
theorem dX0_verdictOn_59 : decode cX0_verdictOn 59 = .ok (.iconst 0, 1) := by decide +kernel
theorem dX0_verdictOn_60 : decode cX0_verdictOn 60 = .ok (.goto 4, 3) := by decide +kernel
theorem dX0_verdictOn_63 : decode cX0_verdictOn 63 = .ok (.iconst 1, 1) := by decide +kernel
theorem dX0_verdictOn_64 : decode cX0_verdictOn 64 = .ok (.ireturn, 1) := by decide +kernel
theorem dX0_goFrom_0 : decode cX0_goFrom 0 = .ok (.aload_n 0, 1) := by decide +kernel
theorem dX0_goFrom_1 : decode cX0_goFrom 1 = .ok (.getfield 44, 3) := by decide +kernel
theorem dX0_goFrom_4 : decode cX0_goFrom 4 = .ok (.lconst 1, 1) := by decide +kernel
theorem dX0_goFrom_5 : decode cX0_goFrom 5 = .ok (.lconst 1, 1) := by decide +kernel
theorem dX0_goFrom_6 : decode cX0_goFrom 6 = .ok (.invokevirtual 76, 3) := by decide +kernel
theorem dX0_goFrom_9 : decode cX0_goFrom 9 = .ok (.aload_n 0, 1) := by decide +kernel
theorem dX0_goFrom_10 : decode cX0_goFrom 10 = .ok (.getfield 35, 3) := by decide +kernel
theorem dX0_goFrom_13 : decode cX0_goFrom 13 = .ok (.iload_n 1, 1) := by decide +kernel
theorem dX0_goFrom_14 : decode cX0_goFrom 14 = .ok (.iaload, 1) := by decide +kernel
theorem dX0_goFrom_15 : decode cX0_goFrom 15 = .ok (.aload_n 0, 1) := by decide +kernel
theorem dX0_goFrom_16 : decode cX0_goFrom 16 = .ok (.getfield 35, 3) := by decide +kernel
theorem dX0_goFrom_19 : decode cX0_goFrom 19 = .ok (.iload_n 2, 1) := by decide +kernel
theorem dX0_goFrom_20 : decode cX0_goFrom 20 = .ok (.iaload, 1) := by decide +kernel
theorem dX0_goFrom_21 : decode cX0_goFrom 21 = .ok (.if_icmp .eq 6, 3) := by decide +kernel
theorem dX0_goFrom_24 : decode cX0_goFrom 24 = .ok (.bipush (-5), 2) := by decide +kernel
theorem dX0_goFrom_26 : decode cX0_goFrom 26 = .ok (.ireturn, 1) := by decide +kernel
theorem dX0_goFrom_27 : decode cX0_goFrom 27 = .ok (.aload_n 0, 1) := by decide +kernel
theorem dX0_goFrom_28 : decode cX0_goFrom 28 = .ok (.iload_n 2, 1) := by decide +kernel
theorem dX0_goFrom_29 : decode cX0_goFrom 29 = .ok (.invokevirtual 84, 3) := by decide +kernel
theorem dX0_goFrom_32 : decode cX0_goFrom 32 = .ok (.iload_n 1, 1) := by decide +kernel
theorem dX0_goFrom_33 : decode cX0_goFrom 33 = .ok (.istore_n 3, 1) := by decide +kernel
theorem dX0_goFrom_34 : decode cX0_goFrom 34 = .ok (.iconst 0, 1) := by decide +kernel
theorem dX0_goFrom_35 : decode cX0_goFrom 35 = .ok (.istore 4, 2) := by decide +kernel
theorem dX0_goFrom_37 : decode cX0_goFrom 37 = .ok (.iload 4, 2) := by decide +kernel
theorem dX0_goFrom_39 : decode cX0_goFrom 39 = .ok (.bipush 20, 2) := by decide +kernel
theorem dX0_goFrom_41 : decode cX0_goFrom 41 = .ok (.if_icmp .ge 162, 3) := by decide +kernel
theorem dX0_goFrom_44 : decode cX0_goFrom 44 = .ok (.iload_n 3, 1) := by decide +kernel
theorem dX0_goFrom_45 : decode cX0_goFrom 45 = .ok (.iload_n 2, 1) := by decide +kernel
theorem dX0_goFrom_46 : decode cX0_goFrom 46 = .ok (.if_icmp .eq 157, 3) := by decide +kernel
theorem dX0_goFrom_49 : decode cX0_goFrom 49 = .ok (.aload_n 0, 1) := by decide +kernel
theorem dX0_goFrom_50 : decode cX0_goFrom 50 = .ok (.getfield 38, 3) := by decide +kernel
theorem dX0_goFrom_53 : decode cX0_goFrom 53 = .ok (.iload_n 3, 1) := by decide +kernel
theorem dX0_goFrom_54 : decode cX0_goFrom 54 = .ok (.iaload, 1) := by decide +kernel
theorem dX0_goFrom_55 : decode cX0_goFrom 55 = .ok (.istore 5, 2) := by decide +kernel
theorem dX0_goFrom_57 : decode cX0_goFrom 57 = .ok (.iload 5, 2) := by decide +kernel
theorem dX0_goFrom_59 : decode cX0_goFrom 59 = .ok (.ifCond .lt 12, 3) := by decide +kernel
theorem dX0_goFrom_62 : decode cX0_goFrom 62 = .ok (.iload 5, 2) := by decide +kernel
theorem dX0_goFrom_64 : decode cX0_goFrom 64 = .ok (.aload_n 0, 1) := by decide +kernel
theorem dX0_goFrom_65 : decode cX0_goFrom 65 = .ok (.getfield 24, 3) := by decide +kernel
theorem dX0_goFrom_68 : decode cX0_goFrom 68 = .ok (.if_icmp .lt 6, 3) := by decide +kernel
theorem dX0_goFrom_71 : decode cX0_goFrom 71 = .ok (.bipush (-5), 2) := by decide +kernel
theorem dX0_goFrom_73 : decode cX0_goFrom 73 = .ok (.ireturn, 1) := by decide +kernel
theorem dX0_goFrom_74 : decode cX0_goFrom 74 = .ok (.aload_n 0, 1) := by decide +kernel
theorem dX0_goFrom_75 : decode cX0_goFrom 75 = .ok (.getfield 9, 3) := by decide +kernel
theorem dX0_goFrom_78 : decode cX0_goFrom 78 = .ok (.iload 5, 2) := by decide +kernel
theorem dX0_goFrom_80 : decode cX0_goFrom 80 = .ok (.iaload, 1) := by decide +kernel
theorem dX0_goFrom_81 : decode cX0_goFrom 81 = .ok (.iload_n 3, 1) := by decide +kernel
theorem dX0_goFrom_82 : decode cX0_goFrom 82 = .ok (.if_icmp .ne 7, 3) := by decide +kernel
theorem dX0_goFrom_85 : decode cX0_goFrom 85 = .ok (.iconst 1, 1) := by decide +kernel
theorem dX0_goFrom_86 : decode cX0_goFrom 86 = .ok (.goto 4, 3) := by decide +kernel
theorem dX0_goFrom_89 : decode cX0_goFrom 89 = .ok (.iconst 0, 1) := by decide +kernel
theorem dX0_goFrom_90 : decode cX0_goFrom 90 = .ok (.istore 6, 2) := by decide +kernel
theorem dX0_goFrom_92 : decode cX0_goFrom 92 = .ok (.aload_n 0, 1) := by decide +kernel
theorem dX0_goFrom_93 : decode cX0_goFrom 93 = .ok (.getfield 48, 3) := by decide +kernel
theorem dX0_goFrom_96 : decode cX0_goFrom 96 = .ok (.iload 6, 2) := by decide +kernel
theorem dX0_goFrom_98 : decode cX0_goFrom 98 = .ok (.ifCond .eq 14, 3) := by decide +kernel
theorem dX0_goFrom_101 : decode cX0_goFrom 101 = .ok (.aload_n 0, 1) := by decide +kernel
theorem dX0_goFrom_102 : decode cX0_goFrom 102 = .ok (.getfield 18, 3) := by decide +kernel
theorem dX0_goFrom_105 : decode cX0_goFrom 105 = .ok (.iload 5, 2) := by decide +kernel
theorem dX0_goFrom_107 : decode cX0_goFrom 107 = .ok (.iaload, 1) := by decide +kernel
theorem dX0_goFrom_108 : decode cX0_goFrom 108 = .ok (.i2l, 1) := by decide +kernel
theorem dX0_goFrom_109 : decode cX0_goFrom 109 = .ok (.goto 11, 3) := by decide +kernel
theorem dX0_goFrom_112 : decode cX0_goFrom 112 = .ok (.aload_n 0, 1) := by decide +kernel
theorem dX0_goFrom_113 : decode cX0_goFrom 113 = .ok (.getfield 21, 3) := by decide +kernel
theorem dX0_goFrom_116 : decode cX0_goFrom 116 = .ok (.iload 5, 2) := by decide +kernel
theorem dX0_goFrom_118 : decode cX0_goFrom 118 = .ok (.iaload, 1) := by decide +kernel
theorem dX0_goFrom_119 : decode cX0_goFrom 119 = .ok (.i2l, 1) := by decide +kernel
theorem dX0_goFrom_120 : decode cX0_goFrom 120 = .ok (.iload 6, 2) := by decide +kernel
theorem dX0_goFrom_122 : decode cX0_goFrom 122 = .ok (.ifCond .eq 14, 3) := by decide +kernel
theorem dX0_goFrom_125 : decode cX0_goFrom 125 = .ok (.aload_n 0, 1) := by decide +kernel
theorem dX0_goFrom_126 : decode cX0_goFrom 126 = .ok (.getfield 21, 3) := by decide +kernel
theorem dX0_goFrom_129 : decode cX0_goFrom 129 = .ok (.iload 5, 2) := by decide +kernel
theorem dX0_goFrom_131 : decode cX0_goFrom 131 = .ok (.iaload, 1) := by decide +kernel
theorem dX0_goFrom_132 : decode cX0_goFrom 132 = .ok (.i2l, 1) := by decide +kernel
theorem dX0_goFrom_133 : decode cX0_goFrom 133 = .ok (.goto 11, 3) := by decide +kernel
theorem dX0_goFrom_136 : decode cX0_goFrom 136 = .ok (.aload_n 0, 1) := by decide +kernel
theorem dX0_goFrom_137 : decode cX0_goFrom 137 = .ok (.getfield 18, 3) := by decide +kernel
theorem dX0_goFrom_140 : decode cX0_goFrom 140 = .ok (.iload 5, 2) := by decide +kernel
theorem dX0_goFrom_142 : decode cX0_goFrom 142 = .ok (.iaload, 1) := by decide +kernel
theorem dX0_goFrom_143 : decode cX0_goFrom 143 = .ok (.i2l, 1) := by decide +kernel
theorem dX0_goFrom_144 : decode cX0_goFrom 144 = .ok (.invokevirtual 76, 3) := by decide +kernel
theorem dX0_goFrom_147 : decode cX0_goFrom 147 = .ok (.aload_n 0, 1) := by decide +kernel
theorem dX0_goFrom_148 : decode cX0_goFrom 148 = .ok (.getfield 44, 3) := by decide +kernel
theorem dX0_goFrom_151 : decode cX0_goFrom 151 = .ok (.aload_n 0, 1) := by decide +kernel
theorem dX0_goFrom_152 : decode cX0_goFrom 152 = .ok (.getfield 48, 3) := by decide +kernel
theorem dX0_goFrom_155 : decode cX0_goFrom 155 = .ok (.getfield 87, 3) := by decide +kernel
theorem dX0_goFrom_158 : decode cX0_goFrom 158 = .ok (.aload_n 0, 1) := by decide +kernel
theorem dX0_goFrom_159 : decode cX0_goFrom 159 = .ok (.getfield 48, 3) := by decide +kernel
theorem dX0_goFrom_162 : decode cX0_goFrom 162 = .ok (.getfield 91, 3) := by decide +kernel
theorem dX0_goFrom_165 : decode cX0_goFrom 165 = .ok (.invokevirtual 94, 3) := by decide +kernel
theorem dX0_goFrom_168 : decode cX0_goFrom 168 = .ok (.ifCond .ne 6, 3) := by decide +kernel
theorem dX0_goFrom_171 : decode cX0_goFrom 171 = .ok (.bipush (-15), 2) := by decide +kernel
theorem dX0_goFrom_173 : decode cX0_goFrom 173 = .ok (.ireturn, 1) := by decide +kernel
theorem dX0_goFrom_174 : decode cX0_goFrom 174 = .ok (.iload 6, 2) := by decide +kernel
theorem dX0_goFrom_176 : decode cX0_goFrom 176 = .ok (.ifCond .eq 13, 3) := by decide +kernel
theorem dX0_goFrom_179 : decode cX0_goFrom 179 = .ok (.aload_n 0, 1) := by decide +kernel
theorem dX0_goFrom_180 : decode cX0_goFrom 180 = .ok (.getfield 15, 3) := by decide +kernel
theorem dX0_goFrom_183 : decode cX0_goFrom 183 = .ok (.iload 5, 2) := by decide +kernel
theorem dX0_goFrom_185 : decode cX0_goFrom 185 = .ok (.iaload, 1) := by decide +kernel
theorem dX0_goFrom_186 : decode cX0_goFrom 186 = .ok (.goto 10, 3) := by decide +kernel
theorem dX0_goFrom_189 : decode cX0_goFrom 189 = .ok (.aload_n 0, 1) := by decide +kernel
theorem dX0_goFrom_190 : decode cX0_goFrom 190 = .ok (.getfield 9, 3) := by decide +kernel
theorem dX0_goFrom_193 : decode cX0_goFrom 193 = .ok (.iload 5, 2) := by decide +kernel
theorem dX0_goFrom_195 : decode cX0_goFrom 195 = .ok (.iaload, 1) := by decide +kernel
theorem dX0_goFrom_196 : decode cX0_goFrom 196 = .ok (.istore_n 3, 1) := by decide +kernel
theorem dX0_goFrom_197 : decode cX0_goFrom 197 = .ok (.iinc 4 1, 3) := by decide +kernel
theorem dX0_goFrom_200 : decode cX0_goFrom 200 = .ok (.goto (-163), 3) := by decide +kernel
theorem dX0_goFrom_203 : decode cX0_goFrom 203 = .ok (.iconst 0, 1) := by decide +kernel
theorem dX0_goFrom_204 : decode cX0_goFrom 204 = .ok (.ireturn, 1) := by decide +kernel
theorem dX0_spreadFrom_0 : decode cX0_spreadFrom 0 = .ok (.iconst 0, 1) := by decide +kernel
theorem dX0_spreadFrom_1 : decode cX0_spreadFrom 1 = .ok (.istore_n 2, 1) := by decide +kernel
theorem dX0_spreadFrom_2 : decode cX0_spreadFrom 2 = .ok (.iload_n 2, 1) := by decide +kernel
theorem dX0_spreadFrom_3 : decode cX0_spreadFrom 3 = .ok (.bipush 20, 2) := by decide +kernel
theorem dX0_spreadFrom_5 : decode cX0_spreadFrom 5 = .ok (.if_icmp .ge 16, 3) := by decide +kernel
theorem dX0_spreadFrom_8 : decode cX0_spreadFrom 8 = .ok (.aload_n 0, 1) := by decide +kernel
theorem dX0_spreadFrom_9 : decode cX0_spreadFrom 9 = .ok (.getfield 38, 3) := by decide +kernel
theorem dX0_spreadFrom_12 : decode cX0_spreadFrom 12 = .ok (.iload_n 2, 1) := by decide +kernel
theorem dX0_spreadFrom_13 : decode cX0_spreadFrom 13 = .ok (.iconst (-1), 1) := by decide +kernel
theorem dX0_spreadFrom_14 : decode cX0_spreadFrom 14 = .ok (.iastore, 1) := by decide +kernel
theorem dX0_spreadFrom_15 : decode cX0_spreadFrom 15 = .ok (.iinc 2 1, 3) := by decide +kernel
theorem dX0_spreadFrom_18 : decode cX0_spreadFrom 18 = .ok (.goto (-16), 3) := by decide +kernel
theorem dX0_spreadFrom_21 : decode cX0_spreadFrom 21 = .ok (.aload_n 0, 1) := by decide +kernel
theorem dX0_spreadFrom_22 : decode cX0_spreadFrom 22 = .ok (.getfield 38, 3) := by decide +kernel
theorem dX0_spreadFrom_25 : decode cX0_spreadFrom 25 = .ok (.iload_n 1, 1) := by decide +kernel
theorem dX0_spreadFrom_26 : decode cX0_spreadFrom 26 = .ok (.bipush 16, 2) := by decide +kernel
theorem dX0_spreadFrom_28 : decode cX0_spreadFrom 28 = .ok (.iastore, 1) := by decide +kernel
theorem dX0_spreadFrom_29 : decode cX0_spreadFrom 29 = .ok (.iconst 1, 1) := by decide +kernel
theorem dX0_spreadFrom_30 : decode cX0_spreadFrom 30 = .ok (.istore_n 2, 1) := by decide +kernel
theorem dX0_spreadFrom_31 : decode cX0_spreadFrom 31 = .ok (.iconst 0, 1) := by decide +kernel
theorem dX0_spreadFrom_32 : decode cX0_spreadFrom 32 = .ok (.istore_n 3, 1) := by decide +kernel
theorem dX0_spreadFrom_33 : decode cX0_spreadFrom 33 = .ok (.iload_n 3, 1) := by decide +kernel
theorem dX0_spreadFrom_34 : decode cX0_spreadFrom 34 = .ok (.bipush 16, 2) := by decide +kernel
theorem dX0_spreadFrom_36 : decode cX0_spreadFrom 36 = .ok (.if_icmp .ge 121, 3) := by decide +kernel
theorem dX0_spreadFrom_39 : decode cX0_spreadFrom 39 = .ok (.iload_n 2, 1) := by decide +kernel
theorem dX0_spreadFrom_40 : decode cX0_spreadFrom 40 = .ok (.ifCond .eq 117, 3) := by decide +kernel
theorem dX0_spreadFrom_43 : decode cX0_spreadFrom 43 = .ok (.iconst 0, 1) := by decide +kernel
theorem dX0_spreadFrom_44 : decode cX0_spreadFrom 44 = .ok (.istore_n 2, 1) := by decide +kernel
theorem dX0_spreadFrom_45 : decode cX0_spreadFrom 45 = .ok (.iconst 0, 1) := by decide +kernel
theorem dX0_spreadFrom_46 : decode cX0_spreadFrom 46 = .ok (.istore 4, 2) := by decide +kernel
theorem dX0_spreadFrom_48 : decode cX0_spreadFrom 48 = .ok (.iload 4, 2) := by decide +kernel
theorem dX0_spreadFrom_50 : decode cX0_spreadFrom 50 = .ok (.aload_n 0, 1) := by decide +kernel
theorem dX0_spreadFrom_51 : decode cX0_spreadFrom 51 = .ok (.getfield 24, 3) := by decide +kernel
theorem dX0_spreadFrom_54 : decode cX0_spreadFrom 54 = .ok (.if_icmp .ge 97, 3) := by decide +kernel
theorem dX0_spreadFrom_57 : decode cX0_spreadFrom 57 = .ok (.aload_n 0, 1) := by decide +kernel
theorem dX0_spreadFrom_58 : decode cX0_spreadFrom 58 = .ok (.getfield 38, 3) := by decide +kernel
theorem dX0_spreadFrom_61 : decode cX0_spreadFrom 61 = .ok (.aload_n 0, 1) := by decide +kernel
theorem dX0_spreadFrom_62 : decode cX0_spreadFrom 62 = .ok (.getfield 9, 3) := by decide +kernel
theorem dX0_spreadFrom_65 : decode cX0_spreadFrom 65 = .ok (.iload 4, 2) := by decide +kernel
theorem dX0_spreadFrom_67 : decode cX0_spreadFrom 67 = .ok (.iaload, 1) := by decide +kernel
theorem dX0_spreadFrom_68 : decode cX0_spreadFrom 68 = .ok (.iaload, 1) := by decide +kernel
theorem dX0_spreadFrom_69 : decode cX0_spreadFrom 69 = .ok (.ifCond .lt 7, 3) := by decide +kernel
theorem dX0_spreadFrom_72 : decode cX0_spreadFrom 72 = .ok (.iconst 1, 1) := by decide +kernel
theorem dX0_spreadFrom_73 : decode cX0_spreadFrom 73 = .ok (.goto 4, 3) := by decide +kernel
theorem dX0_spreadFrom_76 : decode cX0_spreadFrom 76 = .ok (.iconst 0, 1) := by decide +kernel
theorem dX0_spreadFrom_77 : decode cX0_spreadFrom 77 = .ok (.istore 5, 2) := by decide +kernel
theorem dX0_spreadFrom_79 : decode cX0_spreadFrom 79 = .ok (.aload_n 0, 1) := by decide +kernel
theorem dX0_spreadFrom_80 : decode cX0_spreadFrom 80 = .ok (.getfield 28, 3) := by decide +kernel
theorem dX0_spreadFrom_83 : decode cX0_spreadFrom 83 = .ok (.iload 4, 2) := by decide +kernel
theorem dX0_spreadFrom_85 : decode cX0_spreadFrom 85 = .ok (.baload, 1) := by decide +kernel
theorem dX0_spreadFrom_86 : decode cX0_spreadFrom 86 = .ok (.ifCond .eq 59, 3) := by decide +kernel
theorem dX0_spreadFrom_89 : decode cX0_spreadFrom 89 = .ok (.iload 5, 2) := by decide +kernel
theorem dX0_spreadFrom_91 : decode cX0_spreadFrom 91 = .ok (.aload_n 0, 1) := by decide +kernel
theorem dX0_spreadFrom_92 : decode cX0_spreadFrom 92 = .ok (.getfield 38, 3) := by decide +kernel
theorem dX0_spreadFrom_95 : decode cX0_spreadFrom 95 = .ok (.aload_n 0, 1) := by decide +kernel
theorem dX0_spreadFrom_96 : decode cX0_spreadFrom 96 = .ok (.getfield 15, 3) := by decide +kernel
theorem dX0_spreadFrom_99 : decode cX0_spreadFrom 99 = .ok (.iload 4, 2) := by decide +kernel
theorem dX0_spreadFrom_101 : decode cX0_spreadFrom 101 = .ok (.iaload, 1) := by decide +kernel
theorem dX0_spreadFrom_102 : decode cX0_spreadFrom 102 = .ok (.iaload, 1) := by decide +kernel
theorem dX0_spreadFrom_103 : decode cX0_spreadFrom 103 = .ok (.ifCond .lt 7, 3) := by decide +kernel
theorem dX0_spreadFrom_106 : decode cX0_spreadFrom 106 = .ok (.iconst 1, 1) := by decide +kernel
theorem dX0_spreadFrom_107 : decode cX0_spreadFrom 107 = .ok (.goto 4, 3) := by decide +kernel
theorem dX0_spreadFrom_110 : decode cX0_spreadFrom 110 = .ok (.iconst 0, 1) := by decide +kernel
theorem dX0_spreadFrom_111 : decode cX0_spreadFrom 111 = .ok (.if_icmp .eq 34, 3) := by decide +kernel
theorem dX0_spreadFrom_114 : decode cX0_spreadFrom 114 = .ok (.aload_n 0, 1) := by decide +kernel
theorem dX0_spreadFrom_115 : decode cX0_spreadFrom 115 = .ok (.getfield 38, 3) := by decide +kernel
theorem dX0_spreadFrom_118 : decode cX0_spreadFrom 118 = .ok (.iload 5, 2) := by decide +kernel
theorem dX0_spreadFrom_120 : decode cX0_spreadFrom 120 = .ok (.ifCond .eq 13, 3) := by decide +kernel
theorem dX0_spreadFrom_123 : decode cX0_spreadFrom 123 = .ok (.aload_n 0, 1) := by decide +kernel
theorem dX0_spreadFrom_124 : decode cX0_spreadFrom 124 = .ok (.getfield 15, 3) := by decide +kernel
theorem dX0_spreadFrom_127 : decode cX0_spreadFrom 127 = .ok (.iload 4, 2) := by decide +kernel
theorem dX0_spreadFrom_129 : decode cX0_spreadFrom 129 = .ok (.iaload, 1) := by decide +kernel
theorem dX0_spreadFrom_130 : decode cX0_spreadFrom 130 = .ok (.goto 10, 3) := by decide +kernel
theorem dX0_spreadFrom_133 : decode cX0_spreadFrom 133 = .ok (.aload_n 0, 1) := by decide +kernel
theorem dX0_spreadFrom_134 : decode cX0_spreadFrom 134 = .ok (.getfield 9, 3) := by decide +kernel
theorem dX0_spreadFrom_137 : decode cX0_spreadFrom 137 = .ok (.iload 4, 2) := by decide +kernel
theorem dX0_spreadFrom_139 : decode cX0_spreadFrom 139 = .ok (.iaload, 1) := by decide +kernel
theorem dX0_spreadFrom_140 : decode cX0_spreadFrom 140 = .ok (.iload 4, 2) := by decide +kernel
theorem dX0_spreadFrom_142 : decode cX0_spreadFrom 142 = .ok (.iastore, 1) := by decide +kernel
theorem dX0_spreadFrom_143 : decode cX0_spreadFrom 143 = .ok (.iconst 1, 1) := by decide +kernel
theorem dX0_spreadFrom_144 : decode cX0_spreadFrom 144 = .ok (.istore_n 2, 1) := by decide +kernel
theorem dX0_spreadFrom_145 : decode cX0_spreadFrom 145 = .ok (.iinc 4 1, 3) := by decide +kernel
theorem dX0_spreadFrom_148 : decode cX0_spreadFrom 148 = .ok (.goto (-100), 3) := by decide +kernel
theorem dX0_spreadFrom_151 : decode cX0_spreadFrom 151 = .ok (.iinc 3 1, 3) := by decide +kernel
theorem dX0_spreadFrom_154 : decode cX0_spreadFrom 154 = .ok (.goto (-121), 3) := by decide +kernel
theorem dX0_spreadFrom_157 : decode cX0_spreadFrom 157 = .ok (.return_, 1) := by decide +kernel
theorem dX1_init_0 : decode cX1_init 0 = .ok (.aload_n 0, 1) := by decide +kernel
theorem dX1_init_1 : decode cX1_init 1 = .ok (.invokespecial 3, 3) := by decide +kernel
theorem dX1_init_4 : decode cX1_init 4 = .ok (.aload_n 0, 1) := by decide +kernel
theorem dX1_init_5 : decode cX1_init 5 = .ok (.iconst 2, 1) := by decide +kernel
theorem dX1_init_6 : decode cX1_init 6 = .ok (.newarray .int, 2) := by decide +kernel
theorem dX1_init_8 : decode cX1_init 8 = .ok (.putfield 9, 3) := by decide +kernel
theorem dX1_init_11 : decode cX1_init 11 = .ok (.aload_n 0, 1) := by decide +kernel
theorem dX1_init_12 : decode cX1_init 12 = .ok (.iconst 2, 1) := by decide +kernel
theorem dX1_init_13 : decode cX1_init 13 = .ok (.newarray .int, 2) := by decide +kernel
theorem dX1_init_15 : decode cX1_init 15 = .ok (.putfield 15, 3) := by decide +kernel
theorem dX1_init_18 : decode cX1_init 18 = .ok (.aload_n 0, 1) := by decide +kernel
theorem dX1_init_19 : decode cX1_init 19 = .ok (.bipush 30, 2) := by decide +kernel
theorem dX1_init_21 : decode cX1_init 21 = .ok (.newarray .int, 2) := by decide +kernel
theorem dX1_init_23 : decode cX1_init 23 = .ok (.putfield 18, 3) := by decide +kernel
theorem dX1_init_26 : decode cX1_init 26 = .ok (.aload_n 0, 1) := by decide +kernel
theorem dX1_init_27 : decode cX1_init 27 = .ok (.bipush 30, 2) := by decide +kernel
theorem dX1_init_29 : decode cX1_init 29 = .ok (.newarray .int, 2) := by decide +kernel
theorem dX1_init_31 : decode cX1_init 31 = .ok (.putfield 21, 3) := by decide +kernel
theorem dX1_init_34 : decode cX1_init 34 = .ok (.aload_n 0, 1) := by decide +kernel
theorem dX1_init_35 : decode cX1_init 35 = .ok (.bipush 30, 2) := by decide +kernel
theorem dX1_init_37 : decode cX1_init 37 = .ok (.newarray .int, 2) := by decide +kernel
theorem dX1_init_39 : decode cX1_init 39 = .ok (.putfield 24, 3) := by decide +kernel
theorem dX1_init_42 : decode cX1_init 42 = .ok (.aload_n 0, 1) := by decide +kernel
theorem dX1_init_43 : decode cX1_init 43 = .ok (.bipush 30, 2) := by decide +kernel
theorem dX1_init_45 : decode cX1_init 45 = .ok (.newarray .boolean, 2) := by decide +kernel
theorem dX1_init_47 : decode cX1_init 47 = .ok (.putfield 27, 3) := by decide +kernel
theorem dX1_init_50 : decode cX1_init 50 = .ok (.aload_n 0, 1) := by decide +kernel
theorem dX1_init_51 : decode cX1_init 51 = .ok (.bipush 30, 2) := by decide +kernel
theorem dX1_init_53 : decode cX1_init 53 = .ok (.anewarray 31, 3) := by decide +kernel
theorem dX1_init_56 : decode cX1_init 56 = .ok (.putfield 33, 3) := by decide +kernel
theorem dX1_init_59 : decode cX1_init 59 = .ok (.aload_n 0, 1) := by decide +kernel
theorem dX1_init_60 : decode cX1_init 60 = .ok (.new 31, 3) := by decide +kernel
theorem dX1_init_63 : decode cX1_init 63 = .ok (.dup, 1) := by decide +kernel
theorem dX1_init_64 : decode cX1_init 64 = .ok (.invokespecial 37, 3) := by decide +kernel
theorem dX1_init_67 : decode cX1_init 67 = .ok (.putfield 38, 3) := by decide +kernel
theorem dX1_init_70 : decode cX1_init 70 = .ok (.return_, 1) := by decide +kernel
theorem dX1_read_0 : decode cX1_read 0 = .ok (.aload_n 1, 1) := by decide +kernel
theorem dX1_read_1 : decode cX1_read 1 = .ok (.iconst 0, 1) := by decide +kernel
theorem dX1_read_2 : decode cX1_read 2 = .ok (.putfield 42, 3) := by decide +kernel
theorem dX1_read_5 : decode cX1_read 5 = .ok (.aload_n 0, 1) := by decide +kernel
theorem dX1_read_6 : decode cX1_read 6 = .ok (.iconst 0, 1) := by decide +kernel
theorem dX1_read_7 : decode cX1_read 7 = .ok (.putfield 48, 3) := by decide +kernel
theorem dX1_read_10 : decode cX1_read 10 = .ok (.aload_n 0, 1) := by decide +kernel
theorem dX1_read_11 : decode cX1_read 11 = .ok (.aload_n 1, 1) := by decide +kernel
theorem dX1_read_12 : decode cX1_read 12 = .ok (.invokevirtual 52, 3) := by decide +kernel
theorem dX1_read_15 : decode cX1_read 15 = .ok (.putfield 56, 3) := by decide +kernel
theorem dX1_read_18 : decode cX1_read 18 = .ok (.aload_n 0, 1) := by decide +kernel
theorem dX1_read_19 : decode cX1_read 19 = .ok (.getfield 56, 3) := by decide +kernel
theorem dX1_read_22 : decode cX1_read 22 = .ok (.ifCond .eq 31, 3) := by decide +kernel
theorem dX1_read_25 : decode cX1_read 25 = .ok (.aload_n 1, 1) := by decide +kernel
theorem dX1_read_26 : decode cX1_read 26 = .ok (.bipush 61, 2) := by decide +kernel
theorem dX1_read_28 : decode cX1_read 28 = .ok (.invokevirtual 59, 3) := by decide +kernel
theorem dX1_read_31 : decode cX1_read 31 = .ok (.ifCond .eq 22, 3) := by decide +kernel
theorem dX1_read_34 : decode cX1_read 34 = .ok (.aload_n 1, 1) := by decide +kernel
theorem dX1_read_35 : decode cX1_read 35 = .ok (.aload_n 0, 1) := by decide +kernel
theorem dX1_read_36 : decode cX1_read 36 = .ok (.getfield 9, 3) := by decide +kernel
theorem dX1_read_39 : decode cX1_read 39 = .ok (.invokestatic 63, 3) := by decide +kernel
theorem dX1_read_42 : decode cX1_read 42 = .ok (.ifCond .eq 11, 3) := by decide +kernel
theorem dX1_read_45 : decode cX1_read 45 = .ok (.aload_n 0, 1) := by decide +kernel
theorem dX1_read_46 : decode cX1_read 46 = .ok (.aload_n 1, 1) := by decide +kernel
theorem dX1_read_47 : decode cX1_read 47 = .ok (.invokevirtual 67, 3) := by decide +kernel
theorem dX1_read_50 : decode cX1_read 50 = .ok (.ifCond .ne 5, 3) := by decide +kernel
theorem dX1_read_53 : decode cX1_read 53 = .ok (.iconst 0, 1) := by decide +kernel
theorem dX1_read_54 : decode cX1_read 54 = .ok (.ireturn, 1) := by decide +kernel
theorem dX1_read_55 : decode cX1_read 55 = .ok (.aload_n 0, 1) := by decide +kernel
theorem dX1_read_56 : decode cX1_read 56 = .ok (.aload_n 1, 1) := by decide +kernel
theorem dX1_read_57 : decode cX1_read 57 = .ok (.iconst 0, 1) := by decide +kernel
theorem dX1_read_58 : decode cX1_read 58 = .ok (.invokevirtual 71, 3) := by decide +kernel
theorem dX1_read_61 : decode cX1_read 61 = .ok (.bipush 45, 2) := by decide +kernel
theorem dX1_read_63 : decode cX1_read 63 = .ok (.if_icmp .ne 7, 3) := by decide +kernel
theorem dX1_read_66 : decode cX1_read 66 = .ok (.iconst (-1), 1) := by decide +kernel
theorem dX1_read_67 : decode cX1_read 67 = .ok (.goto 4, 3) := by decide +kernel
theorem dX1_read_70 : decode cX1_read 70 = .ok (.iconst 1, 1) := by decide +kernel
theorem dX1_read_71 : decode cX1_read 71 = .ok (.putfield 75, 3) := by decide +kernel
theorem dX1_read_74 : decode cX1_read 74 = .ok (.aload_n 0, 1) := by decide +kernel
theorem dX1_read_75 : decode cX1_read 75 = .ok (.aload_n 1, 1) := by decide +kernel
theorem dX1_read_76 : decode cX1_read 76 = .ok (.bipush 43, 2) := by decide +kernel
theorem dX1_read_78 : decode cX1_read 78 = .ok (.invokevirtual 59, 3) := by decide +kernel
theorem dX1_read_81 : decode cX1_read 81 = .ok (.ifCond .ne 12, 3) := by decide +kernel
theorem dX1_read_84 : decode cX1_read 84 = .ok (.aload_n 1, 1) := by decide +kernel
theorem dX1_read_85 : decode cX1_read 85 = .ok (.bipush 45, 2) := by decide +kernel
theorem dX1_read_87 : decode cX1_read 87 = .ok (.invokevirtual 59, 3) := by decide +kernel
theorem dX1_read_90 : decode cX1_read 90 = .ok (.ifCond .eq 7, 3) := by decide +kernel
theorem dX1_read_93 : decode cX1_read 93 = .ok (.iconst 1, 1) := by decide +kernel
theorem dX1_read_94 : decode cX1_read 94 = .ok (.goto 4, 3) := by decide +kernel
theorem dX1_read_97 : decode cX1_read 97 = .ok (.iconst 0, 1) := by decide +kernel
theorem dX1_read_98 : decode cX1_read 98 = .ok (.putfield 48, 3) := by decide +kernel
theorem dX1_read_101 : decode cX1_read 101 = .ok (.aload_n 0, 1) := by decide +kernel
theorem dX1_read_102 : decode cX1_read 102 = .ok (.getfield 48, 3) := by decide +kernel
theorem dX1_read_105 : decode cX1_read 105 = .ok (.ifCond .eq 16, 3) := by decide +kernel
theorem dX1_read_108 : decode cX1_read 108 = .ok (.aload_n 1, 1) := by decide +kernel
theorem dX1_read_109 : decode cX1_read 109 = .ok (.aload_n 0, 1) := by decide +kernel
theorem dX1_read_110 : decode cX1_read 110 = .ok (.getfield 15, 3) := by decide +kernel
theorem dX1_read_113 : decode cX1_read 113 = .ok (.invokestatic 63, 3) := by decide +kernel
theorem dX1_read_116 : decode cX1_read 116 = .ok (.ifCond .ne 5, 3) := by decide +kernel
theorem dX1_read_119 : decode cX1_read 119 = .ok (.iconst 0, 1) := by decide +kernel
theorem dX1_read_120 : decode cX1_read 120 = .ok (.ireturn, 1) := by decide +kernel
theorem dX1_read_121 : decode cX1_read 121 = .ok (.aload_n 1, 1) := by decide +kernel
theorem dX1_read_122 : decode cX1_read 122 = .ok (.invokevirtual 78, 3) := by decide +kernel
theorem dX1_read_125 : decode cX1_read 125 = .ok (.ireturn, 1) := by decide +kernel
theorem dX1_readRatio_0 : decode cX1_readRatio 0 = .ok (.aload_n 1, 1) := by decide +kernel
theorem dX1_readRatio_1 : decode cX1_readRatio 1 = .ok (.iconst 0, 1) := by decide +kernel
theorem dX1_readRatio_2 : decode cX1_readRatio 2 = .ok (.aload_n 0, 1) := by decide +kernel
theorem dX1_readRatio_3 : decode cX1_readRatio 3 = .ok (.invokevirtual 82, 3) := by decide +kernel
theorem dX1_readRatio_6 : decode cX1_readRatio 6 = .ok (.iastore, 1) := by decide +kernel
theorem dX1_readRatio_7 : decode cX1_readRatio 7 = .ok (.aload_n 1, 1) := by decide +kernel
theorem dX1_readRatio_8 : decode cX1_readRatio 8 = .ok (.iconst 1, 1) := by decide +kernel
theorem dX1_readRatio_9 : decode cX1_readRatio 9 = .ok (.iconst 1, 1) := by decide +kernel
theorem dX1_readRatio_10 : decode cX1_readRatio 10 = .ok (.iastore, 1) := by decide +kernel
theorem dX1_readRatio_11 : decode cX1_readRatio 11 = .ok (.aload_n 1, 1) := by decide +kernel
theorem dX1_readRatio_12 : decode cX1_readRatio 12 = .ok (.iconst 0, 1) := by decide +kernel
theorem dX1_readRatio_13 : decode cX1_readRatio 13 = .ok (.iaload, 1) := by decide +kernel
theorem dX1_readRatio_14 : decode cX1_readRatio 14 = .ok (.ifCond .lt 19, 3) := by decide +kernel
theorem dX1_readRatio_17 : decode cX1_readRatio 17 = .ok (.aload_n 0, 1) := by decide +kernel
theorem dX1_readRatio_18 : decode cX1_readRatio 18 = .ok (.bipush 47, 2) := by decide +kernel
theorem dX1_readRatio_20 : decode cX1_readRatio 20 = .ok (.invokevirtual 59, 3) := by decide +kernel
theorem dX1_readRatio_23 : decode cX1_readRatio 23 = .ok (.ifCond .eq 10, 3) := by decide +kernel
theorem dX1_readRatio_26 : decode cX1_readRatio 26 = .ok (.aload_n 1, 1) := by decide +kernel
theorem dX1_readRatio_27 : decode cX1_readRatio 27 = .ok (.iconst 1, 1) := by decide +kernel
theorem dX1_readRatio_28 : decode cX1_readRatio 28 = .ok (.aload_n 0, 1) := by decide +kernel
theorem dX1_readRatio_29 : decode cX1_readRatio 29 = .ok (.invokevirtual 82, 3) := by decide +kernel
theorem dX1_readRatio_32 : decode cX1_readRatio 32 = .ok (.iastore, 1) := by decide +kernel
theorem dX1_readRatio_33 : decode cX1_readRatio 33 = .ok (.aload_n 1, 1) := by decide +kernel
theorem dX1_readRatio_34 : decode cX1_readRatio 34 = .ok (.iconst 0, 1) := by decide +kernel
theorem dX1_readRatio_35 : decode cX1_readRatio 35 = .ok (.iaload, 1) := by decide +kernel
theorem dX1_readRatio_36 : decode cX1_readRatio 36 = .ok (.ifCond .lt 13, 3) := by decide +kernel
theorem dX1_readRatio_39 : decode cX1_readRatio 39 = .ok (.aload_n 1, 1) := by decide +kernel
theorem dX1_readRatio_40 : decode cX1_readRatio 40 = .ok (.iconst 1, 1) := by decide +kernel
theorem dX1_readRatio_41 : decode cX1_readRatio 41 = .ok (.iaload, 1) := by decide +kernel
theorem dX1_readRatio_42 : decode cX1_readRatio 42 = .ok (.ifCond .lt 7, 3) := by decide +kernel
theorem dX1_readRatio_45 : decode cX1_readRatio 45 = .ok (.iconst 1, 1) := by decide +kernel
theorem dX1_readRatio_46 : decode cX1_readRatio 46 = .ok (.goto 4, 3) := by decide +kernel
theorem dX1_readRatio_49 : decode cX1_readRatio 49 = .ok (.iconst 0, 1) := by decide +kernel
theorem dX1_readRatio_50 : decode cX1_readRatio 50 = .ok (.ireturn, 1) := by decide +kernel
theorem dX1_readProduct_0 : decode cX1_readProduct 0 = .ok (.iconst 0, 1) := by decide +kernel
theorem dX1_readProduct_1 : decode cX1_readProduct 1 = .ok (.istore_n 2, 1) := by decide +kernel
theorem dX1_readProduct_2 : decode cX1_readProduct 2 = .ok (.iconst 0, 1) := by decide +kernel
theorem dX1_readProduct_3 : decode cX1_readProduct 3 = .ok (.istore_n 3, 1) := by decide +kernel
theorem dX1_readProduct_4 : decode cX1_readProduct 4 = .ok (.iload_n 3, 1) := by decide +kernel
theorem dX1_readProduct_5 : decode cX1_readProduct 5 = .ok (.bipush 30, 2) := by decide +kernel
theorem dX1_readProduct_7 : decode cX1_readProduct 7 = .ok (.if_icmp .ge 100, 3) := by decide +kernel
theorem dX1_readProduct_10 : decode cX1_readProduct 10 = .ok (.aload_n 0, 1) := by decide +kernel
theorem dX1_readProduct_11 : decode cX1_readProduct 11 = .ok (.getfield 27, 3) := by decide +kernel
theorem dX1_readProduct_14 : decode cX1_readProduct 14 = .ok (.iload_n 3, 1) := by decide +kernel
theorem dX1_readProduct_15 : decode cX1_readProduct 15 = .ok (.iload_n 2, 1) := by decide +kernel
theorem dX1_readProduct_16 : decode cX1_readProduct 16 = .ok (.bastore, 1) := by decide +kernel
theorem dX1_readProduct_17 : decode cX1_readProduct 17 = .ok (.aload_n 0, 1) := by decide +kernel
theorem dX1_readProduct_18 : decode cX1_readProduct 18 = .ok (.getfield 18, 3) := by decide +kernel
theorem dX1_readProduct_21 : decode cX1_readProduct 21 = .ok (.iload_n 3, 1) := by decide +kernel
theorem dX1_readProduct_22 : decode cX1_readProduct 22 = .ok (.aload_n 1, 1) := by decide +kernel
theorem dX1_readProduct_23 : decode cX1_readProduct 23 = .ok (.getfield 42, 3) := by decide +kernel
theorem dX1_readProduct_26 : decode cX1_readProduct 26 = .ok (.iastore, 1) := by decide +kernel
theorem dX1_readProduct_27 : decode cX1_readProduct 27 = .ok (.aload_n 0, 1) := by decide +kernel
theorem dX1_readProduct_28 : decode cX1_readProduct 28 = .ok (.getfield 21, 3) := by decide +kernel
theorem dX1_readProduct_31 : decode cX1_readProduct 31 = .ok (.iload_n 3, 1) := by decide +kernel
theorem dX1_readProduct_32 : decode cX1_readProduct 32 = .ok (.aload_n 1, 1) := by decide +kernel
theorem dX1_readProduct_33 : decode cX1_readProduct 33 = .ok (.invokevirtual 52, 3) := by decide +kernel
theorem dX1_readProduct_36 : decode cX1_readProduct 36 = .ok (.iastore, 1) := by decide +kernel
theorem dX1_readProduct_37 : decode cX1_readProduct 37 = .ok (.aload_n 0, 1) := by decide +kernel
theorem dX1_readProduct_38 : decode cX1_readProduct 38 = .ok (.getfield 21, 3) := by decide +kernel
theorem dX1_readProduct_41 : decode cX1_readProduct 41 = .ok (.iload_n 3, 1) := by decide +kernel
theorem dX1_readProduct_42 : decode cX1_readProduct 42 = .ok (.iaload, 1) := by decide +kernel
theorem dX1_readProduct_43 : decode cX1_readProduct 43 = .ok (.ifCond .ne 5, 3) := by decide +kernel
theorem dX1_readProduct_46 : decode cX1_readProduct 46 = .ok (.iconst 0, 1) := by decide +kernel
theorem dX1_readProduct_47 : decode cX1_readProduct 47 = .ok (.ireturn, 1) := by decide +kernel
theorem dX1_readProduct_48 : decode cX1_readProduct 48 = .ok (.aload_n 0, 1) := by decide +kernel
theorem dX1_readProduct_49 : decode cX1_readProduct 49 = .ok (.getfield 24, 3) := by decide +kernel
theorem dX1_readProduct_52 : decode cX1_readProduct 52 = .ok (.iload_n 3, 1) := by decide +kernel
theorem dX1_readProduct_53 : decode cX1_readProduct 53 = .ok (.aload_n 1, 1) := by decide +kernel
theorem dX1_readProduct_54 : decode cX1_readProduct 54 = .ok (.invokevirtual 85, 3) := by decide +kernel
theorem dX1_readProduct_57 : decode cX1_readProduct 57 = .ok (.iastore, 1) := by decide +kernel
theorem dX1_readProduct_58 : decode cX1_readProduct 58 = .ok (.aload_n 0, 1) := by decide +kernel
theorem dX1_readProduct_59 : decode cX1_readProduct 59 = .ok (.iload_n 3, 1) := by decide +kernel
theorem dX1_readProduct_60 : decode cX1_readProduct 60 = .ok (.iconst 1, 1) := by decide +kernel
theorem dX1_readProduct_61 : decode cX1_readProduct 61 = .ok (.iadd, 1) := by decide +kernel
theorem dX1_readProduct_62 : decode cX1_readProduct 62 = .ok (.putfield 88, 3) := by decide +kernel
theorem dX1_readProduct_65 : decode cX1_readProduct 65 = .ok (.aload_n 1, 1) := by decide +kernel
theorem dX1_readProduct_66 : decode cX1_readProduct 66 = .ok (.iconst 0, 1) := by decide +kernel
theorem dX1_readProduct_67 : decode cX1_readProduct 67 = .ok (.invokevirtual 71, 3) := by decide +kernel
theorem dX1_readProduct_70 : decode cX1_readProduct 70 = .ok (.bipush 47, 2) := by decide +kernel
theorem dX1_readProduct_72 : decode cX1_readProduct 72 = .ok (.if_icmp .ne 7, 3) := by decide +kernel
theorem dX1_readProduct_75 : decode cX1_readProduct 75 = .ok (.iconst 1, 1) := by decide +kernel
theorem dX1_readProduct_76 : decode cX1_readProduct 76 = .ok (.goto 4, 3) := by decide +kernel
theorem dX1_readProduct_79 : decode cX1_readProduct 79 = .ok (.iconst 0, 1) := by decide +kernel
theorem dX1_readProduct_80 : decode cX1_readProduct 80 = .ok (.istore_n 2, 1) := by decide +kernel
theorem dX1_readProduct_81 : decode cX1_readProduct 81 = .ok (.aload_n 1, 1) := by decide +kernel
theorem dX1_readProduct_82 : decode cX1_readProduct 82 = .ok (.bipush 42, 2) := by decide +kernel
theorem dX1_readProduct_84 : decode cX1_readProduct 84 = .ok (.invokevirtual 59, 3) := by decide +kernel
theorem dX1_readProduct_87 : decode cX1_readProduct 87 = .ok (.ifCond .ne 14, 3) := by decide +kernel
theorem dX1_readProduct_90 : decode cX1_readProduct 90 = .ok (.aload_n 1, 1) := by decide +kernel
theorem dX1_readProduct_91 : decode cX1_readProduct 91 = .ok (.bipush 47, 2) := by decide +kernel
theorem dX1_readProduct_93 : decode cX1_readProduct 93 = .ok (.invokevirtual 59, 3) := by decide +kernel
theorem dX1_readProduct_96 : decode cX1_readProduct 96 = .ok (.ifCond .ne 5, 3) := by decide +kernel
theorem dX1_readProduct_99 : decode cX1_readProduct 99 = .ok (.iconst 1, 1) := by decide +kernel
theorem dX1_readProduct_100 : decode cX1_readProduct 100 = .ok (.ireturn, 1) := by decide +kernel
theorem dX1_readProduct_101 : decode cX1_readProduct 101 = .ok (.iinc 3 1, 3) := by decide +kernel
theorem dX1_readProduct_104 : decode cX1_readProduct 104 = .ok (.goto (-100), 3) := by decide +kernel
theorem dX1_readProduct_107 : decode cX1_readProduct 107 = .ok (.iconst 0, 1) := by decide +kernel
theorem dX1_readProduct_108 : decode cX1_readProduct 108 = .ok (.ireturn, 1) := by decide +kernel
theorem dX1_addTo_0 : decode cX1_addTo 0 = .ok (.aload_n 0, 1) := by decide +kernel
theorem dX1_addTo_1 : decode cX1_addTo 1 = .ok (.aload_n 1, 1) := by decide +kernel
theorem dX1_addTo_2 : decode cX1_addTo 2 = .ok (.aload_n 2, 1) := by decide +kernel
theorem dX1_addTo_3 : decode cX1_addTo 3 = .ok (.invokevirtual 91, 3) := by decide +kernel
theorem dX1_addTo_6 : decode cX1_addTo 6 = .ok (.istore_n 3, 1) := by decide +kernel
theorem dX1_addTo_7 : decode cX1_addTo 7 = .ok (.iload_n 3, 1) := by decide +kernel
theorem dX1_addTo_8 : decode cX1_addTo 8 = .ok (.ifCond .eq 5, 3) := by decide +kernel
theorem dX1_addTo_11 : decode cX1_addTo 11 = .ok (.iload_n 3, 1) := by decide +kernel
theorem dX1_addTo_12 : decode cX1_addTo 12 = .ok (.ireturn, 1) := by decide +kernel
theorem dX1_addTo_13 : decode cX1_addTo 13 = .ok (.aload_n 1, 1) := by decide +kernel
theorem dX1_addTo_14 : decode cX1_addTo 14 = .ok (.aload_n 2, 1) := by decide +kernel
theorem dX1_addTo_15 : decode cX1_addTo 15 = .ok (.iconst 0, 1) := by decide +kernel
theorem dX1_addTo_16 : decode cX1_addTo 16 = .ok (.aload_n 0, 1) := by decide +kernel
theorem dX1_addTo_17 : decode cX1_addTo 17 = .ok (.getfield 56, 3) := by decide +kernel
theorem dX1_addTo_20 : decode cX1_addTo 20 = .ok (.invokevirtual 95, 3) := by decide +kernel
theorem dX1_addTo_23 : decode cX1_addTo 23 = .ok (.ifCond .lt 6, 3) := by decide +kernel
theorem dX1_addTo_26 : decode cX1_addTo 26 = .ok (.bipush (-11), 2) := by decide +kernel
theorem dX1_addTo_28 : decode cX1_addTo 28 = .ok (.ireturn, 1) := by decide +kernel
theorem dX1_addTo_29 : decode cX1_addTo 29 = .ok (.aload_n 0, 1) := by decide +kernel
theorem dX1_addTo_30 : decode cX1_addTo 30 = .ok (.getfield 48, 3) := by decide +kernel
theorem dX1_addTo_33 : decode cX1_addTo 33 = .ok (.ifCond .eq 24, 3) := by decide +kernel
theorem dX1_addTo_36 : decode cX1_addTo 36 = .ok (.aload_n 0, 1) := by decide +kernel
theorem dX1_addTo_37 : decode cX1_addTo 37 = .ok (.getfield 88, 3) := by decide +kernel
theorem dX1_addTo_40 : decode cX1_addTo 40 = .ok (.iconst 1, 1) := by decide +kernel
theorem dX1_addTo_41 : decode cX1_addTo 41 = .ok (.if_icmp .ne 13, 3) := by decide +kernel
theorem dX1_addTo_44 : decode cX1_addTo 44 = .ok (.aload_n 0, 1) := by decide +kernel
theorem dX1_addTo_45 : decode cX1_addTo 45 = .ok (.getfield 24, 3) := by decide +kernel
theorem dX1_addTo_48 : decode cX1_addTo 48 = .ok (.iconst 0, 1) := by decide +kernel
theorem dX1_addTo_49 : decode cX1_addTo 49 = .ok (.iaload, 1) := by decide +kernel
theorem dX1_addTo_50 : decode cX1_addTo 50 = .ok (.iconst 1, 1) := by decide +kernel
theorem dX1_addTo_51 : decode cX1_addTo 51 = .ok (.if_icmp .eq 6, 3) := by decide +kernel
theorem dX1_addTo_54 : decode cX1_addTo 54 = .ok (.bipush (-2), 2) := by decide +kernel
theorem dX1_addTo_56 : decode cX1_addTo 56 = .ok (.ireturn, 1) := by decide +kernel
theorem dX1_addTo_57 : decode cX1_addTo 57 = .ok (.aload_n 0, 1) := by decide +kernel
theorem dX1_addTo_58 : decode cX1_addTo 58 = .ok (.invokevirtual 101, 3) := by decide +kernel
theorem dX1_addTo_61 : decode cX1_addTo 61 = .ok (.aload_n 0, 1) := by decide +kernel
theorem dX1_addTo_62 : decode cX1_addTo 62 = .ok (.getfield 38, 3) := by decide +kernel
theorem dX1_addTo_65 : decode cX1_addTo 65 = .ok (.getfield 104, 3) := by decide +kernel
theorem dX1_addTo_68 : decode cX1_addTo 68 = .ok (.bipush 9, 2) := by decide +kernel
theorem dX1_addTo_70 : decode cX1_addTo 70 = .ok (.invokestatic 107, 3) := by decide +kernel
theorem dX1_addTo_73 : decode cX1_addTo 73 = .ok (.ifCond .eq 6, 3) := by decide +kernel
theorem dX1_addTo_76 : decode cX1_addTo 76 = .ok (.bipush (-12), 2) := by decide +kernel
theorem dX1_addTo_78 : decode cX1_addTo 78 = .ok (.ireturn, 1) := by decide +kernel
theorem dX1_addTo_79 : decode cX1_addTo 79 = .ok (.aload_n 0, 1) := by decide +kernel
theorem dX1_addTo_80 : decode cX1_addTo 80 = .ok (.invokevirtual 111, 3) := by decide +kernel
theorem dX1_addTo_83 : decode cX1_addTo 83 = .ok (.ifCond .ne 6, 3) := by decide +kernel
theorem dX1_addTo_86 : decode cX1_addTo 86 = .ok (.bipush (-15), 2) := by decide +kernel
theorem dX1_addTo_88 : decode cX1_addTo 88 = .ok (.ireturn, 1) := by decide +kernel
theorem dX1_addTo_89 : decode cX1_addTo 89 = .ok (.aload_n 0, 1) := by decide +kernel
theorem dX1_addTo_90 : decode cX1_addTo 90 = .ok (.getfield 38, 3) := by decide +kernel
theorem dX1_addTo_93 : decode cX1_addTo 93 = .ok (.aload_n 2, 1) := by decide +kernel
theorem dX1_addTo_94 : decode cX1_addTo 94 = .ok (.aload_n 0, 1) := by decide +kernel
theorem dX1_addTo_95 : decode cX1_addTo 95 = .ok (.getfield 56, 3) := by decide +kernel
theorem dX1_addTo_98 : decode cX1_addTo 98 = .ok (.invokevirtual 114, 3) := by decide +kernel
theorem dX1_addTo_101 : decode cX1_addTo 101 = .ok (.aload_n 0, 1) := by decide +kernel
theorem dX1_addTo_102 : decode cX1_addTo 102 = .ok (.getfield 38, 3) := by decide +kernel
theorem dX1_addTo_105 : decode cX1_addTo 105 = .ok (.getfield 117, 3) := by decide +kernel
theorem dX1_addTo_108 : decode cX1_addTo 108 = .ok (.aload_n 0, 1) := by decide +kernel
theorem dX1_addTo_109 : decode cX1_addTo 109 = .ok (.getfield 48, 3) := by decide +kernel
theorem dX1_addTo_112 : decode cX1_addTo 112 = .ok (.ifCond .eq 19, 3) := by decide +kernel
theorem dX1_addTo_115 : decode cX1_addTo 115 = .ok (.aload_n 0, 1) := by decide +kernel
theorem dX1_addTo_116 : decode cX1_addTo 116 = .ok (.getfield 75, 3) := by decide +kernel
theorem dX1_addTo_119 : decode cX1_addTo 119 = .ok (.i2l, 1) := by decide +kernel
theorem dX1_addTo_120 : decode cX1_addTo 120 = .ok (.aload_n 0, 1) := by decide +kernel
theorem dX1_addTo_121 : decode cX1_addTo 121 = .ok (.getfield 15, 3) := by decide +kernel
theorem dX1_addTo_124 : decode cX1_addTo 124 = .ok (.iconst 0, 1) := by decide +kernel
theorem dX1_addTo_125 : decode cX1_addTo 125 = .ok (.iaload, 1) := by decide +kernel
theorem dX1_addTo_126 : decode cX1_addTo 126 = .ok (.i2l, 1) := by decide +kernel
theorem dX1_addTo_127 : decode cX1_addTo 127 = .ok (.lmul, 1) := by decide +kernel
theorem dX1_addTo_128 : decode cX1_addTo 128 = .ok (.goto 4, 3) := by decide +kernel
theorem dX1_addTo_131 : decode cX1_addTo 131 = .ok (.lconst 0, 1) := by decide +kernel
theorem dX1_addTo_132 : decode cX1_addTo 132 = .ok (.aload_n 0, 1) := by decide +kernel
theorem dX1_addTo_133 : decode cX1_addTo 133 = .ok (.getfield 48, 3) := by decide +kernel
theorem dX1_addTo_136 : decode cX1_addTo 136 = .ok (.ifCond .eq 13, 3) := by decide +kernel
theorem dX1_addTo_139 : decode cX1_addTo 139 = .ok (.aload_n 0, 1) := by decide +kernel
theorem dX1_addTo_140 : decode cX1_addTo 140 = .ok (.getfield 15, 3) := by decide +kernel
theorem dX1_addTo_143 : decode cX1_addTo 143 = .ok (.iconst 1, 1) := by decide +kernel
theorem dX1_addTo_144 : decode cX1_addTo 144 = .ok (.iaload, 1) := by decide +kernel
theorem dX1_addTo_145 : decode cX1_addTo 145 = .ok (.i2l, 1) := by decide +kernel
theorem dX1_addTo_146 : decode cX1_addTo 146 = .ok (.goto 4, 3) := by decide +kernel
theorem dX1_addTo_149 : decode cX1_addTo 149 = .ok (.lconst 1, 1) := by decide +kernel
theorem dX1_addTo_150 : decode cX1_addTo 150 = .ok (.invokevirtual 120, 3) := by decide +kernel
theorem dX1_addTo_153 : decode cX1_addTo 153 = .ok (.aload_n 1, 1) := by decide +kernel
theorem dX1_addTo_154 : decode cX1_addTo 154 = .ok (.aload_n 0, 1) := by decide +kernel
theorem dX1_addTo_155 : decode cX1_addTo 155 = .ok (.getfield 38, 3) := by decide +kernel
theorem dX1_addTo_158 : decode cX1_addTo 158 = .ok (.invokevirtual 126, 3) := by decide +kernel
theorem dX1_addTo_161 : decode cX1_addTo 161 = .ok (.ireturn, 1) := by decide +kernel
theorem dX1_partsRefusal_0 : decode cX1_partsRefusal 0 = .ok (.aload_n 0, 1) := by decide +kernel
theorem dX1_partsRefusal_1 : decode cX1_partsRefusal 1 = .ok (.getfield 9, 3) := by decide +kernel
theorem dX1_partsRefusal_4 : decode cX1_partsRefusal 4 = .ok (.iconst 0, 1) := by decide +kernel
theorem dX1_partsRefusal_5 : decode cX1_partsRefusal 5 = .ok (.iaload, 1) := by decide +kernel
theorem dX1_partsRefusal_6 : decode cX1_partsRefusal 6 = .ok (.ifCond .eq 12, 3) := by decide +kernel
theorem dX1_partsRefusal_9 : decode cX1_partsRefusal 9 = .ok (.aload_n 0, 1) := by decide +kernel
theorem dX1_partsRefusal_10 : decode cX1_partsRefusal 10 = .ok (.getfield 9, 3) := by decide +kernel
theorem dX1_partsRefusal_13 : decode cX1_partsRefusal 13 = .ok (.iconst 1, 1) := by decide +kernel
theorem dX1_partsRefusal_14 : decode cX1_partsRefusal 14 = .ok (.iaload, 1) := by decide +kernel
theorem dX1_partsRefusal_15 : decode cX1_partsRefusal 15 = .ok (.ifCond .ne 6, 3) := by decide +kernel
theorem dX1_partsRefusal_18 : decode cX1_partsRefusal 18 = .ok (.bipush (-9), 2) := by decide +kernel
theorem dX1_partsRefusal_20 : decode cX1_partsRefusal 20 = .ok (.ireturn, 1) := by decide +kernel
theorem dX1_partsRefusal_21 : decode cX1_partsRefusal 21 = .ok (.iconst 0, 1) := by decide +kernel
theorem dX1_partsRefusal_22 : decode cX1_partsRefusal 22 = .ok (.istore_n 3, 1) := by decide +kernel
theorem dX1_partsRefusal_23 : decode cX1_partsRefusal 23 = .ok (.iload_n 3, 1) := by decide +kernel
theorem dX1_partsRefusal_24 : decode cX1_partsRefusal 24 = .ok (.aload_n 0, 1) := by decide +kernel
theorem dX1_partsRefusal_25 : decode cX1_partsRefusal 25 = .ok (.getfield 88, 3) := by decide +kernel
theorem dX1_partsRefusal_28 : decode cX1_partsRefusal 28 = .ok (.if_icmp .ge 69, 3) := by decide +kernel
theorem dX1_partsRefusal_31 : decode cX1_partsRefusal 31 = .ok (.iload_n 3, 1) := by decide +kernel
theorem dX1_partsRefusal_32 : decode cX1_partsRefusal 32 = .ok (.bipush 30, 2) := by decide +kernel
theorem dX1_partsRefusal_34 : decode cX1_partsRefusal 34 = .ok (.if_icmp .ge 63, 3) := by decide +kernel
theorem dX1_partsRefusal_37 : decode cX1_partsRefusal 37 = .ok (.aload_n 0, 1) := by decide +kernel
theorem dX1_partsRefusal_38 : decode cX1_partsRefusal 38 = .ok (.getfield 33, 3) := by decide +kernel
theorem dX1_partsRefusal_41 : decode cX1_partsRefusal 41 = .ok (.iload_n 3, 1) := by decide +kernel
theorem dX1_partsRefusal_42 : decode cX1_partsRefusal 42 = .ok (.aload_n 1, 1) := by decide +kernel
theorem dX1_partsRefusal_43 : decode cX1_partsRefusal 43 = .ok (.aload_n 1, 1) := by decide +kernel
theorem dX1_partsRefusal_44 : decode cX1_partsRefusal 44 = .ok (.aload_n 2, 1) := by decide +kernel
theorem dX1_partsRefusal_45 : decode cX1_partsRefusal 45 = .ok (.aload_n 0, 1) := by decide +kernel
theorem dX1_partsRefusal_46 : decode cX1_partsRefusal 46 = .ok (.getfield 18, 3) := by decide +kernel
theorem dX1_partsRefusal_49 : decode cX1_partsRefusal 49 = .ok (.iload_n 3, 1) := by decide +kernel
theorem dX1_partsRefusal_50 : decode cX1_partsRefusal 50 = .ok (.iaload, 1) := by decide +kernel
theorem dX1_partsRefusal_51 : decode cX1_partsRefusal 51 = .ok (.aload_n 0, 1) := by decide +kernel
theorem dX1_partsRefusal_52 : decode cX1_partsRefusal 52 = .ok (.getfield 21, 3) := by decide +kernel
theorem dX1_partsRefusal_55 : decode cX1_partsRefusal 55 = .ok (.iload_n 3, 1) := by decide +kernel
theorem dX1_partsRefusal_56 : decode cX1_partsRefusal 56 = .ok (.iaload, 1) := by decide +kernel
theorem dX1_partsRefusal_57 : decode cX1_partsRefusal 57 = .ok (.invokevirtual 95, 3) := by decide +kernel
theorem dX1_partsRefusal_60 : decode cX1_partsRefusal 60 = .ok (.invokevirtual 130, 3) := by decide +kernel
theorem dX1_partsRefusal_63 : decode cX1_partsRefusal 63 = .ok (.aastore, 1) := by decide +kernel
theorem dX1_partsRefusal_64 : decode cX1_partsRefusal 64 = .ok (.aload_n 0, 1) := by decide +kernel
theorem dX1_partsRefusal_65 : decode cX1_partsRefusal 65 = .ok (.getfield 33, 3) := by decide +kernel
theorem dX1_partsRefusal_68 : decode cX1_partsRefusal 68 = .ok (.iload_n 3, 1) := by decide +kernel
theorem dX1_partsRefusal_69 : decode cX1_partsRefusal 69 = .ok (.aaload, 1) := by decide +kernel
theorem dX1_partsRefusal_70 : decode cX1_partsRefusal 70 = .ok (.ifnonnull 6, 3) := by decide +kernel
theorem dX1_partsRefusal_73 : decode cX1_partsRefusal 73 = .ok (.bipush (-8), 2) := by decide +kernel
theorem dX1_partsRefusal_75 : decode cX1_partsRefusal 75 = .ok (.ireturn, 1) := by decide +kernel
theorem dX1_partsRefusal_76 : decode cX1_partsRefusal 76 = .ok (.aload_n 0, 1) := by decide +kernel
theorem dX1_partsRefusal_77 : decode cX1_partsRefusal 77 = .ok (.getfield 33, 3) := by decide +kernel
theorem dX1_partsRefusal_80 : decode cX1_partsRefusal 80 = .ok (.iload_n 3, 1) := by decide +kernel
theorem dX1_partsRefusal_81 : decode cX1_partsRefusal 81 = .ok (.aaload, 1) := by decide +kernel
theorem dX1_partsRefusal_82 : decode cX1_partsRefusal 82 = .ok (.invokevirtual 133, 3) := by decide +kernel
theorem dX1_partsRefusal_85 : decode cX1_partsRefusal 85 = .ok (.ifCond .eq 6, 3) := by decide +kernel
theorem dX1_partsRefusal_88 : decode cX1_partsRefusal 88 = .ok (.bipush (-10), 2) := by decide +kernel
theorem dX1_partsRefusal_90 : decode cX1_partsRefusal 90 = .ok (.ireturn, 1) := by decide +kernel
theorem dX1_partsRefusal_91 : decode cX1_partsRefusal 91 = .ok (.iinc 3 1, 3) := by decide +kernel
theorem dX1_partsRefusal_94 : decode cX1_partsRefusal 94 = .ok (.goto (-71), 3) := by decide +kernel
theorem dX1_partsRefusal_97 : decode cX1_partsRefusal 97 = .ok (.aload_n 0, 1) := by decide +kernel
theorem dX1_partsRefusal_98 : decode cX1_partsRefusal 98 = .ok (.getfield 48, 3) := by decide +kernel
theorem dX1_partsRefusal_101 : decode cX1_partsRefusal 101 = .ok (.ifCond .eq 17, 3) := by decide +kernel
theorem dX1_partsRefusal_104 : decode cX1_partsRefusal 104 = .ok (.aload_n 0, 1) := by decide +kernel
theorem dX1_partsRefusal_105 : decode cX1_partsRefusal 105 = .ok (.getfield 15, 3) := by decide +kernel
theorem dX1_partsRefusal_108 : decode cX1_partsRefusal 108 = .ok (.iconst 1, 1) := by decide +kernel
theorem dX1_partsRefusal_109 : decode cX1_partsRefusal 109 = .ok (.iaload, 1) := by decide +kernel
theorem dX1_partsRefusal_110 : decode cX1_partsRefusal 110 = .ok (.ifCond .ne 8, 3) := by decide +kernel
theorem dX1_partsRefusal_113 : decode cX1_partsRefusal 113 = .ok (.bipush (-9), 2) := by decide +kernel
theorem dX1_partsRefusal_115 : decode cX1_partsRefusal 115 = .ok (.goto 4, 3) := by decide +kernel
theorem dX1_partsRefusal_118 : decode cX1_partsRefusal 118 = .ok (.iconst 0, 1) := by decide +kernel
theorem dX1_partsRefusal_119 : decode cX1_partsRefusal 119 = .ok (.ireturn, 1) := by decide +kernel
theorem dX1_makeDimension_0 : decode cX1_makeDimension 0 = .ok (.iconst 0, 1) := by decide +kernel
theorem dX1_makeDimension_1 : decode cX1_makeDimension 1 = .ok (.istore_n 1, 1) := by decide +kernel
theorem dX1_makeDimension_2 : decode cX1_makeDimension 2 = .ok (.iload_n 1, 1) := by decide +kernel
theorem dX1_makeDimension_3 : decode cX1_makeDimension 3 = .ok (.iconst 5, 1) := by decide +kernel
theorem dX1_makeDimension_4 : decode cX1_makeDimension 4 = .ok (.if_icmp .ge 83, 3) := by decide +kernel
theorem dX1_makeDimension_7 : decode cX1_makeDimension 7 = .ok (.iconst 0, 1) := by decide +kernel
theorem dX1_makeDimension_8 : decode cX1_makeDimension 8 = .ok (.istore_n 2, 1) := by decide +kernel
theorem dX1_makeDimension_9 : decode cX1_makeDimension 9 = .ok (.iconst 0, 1) := by decide +kernel
theorem dX1_makeDimension_10 : decode cX1_makeDimension 10 = .ok (.istore_n 3, 1) := by decide +kernel
theorem dX1_makeDimension_11 : decode cX1_makeDimension 11 = .ok (.iload_n 3, 1) := by decide +kernel
theorem dX1_makeDimension_12 : decode cX1_makeDimension 12 = .ok (.aload_n 0, 1) := by decide +kernel
theorem dX1_makeDimension_13 : decode cX1_makeDimension 13 = .ok (.getfield 88, 3) := by decide +kernel
theorem dX1_makeDimension_16 : decode cX1_makeDimension 16 = .ok (.if_icmp .ge 55, 3) := by decide +kernel
theorem dX1_makeDimension_19 : decode cX1_makeDimension 19 = .ok (.iload_n 3, 1) := by decide +kernel
theorem dX1_makeDimension_20 : decode cX1_makeDimension 20 = .ok (.bipush 30, 2) := by decide +kernel
theorem dX1_makeDimension_22 : decode cX1_makeDimension 22 = .ok (.if_icmp .ge 49, 3) := by decide +kernel
theorem dX1_makeDimension_25 : decode cX1_makeDimension 25 = .ok (.aload_n 0, 1) := by decide +kernel
theorem dX1_makeDimension_26 : decode cX1_makeDimension 26 = .ok (.getfield 33, 3) := by decide +kernel
theorem dX1_makeDimension_29 : decode cX1_makeDimension 29 = .ok (.iload_n 3, 1) := by decide +kernel
theorem dX1_makeDimension_30 : decode cX1_makeDimension 30 = .ok (.aaload, 1) := by decide +kernel
theorem dX1_makeDimension_31 : decode cX1_makeDimension 31 = .ok (.getfield 104, 3) := by decide +kernel
theorem dX1_makeDimension_34 : decode cX1_makeDimension 34 = .ok (.iload_n 1, 1) := by decide +kernel
theorem dX1_makeDimension_35 : decode cX1_makeDimension 35 = .ok (.iaload, 1) := by decide +kernel
theorem dX1_makeDimension_36 : decode cX1_makeDimension 36 = .ok (.aload_n 0, 1) := by decide +kernel
theorem dX1_makeDimension_37 : decode cX1_makeDimension 37 = .ok (.getfield 24, 3) := by decide +kernel
theorem dX1_makeDimension_40 : decode cX1_makeDimension 40 = .ok (.iload_n 3, 1) := by decide +kernel
theorem dX1_makeDimension_41 : decode cX1_makeDimension 41 = .ok (.iaload, 1) := by decide +kernel
theorem dX1_makeDimension_42 : decode cX1_makeDimension 42 = .ok (.imul, 1) := by decide +kernel
theorem dX1_makeDimension_43 : decode cX1_makeDimension 43 = .ok (.istore 4, 2) := by decide +kernel
theorem dX1_makeDimension_45 : decode cX1_makeDimension 45 = .ok (.iload_n 2, 1) := by decide +kernel
theorem dX1_makeDimension_46 : decode cX1_makeDimension 46 = .ok (.aload_n 0, 1) := by decide +kernel
theorem dX1_makeDimension_47 : decode cX1_makeDimension 47 = .ok (.getfield 27, 3) := by decide +kernel
theorem dX1_makeDimension_50 : decode cX1_makeDimension 50 = .ok (.iload_n 3, 1) := by decide +kernel
theorem dX1_makeDimension_51 : decode cX1_makeDimension 51 = .ok (.baload, 1) := by decide +kernel
theorem dX1_makeDimension_52 : decode cX1_makeDimension 52 = .ok (.ifCond .eq 9, 3) := by decide +kernel
theorem dX1_makeDimension_55 : decode cX1_makeDimension 55 = .ok (.iload 4, 2) := by decide +kernel
theorem dX1_makeDimension_57 : decode cX1_makeDimension 57 = .ok (.ineg, 1) := by decide +kernel
theorem dX1_makeDimension_58 : decode cX1_makeDimension 58 = .ok (.goto 5, 3) := by decide +kernel
theorem dX1_makeDimension_61 : decode cX1_makeDimension 61 = .ok (.iload 4, 2) := by decide +kernel
theorem dX1_makeDimension_63 : decode cX1_makeDimension 63 = .ok (.iadd, 1) := by decide +kernel
theorem dX1_makeDimension_64 : decode cX1_makeDimension 64 = .ok (.istore_n 2, 1) := by decide +kernel
theorem dX1_makeDimension_65 : decode cX1_makeDimension 65 = .ok (.iinc 3 1, 3) := by decide +kernel
theorem dX1_makeDimension_68 : decode cX1_makeDimension 68 = .ok (.goto (-57), 3) := by decide +kernel
theorem dX1_makeDimension_71 : decode cX1_makeDimension 71 = .ok (.aload_n 0, 1) := by decide +kernel
theorem dX1_makeDimension_72 : decode cX1_makeDimension 72 = .ok (.getfield 38, 3) := by decide +kernel
theorem dX1_makeDimension_75 : decode cX1_makeDimension 75 = .ok (.getfield 104, 3) := by decide +kernel
theorem dX1_makeDimension_78 : decode cX1_makeDimension 78 = .ok (.iload_n 1, 1) := by decide +kernel
theorem dX1_makeDimension_79 : decode cX1_makeDimension 79 = .ok (.iload_n 2, 1) := by decide +kernel
theorem dX1_makeDimension_80 : decode cX1_makeDimension 80 = .ok (.iastore, 1) := by decide +kernel
theorem dX1_makeDimension_81 : decode cX1_makeDimension 81 = .ok (.iinc 1 1, 3) := by decide +kernel
theorem dX1_makeDimension_84 : decode cX1_makeDimension 84 = .ok (.goto (-82), 3) := by decide +kernel
theorem dX1_makeDimension_87 : decode cX1_makeDimension 87 = .ok (.return_, 1) := by decide +kernel
theorem dX1_makeFactor_0 : decode cX1_makeFactor 0 = .ok (.aload_n 0, 1) := by decide +kernel
theorem dX1_makeFactor_1 : decode cX1_makeFactor 1 = .ok (.getfield 38, 3) := by decide +kernel
theorem dX1_makeFactor_4 : decode cX1_makeFactor 4 = .ok (.getfield 135, 3) := by decide +kernel
theorem dX1_makeFactor_7 : decode cX1_makeFactor 7 = .ok (.aload_n 0, 1) := by decide +kernel
theorem dX1_makeFactor_8 : decode cX1_makeFactor 8 = .ok (.getfield 9, 3) := by decide +kernel
theorem dX1_makeFactor_11 : decode cX1_makeFactor 11 = .ok (.iconst 0, 1) := by decide +kernel
theorem dX1_makeFactor_12 : decode cX1_makeFactor 12 = .ok (.iaload, 1) := by decide +kernel
theorem dX1_makeFactor_13 : decode cX1_makeFactor 13 = .ok (.i2l, 1) := by decide +kernel
theorem dX1_makeFactor_14 : decode cX1_makeFactor 14 = .ok (.aload_n 0, 1) := by decide +kernel
theorem dX1_makeFactor_15 : decode cX1_makeFactor 15 = .ok (.getfield 9, 3) := by decide +kernel
theorem dX1_makeFactor_18 : decode cX1_makeFactor 18 = .ok (.iconst 1, 1) := by decide +kernel
theorem dX1_makeFactor_19 : decode cX1_makeFactor 19 = .ok (.iaload, 1) := by decide +kernel
theorem dX1_makeFactor_20 : decode cX1_makeFactor 20 = .ok (.i2l, 1) := by decide +kernel
theorem dX1_makeFactor_21 : decode cX1_makeFactor 21 = .ok (.invokevirtual 120, 3) := by decide +kernel
theorem dX1_makeFactor_24 : decode cX1_makeFactor 24 = .ok (.iconst 0, 1) := by decide +kernel
theorem dX1_makeFactor_25 : decode cX1_makeFactor 25 = .ok (.istore_n 1, 1) := by decide +kernel
theorem dX1_makeFactor_26 : decode cX1_makeFactor 26 = .ok (.iload_n 1, 1) := by decide +kernel
theorem dX1_makeFactor_27 : decode cX1_makeFactor 27 = .ok (.aload_n 0, 1) := by decide +kernel
theorem dX1_makeFactor_28 : decode cX1_makeFactor 28 = .ok (.getfield 88, 3) := by decide +kernel
theorem dX1_makeFactor_31 : decode cX1_makeFactor 31 = .ok (.if_icmp .ge 85, 3) := by decide +kernel
theorem dX1_makeFactor_34 : decode cX1_makeFactor 34 = .ok (.iload_n 1, 1) := by decide +kernel
theorem dX1_makeFactor_35 : decode cX1_makeFactor 35 = .ok (.bipush 30, 2) := by decide +kernel
theorem dX1_makeFactor_37 : decode cX1_makeFactor 37 = .ok (.if_icmp .ge 79, 3) := by decide +kernel
theorem dX1_makeFactor_40 : decode cX1_makeFactor 40 = .ok (.aload_n 0, 1) := by decide +kernel
theorem dX1_makeFactor_41 : decode cX1_makeFactor 41 = .ok (.getfield 33, 3) := by decide +kernel
theorem dX1_makeFactor_44 : decode cX1_makeFactor 44 = .ok (.iload_n 1, 1) := by decide +kernel
theorem dX1_makeFactor_45 : decode cX1_makeFactor 45 = .ok (.aaload, 1) := by decide +kernel
theorem dX1_makeFactor_46 : decode cX1_makeFactor 46 = .ok (.getfield 135, 3) := by decide +kernel
theorem dX1_makeFactor_49 : decode cX1_makeFactor 49 = .ok (.astore_n 2, 1) := by decide +kernel
theorem dX1_makeFactor_50 : decode cX1_makeFactor 50 = .ok (.iconst 0, 1) := by decide +kernel
theorem dX1_makeFactor_51 : decode cX1_makeFactor 51 = .ok (.istore_n 3, 1) := by decide +kernel
theorem dX1_makeFactor_52 : decode cX1_makeFactor 52 = .ok (.iload_n 3, 1) := by decide +kernel
theorem dX1_makeFactor_53 : decode cX1_makeFactor 53 = .ok (.aload_n 0, 1) := by decide +kernel
theorem dX1_makeFactor_54 : decode cX1_makeFactor 54 = .ok (.getfield 24, 3) := by decide +kernel
theorem dX1_makeFactor_57 : decode cX1_makeFactor 57 = .ok (.iload_n 1, 1) := by decide +kernel
theorem dX1_makeFactor_58 : decode cX1_makeFactor 58 = .ok (.iaload, 1) := by decide +kernel
theorem dX1_makeFactor_59 : decode cX1_makeFactor 59 = .ok (.if_icmp .ge 51, 3) := by decide +kernel
theorem dX1_makeFactor_62 : decode cX1_makeFactor 62 = .ok (.aload_n 0, 1) := by decide +kernel
theorem dX1_makeFactor_63 : decode cX1_makeFactor 63 = .ok (.getfield 27, 3) := by decide +kernel
theorem dX1_makeFactor_66 : decode cX1_makeFactor 66 = .ok (.iload_n 1, 1) := by decide +kernel
theorem dX1_makeFactor_67 : decode cX1_makeFactor 67 = .ok (.baload, 1) := by decide +kernel
theorem dX1_makeFactor_68 : decode cX1_makeFactor 68 = .ok (.ifCond .eq 20, 3) := by decide +kernel
theorem dX1_makeFactor_71 : decode cX1_makeFactor 71 = .ok (.aload_n 0, 1) := by decide +kernel
theorem dX1_makeFactor_72 : decode cX1_makeFactor 72 = .ok (.getfield 38, 3) := by decide +kernel
theorem dX1_makeFactor_75 : decode cX1_makeFactor 75 = .ok (.getfield 135, 3) := by decide +kernel
theorem dX1_makeFactor_78 : decode cX1_makeFactor 78 = .ok (.aload_n 2, 1) := by decide +kernel
theorem dX1_makeFactor_79 : decode cX1_makeFactor 79 = .ok (.invokevirtual 138, 3) := by decide +kernel
theorem dX1_makeFactor_82 : decode cX1_makeFactor 82 = .ok (.ifCond .eq 20, 3) := by decide +kernel
theorem dX1_makeFactor_85 : decode cX1_makeFactor 85 = .ok (.goto 19, 3) := by decide +kernel
theorem dX1_makeFactor_88 : decode cX1_makeFactor 88 = .ok (.aload_n 0, 1) := by decide +kernel
theorem dX1_makeFactor_89 : decode cX1_makeFactor 89 = .ok (.getfield 38, 3) := by decide +kernel
theorem dX1_makeFactor_92 : decode cX1_makeFactor 92 = .ok (.getfield 135, 3) := by decide +kernel
theorem dX1_makeFactor_95 : decode cX1_makeFactor 95 = .ok (.aload_n 2, 1) := by decide +kernel
theorem dX1_makeFactor_96 : decode cX1_makeFactor 96 = .ok (.invokevirtual 142, 3) := by decide +kernel
theorem dX1_makeFactor_99 : decode cX1_makeFactor 99 = .ok (.ifCond .ne 5, 3) := by decide +kernel
theorem dX1_makeFactor_102 : decode cX1_makeFactor 102 = .ok (.iconst 0, 1) := by decide +kernel
theorem dX1_makeFactor_103 : decode cX1_makeFactor 103 = .ok (.ireturn, 1) := by decide +kernel
theorem dX1_makeFactor_104 : decode cX1_makeFactor 104 = .ok (.iinc 3 1, 3) := by decide +kernel
theorem dX1_makeFactor_107 : decode cX1_makeFactor 107 = .ok (.goto (-55), 3) := by decide +kernel
theorem dX1_makeFactor_110 : decode cX1_makeFactor 110 = .ok (.iinc 1 1, 3) := by decide +kernel
theorem dX1_makeFactor_113 : decode cX1_makeFactor 113 = .ok (.goto (-87), 3) := by decide +kernel
theorem dX1_makeFactor_116 : decode cX1_makeFactor 116 = .ok (.iconst 1, 1) := by decide +kernel
theorem dX1_makeFactor_117 : decode cX1_makeFactor 117 = .ok (.ireturn, 1) := by decide +kernel
theorem dX2_init_0 : decode cX2_init 0 = .ok (.aload_n 0, 1) := by decide +kernel
theorem dX2_init_1 : decode cX2_init 1 = .ok (.invokespecial 1, 3) := by decide +kernel
theorem dX2_init_4 : decode cX2_init 4 = .ok (.aload_n 0, 1) := by decide +kernel
theorem dX2_init_5 : decode cX2_init 5 = .ok (.bipush 10, 2) := by decide +kernel
theorem dX2_init_7 : decode cX2_init 7 = .ok (.newarray .double, 2) := by decide +kernel
theorem dX2_init_9 : decode cX2_init 9 = .ok (.putfield 9, 3) := by decide +kernel
theorem dX2_init_12 : decode cX2_init 12 = .ok (.ldc2_w 13, 3) := by decide +kernel
theorem dX2_init_15 : decode cX2_init 15 = .ok (.dstore_n 1, 1) := by decide +kernel
theorem dX2_init_16 : decode cX2_init 16 = .ok (.iconst 0, 1) := by decide +kernel
theorem dX2_init_17 : decode cX2_init 17 = .ok (.istore_n 3, 1) := by decide +kernel
theorem dX2_init_18 : decode cX2_init 18 = .ok (.iload_n 3, 1) := by decide +kernel
theorem dX2_init_19 : decode cX2_init 19 = .ok (.bipush 10, 2) := by decide +kernel
theorem dX2_init_21 : decode cX2_init 21 = .ok (.if_icmp .ge 20, 3) := by decide +kernel
theorem dX2_init_24 : decode cX2_init 24 = .ok (.aload_n 0, 1) := by decide +kernel
theorem dX2_init_25 : decode cX2_init 25 = .ok (.getfield 9, 3) := by decide +kernel
theorem dX2_init_28 : decode cX2_init 28 = .ok (.iload_n 3, 1) := by decide +kernel
theorem dX2_init_29 : decode cX2_init 29 = .ok (.dload_n 1, 1) := by decide +kernel
theorem dX2_init_30 : decode cX2_init 30 = .ok (.dastore, 1) := by decide +kernel
theorem dX2_init_31 : decode cX2_init 31 = .ok (.dload_n 1, 1) := by decide +kernel
theorem dX2_init_32 : decode cX2_init 32 = .ok (.dload_n 1, 1) := by decide +kernel
theorem dX2_init_33 : decode cX2_init 33 = .ok (.dmul, 1) := by decide +kernel
theorem dX2_init_34 : decode cX2_init 34 = .ok (.dstore_n 1, 1) := by decide +kernel
theorem dX2_init_35 : decode cX2_init 35 = .ok (.iinc 3 1, 3) := by decide +kernel
theorem dX2_init_38 : decode cX2_init 38 = .ok (.goto (-20), 3) := by decide +kernel
theorem dX2_init_41 : decode cX2_init 41 = .ok (.aload_n 0, 1) := by decide +kernel
theorem dX2_init_42 : decode cX2_init 42 = .ok (.dload_n 1, 1) := by decide +kernel
theorem dX2_init_43 : decode cX2_init 43 = .ok (.putfield 15, 3) := by decide +kernel
theorem dX2_init_46 : decode cX2_init 46 = .ok (.return_, 1) := by decide +kernel
theorem dX2_isEndless_0 : decode cX2_isEndless 0 = .ok (.dload_n 1, 1) := by decide +kernel
theorem dX2_isEndless_1 : decode cX2_isEndless 1 = .ok (.aload_n 0, 1) := by decide +kernel
theorem dX2_isEndless_2 : decode cX2_isEndless 2 = .ok (.getfield 15, 3) := by decide +kernel
theorem dX2_isEndless_5 : decode cX2_isEndless 5 = .ok (.dcmp .l, 1) := by decide +kernel
theorem dX2_isEndless_6 : decode cX2_isEndless 6 = .ok (.ifCond .eq 13, 3) := by decide +kernel
theorem dX2_isEndless_9 : decode cX2_isEndless 9 = .ok (.dload_n 1, 1) := by decide +kernel
theorem dX2_isEndless_10 : decode cX2_isEndless 10 = .ok (.aload_n 0, 1) := by decide +kernel
theorem dX2_isEndless_11 : decode cX2_isEndless 11 = .ok (.getfield 15, 3) := by decide +kernel
theorem dX2_isEndless_14 : decode cX2_isEndless 14 = .ok (.dneg, 1) := by decide +kernel
theorem dX2_isEndless_15 : decode cX2_isEndless 15 = .ok (.dcmp .l, 1) := by decide +kernel
theorem dX2_isEndless_16 : decode cX2_isEndless 16 = .ok (.ifCond .ne 7, 3) := by decide +kernel
theorem dX2_isEndless_19 : decode cX2_isEndless 19 = .ok (.iconst 1, 1) := by decide +kernel
theorem dX2_isEndless_20 : decode cX2_isEndless 20 = .ok (.goto 4, 3) := by decide +kernel
theorem dX2_isEndless_23 : decode cX2_isEndless 23 = .ok (.iconst 0, 1) := by decide +kernel
theorem dX2_isEndless_24 : decode cX2_isEndless 24 = .ok (.ireturn, 1) := by decide +kernel
theorem dX2_ofDouble_0 : decode cX2_ofDouble 0 = .ok (.aload_n 0, 1) := by decide +kernel
theorem dX2_ofDouble_1 : decode cX2_ofDouble 1 = .ok (.dload_n 1, 1) := by decide +kernel
theorem dX2_ofDouble_2 : decode cX2_ofDouble 2 = .ok (.bipush 52, 2) := by decide +kernel
theorem dX2_ofDouble_4 : decode cX2_ofDouble 4 = .ok (.sipush 1023, 3) := by decide +kernel
theorem dX2_ofDouble_7 : decode cX2_ofDouble 7 = .ok (.invokevirtual 19, 3) := by decide +kernel
theorem dX2_ofDouble_10 : decode cX2_ofDouble 10 = .ok (.dload_n 1, 1) := by decide +kernel
theorem dX2_ofDouble_11 : decode cX2_ofDouble 11 = .ok (.invokestatic 23, 3) := by decide +kernel
theorem dX2_ofDouble_14 : decode cX2_ofDouble 14 = .ok (.ifCond .eq 9, 3) := by decide +kernel
theorem dX2_ofDouble_17 : decode cX2_ofDouble 17 = .ok (.ldc2_w 27, 3) := by decide +kernel
theorem dX2_ofDouble_20 : decode cX2_ofDouble 20 = .ok (.goto 4, 3) := by decide +kernel
theorem dX2_ofDouble_23 : decode cX2_ofDouble 23 = .ok (.lconst 0, 1) := by decide +kernel
theorem dX2_ofDouble_24 : decode cX2_ofDouble 24 = .ok (.lor, 1) := by decide +kernel
theorem dX2_ofDouble_25 : decode cX2_ofDouble 25 = .ok (.lreturn, 1) := by decide +kernel
theorem dX2_ofFloat_0 : decode cX2_ofFloat 0 = .ok (.aload_n 0, 1) := by decide +kernel
theorem dX2_ofFloat_1 : decode cX2_ofFloat 1 = .ok (.fload_n 1, 1) := by decide +kernel
theorem dX2_ofFloat_2 : decode cX2_ofFloat 2 = .ok (.f2d, 1) := by decide +kernel
theorem dX2_ofFloat_3 : decode cX2_ofFloat 3 = .ok (.bipush 23, 2) := by decide +kernel
theorem dX2_ofFloat_5 : decode cX2_ofFloat 5 = .ok (.bipush 127, 2) := by decide +kernel
theorem dX2_ofFloat_7 : decode cX2_ofFloat 7 = .ok (.invokevirtual 19, 3) := by decide +kernel
theorem dX2_ofFloat_10 : decode cX2_ofFloat 10 = .ok (.fload_n 1, 1) := by decide +kernel
theorem dX2_ofFloat_11 : decode cX2_ofFloat 11 = .ok (.f2d, 1) := by decide +kernel
theorem dX2_ofFloat_12 : decode cX2_ofFloat 12 = .ok (.invokestatic 23, 3) := by decide +kernel
theorem dX2_ofFloat_15 : decode cX2_ofFloat 15 = .ok (.ifCond .eq 9, 3) := by decide +kernel
theorem dX2_ofFloat_18 : decode cX2_ofFloat 18 = .ok (.ldc2_w 29, 3) := by decide +kernel
theorem dX2_ofFloat_21 : decode cX2_ofFloat 21 = .ok (.goto 4, 3) := by decide +kernel
theorem dX2_ofFloat_24 : decode cX2_ofFloat 24 = .ok (.lconst 0, 1) := by decide +kernel
theorem dX2_ofFloat_25 : decode cX2_ofFloat 25 = .ok (.lor, 1) := by decide +kernel
theorem dX2_ofFloat_26 : decode cX2_ofFloat 26 = .ok (.l2i, 1) := by decide +kernel
theorem dX2_ofFloat_27 : decode cX2_ofFloat 27 = .ok (.i2l, 1) := by decide +kernel
theorem dX2_ofFloat_28 : decode cX2_ofFloat 28 = .ok (.lreturn, 1) := by decide +kernel
theorem dX2_isNoDouble_0 : decode cX2_isNoDouble 0 = .ok (.lload_n 1, 1) := by decide +kernel
theorem dX2_isNoDouble_1 : decode cX2_isNoDouble 1 = .ok (.bipush 52, 2) := by decide +kernel
theorem dX2_isNoDouble_3 : decode cX2_isNoDouble 3 = .ok (.sipush 1023, 3) := by decide +kernel
theorem dX2_isNoDouble_6 : decode cX2_isNoDouble 6 = .ok (.invokestatic 31, 3) := by decide +kernel
theorem dX2_isNoDouble_9 : decode cX2_isNoDouble 9 = .ok (.ireturn, 1) := by decide +kernel
theorem dX2_isNoFloat_0 : decode cX2_isNoFloat 0 = .ok (.lload_n 1, 1) := by decide +kernel
theorem dX2_isNoFloat_1 : decode cX2_isNoFloat 1 = .ok (.bipush 23, 2) := by decide +kernel
theorem dX2_isNoFloat_3 : decode cX2_isNoFloat 3 = .ok (.bipush 127, 2) := by decide +kernel
theorem dX2_isNoFloat_5 : decode cX2_isNoFloat 5 = .ok (.invokestatic 31, 3) := by decide +kernel
theorem dX2_isNoFloat_8 : decode cX2_isNoFloat 8 = .ok (.ireturn, 1) := by decide +kernel
theorem dX2_toDouble_0 : decode cX2_toDouble 0 = .ok (.aload_n 0, 1) := by decide +kernel
theorem dX2_toDouble_1 : decode cX2_toDouble 1 = .ok (.lload_n 1, 1) := by decide +kernel
theorem dX2_toDouble_2 : decode cX2_toDouble 2 = .ok (.bipush 52, 2) := by decide +kernel
theorem dX2_toDouble_4 : decode cX2_toDouble 4 = .ok (.sipush 1023, 3) := by decide +kernel
theorem dX2_toDouble_7 : decode cX2_toDouble 7 = .ok (.invokevirtual 35, 3) := by decide +kernel
theorem dX2_toDouble_10 : decode cX2_toDouble 10 = .ok (.dstore_n 3, 1) := by decide +kernel
theorem dX2_toDouble_11 : decode cX2_toDouble 11 = .ok (.lload_n 1, 1) := by decide +kernel
theorem dX2_toDouble_12 : decode cX2_toDouble 12 = .ok (.lconst 0, 1) := by decide +kernel
theorem dX2_toDouble_13 : decode cX2_toDouble 13 = .ok (.lcmp, 1) := by decide +kernel
theorem dX2_toDouble_14 : decode cX2_toDouble 14 = .ok (.ifCond .ge 8, 3) := by decide +kernel
theorem dX2_toDouble_17 : decode cX2_toDouble 17 = .ok (.dload_n 3, 1) := by decide +kernel
theorem dX2_toDouble_18 : decode cX2_toDouble 18 = .ok (.dneg, 1) := by decide +kernel
theorem dX2_toDouble_19 : decode cX2_toDouble 19 = .ok (.goto 4, 3) := by decide +kernel
theorem dX2_toDouble_22 : decode cX2_toDouble 22 = .ok (.dload_n 3, 1) := by decide +kernel
theorem dX2_toDouble_23 : decode cX2_toDouble 23 = .ok (.dreturn, 1) := by decide +kernel
theorem dX2_toFloat_0 : decode cX2_toFloat 0 = .ok (.aload_n 0, 1) := by decide +kernel
theorem dX2_toFloat_1 : decode cX2_toFloat 1 = .ok (.lload_n 1, 1) := by decide +kernel
theorem dX2_toFloat_2 : decode cX2_toFloat 2 = .ok (.bipush 23, 2) := by decide +kernel
theorem dX2_toFloat_4 : decode cX2_toFloat 4 = .ok (.bipush 127, 2) := by decide +kernel
theorem dX2_toFloat_6 : decode cX2_toFloat 6 = .ok (.invokevirtual 35, 3) := by decide +kernel
theorem dX2_toFloat_9 : decode cX2_toFloat 9 = .ok (.dstore_n 3, 1) := by decide +kernel
theorem dX2_toFloat_10 : decode cX2_toFloat 10 = .ok (.lload_n 1, 1) := by decide +kernel
theorem dX2_toFloat_11 : decode cX2_toFloat 11 = .ok (.ldc2_w 29, 3) := by decide +kernel
theorem dX2_toFloat_14 : decode cX2_toFloat 14 = .ok (.land, 1) := by decide +kernel
theorem dX2_toFloat_15 : decode cX2_toFloat 15 = .ok (.lconst 0, 1) := by decide +kernel
theorem dX2_toFloat_16 : decode cX2_toFloat 16 = .ok (.lcmp, 1) := by decide +kernel
theorem dX2_toFloat_17 : decode cX2_toFloat 17 = .ok (.ifCond .eq 8, 3) := by decide +kernel
theorem dX2_toFloat_20 : decode cX2_toFloat 20 = .ok (.dload_n 3, 1) := by decide +kernel
theorem dX2_toFloat_21 : decode cX2_toFloat 21 = .ok (.dneg, 1) := by decide +kernel
theorem dX2_toFloat_22 : decode cX2_toFloat 22 = .ok (.goto 4, 3) := by decide +kernel
theorem dX2_toFloat_25 : decode cX2_toFloat 25 = .ok (.dload_n 3, 1) := by decide +kernel
theorem dX2_toFloat_26 : decode cX2_toFloat 26 = .ok (.dreturn, 1) := by decide +kernel
theorem dX2_isNegative_0 : decode cX2_isNegative 0 = .ok (.dload_n 0, 1) := by decide +kernel
theorem dX2_isNegative_1 : decode cX2_isNegative 1 = .ok (.dconst 0, 1) := by decide +kernel
theorem dX2_isNegative_2 : decode cX2_isNegative 2 = .ok (.dcmp .g, 1) := by decide +kernel
theorem dX2_isNegative_3 : decode cX2_isNegative 3 = .ok (.ifCond .lt 17, 3) := by decide +kernel
theorem dX2_isNegative_6 : decode cX2_isNegative 6 = .ok (.dload_n 0, 1) := by decide +kernel
theorem dX2_isNegative_7 : decode cX2_isNegative 7 = .ok (.dconst 0, 1) := by decide +kernel
theorem dX2_isNegative_8 : decode cX2_isNegative 8 = .ok (.dcmp .l, 1) := by decide +kernel
theorem dX2_isNegative_9 : decode cX2_isNegative 9 = .ok (.ifCond .ne 15, 3) := by decide +kernel
theorem dX2_isNegative_12 : decode cX2_isNegative 12 = .ok (.dconst 1, 1) := by decide +kernel
theorem dX2_isNegative_13 : decode cX2_isNegative 13 = .ok (.dload_n 0, 1) := by decide +kernel
theorem dX2_isNegative_14 : decode cX2_isNegative 14 = .ok (.ddiv, 1) := by decide +kernel
theorem dX2_isNegative_15 : decode cX2_isNegative 15 = .ok (.dconst 0, 1) := by decide +kernel
theorem dX2_isNegative_16 : decode cX2_isNegative 16 = .ok (.dcmp .g, 1) := by decide +kernel
theorem dX2_isNegative_17 : decode cX2_isNegative 17 = .ok (.ifCond .ge 7, 3) := by decide +kernel
theorem dX2_isNegative_20 : decode cX2_isNegative 20 = .ok (.iconst 1, 1) := by decide +kernel
theorem dX2_isNegative_21 : decode cX2_isNegative 21 = .ok (.goto 4, 3) := by decide +kernel
theorem dX2_isNegative_24 : decode cX2_isNegative 24 = .ok (.iconst 0, 1) := by decide +kernel
theorem dX2_isNegative_25 : decode cX2_isNegative 25 = .ok (.ireturn, 1) := by decide +kernel
theorem dX2_topExponent_0 : decode cX2_topExponent 0 = .ok (.ldc2_w 39, 3) := by decide +kernel
theorem dX2_topExponent_3 : decode cX2_topExponent 3 = .ok (.iload_n 0, 1) := by decide +kernel
theorem dX2_topExponent_4 : decode cX2_topExponent 4 = .ok (.i2l, 1) := by decide +kernel
theorem dX2_topExponent_5 : decode cX2_topExponent 5 = .ok (.lmul, 1) := by decide +kernel
theorem dX2_topExponent_6 : decode cX2_topExponent 6 = .ok (.lconst 1, 1) := by decide +kernel
theorem dX2_topExponent_7 : decode cX2_topExponent 7 = .ok (.ladd, 1) := by decide +kernel
theorem dX2_topExponent_8 : decode cX2_topExponent 8 = .ok (.lreturn, 1) := by decide +kernel
theorem dX2_isNoNumber_0 : decode cX2_isNoNumber 0 = .ok (.lload_n 0, 1) := by decide +kernel
theorem dX2_isNoNumber_1 : decode cX2_isNoNumber 1 = .ok (.iload_n 2, 1) := by decide +kernel
theorem dX2_isNoNumber_2 : decode cX2_isNoNumber 2 = .ok (.lshr, 1) := by decide +kernel
theorem dX2_isNoNumber_3 : decode cX2_isNoNumber 3 = .ok (.iload_n 3, 1) := by decide +kernel
theorem dX2_isNoNumber_4 : decode cX2_isNoNumber 4 = .ok (.invokestatic 41, 3) := by decide +kernel
theorem dX2_isNoNumber_7 : decode cX2_isNoNumber 7 = .ok (.land, 1) := by decide +kernel
theorem dX2_isNoNumber_8 : decode cX2_isNoNumber 8 = .ok (.iload_n 3, 1) := by decide +kernel
theorem dX2_isNoNumber_9 : decode cX2_isNoNumber 9 = .ok (.invokestatic 41, 3) := by decide +kernel
theorem dX2_isNoNumber_12 : decode cX2_isNoNumber 12 = .ok (.lcmp, 1) := by decide +kernel
theorem dX2_isNoNumber_13 : decode cX2_isNoNumber 13 = .ok (.ifCond .ne 19, 3) := by decide +kernel
theorem dX2_isNoNumber_16 : decode cX2_isNoNumber 16 = .ok (.lload_n 0, 1) := by decide +kernel
theorem dX2_isNoNumber_17 : decode cX2_isNoNumber 17 = .ok (.lconst 1, 1) := by decide +kernel
theorem dX2_isNoNumber_18 : decode cX2_isNoNumber 18 = .ok (.iload_n 2, 1) := by decide +kernel
theorem dX2_isNoNumber_19 : decode cX2_isNoNumber 19 = .ok (.lshl, 1) := by decide +kernel
theorem dX2_isNoNumber_20 : decode cX2_isNoNumber 20 = .ok (.lconst 1, 1) := by decide +kernel
theorem dX2_isNoNumber_21 : decode cX2_isNoNumber 21 = .ok (.lsub, 1) := by decide +kernel
theorem dX2_isNoNumber_22 : decode cX2_isNoNumber 22 = .ok (.land, 1) := by decide +kernel
theorem dX2_isNoNumber_23 : decode cX2_isNoNumber 23 = .ok (.lconst 0, 1) := by decide +kernel
theorem dX2_isNoNumber_24 : decode cX2_isNoNumber 24 = .ok (.lcmp, 1) := by decide +kernel
theorem dX2_isNoNumber_25 : decode cX2_isNoNumber 25 = .ok (.ifCond .eq 7, 3) := by decide +kernel
theorem dX2_isNoNumber_28 : decode cX2_isNoNumber 28 = .ok (.iconst 1, 1) := by decide +kernel
theorem dX2_isNoNumber_29 : decode cX2_isNoNumber 29 = .ok (.goto 4, 3) := by decide +kernel
theorem dX2_isNoNumber_32 : decode cX2_isNoNumber 32 = .ok (.iconst 0, 1) := by decide +kernel
theorem dX2_isNoNumber_33 : decode cX2_isNoNumber 33 = .ok (.ireturn, 1) := by decide +kernel
theorem dX2_fromBits_0 : decode cX2_fromBits 0 = .ok (.lload_n 1, 1) := by decide +kernel
theorem dX2_fromBits_1 : decode cX2_fromBits 1 = .ok (.iload_n 3, 1) := by decide +kernel
theorem dX2_fromBits_2 : decode cX2_fromBits 2 = .ok (.lshr, 1) := by decide +kernel
theorem dX2_fromBits_3 : decode cX2_fromBits 3 = .ok (.iload 4, 2) := by decide +kernel
theorem dX2_fromBits_5 : decode cX2_fromBits 5 = .ok (.invokestatic 41, 3) := by decide +kernel
theorem dX2_fromBits_8 : decode cX2_fromBits 8 = .ok (.land, 1) := by decide +kernel
theorem dX2_fromBits_9 : decode cX2_fromBits 9 = .ok (.lstore 5, 2) := by decide +kernel
theorem dX2_fromBits_11 : decode cX2_fromBits 11 = .ok (.lload_n 1, 1) := by decide +kernel
theorem dX2_fromBits_12 : decode cX2_fromBits 12 = .ok (.lconst 1, 1) := by decide +kernel
theorem dX2_fromBits_13 : decode cX2_fromBits 13 = .ok (.iload_n 3, 1) := by decide +kernel
theorem dX2_fromBits_14 : decode cX2_fromBits 14 = .ok (.lshl, 1) := by decide +kernel
theorem dX2_fromBits_15 : decode cX2_fromBits 15 = .ok (.lconst 1, 1) := by decide +kernel
theorem dX2_fromBits_16 : decode cX2_fromBits 16 = .ok (.lsub, 1) := by decide +kernel
theorem dX2_fromBits_17 : decode cX2_fromBits 17 = .ok (.land, 1) := by decide +kernel
theorem dX2_fromBits_18 : decode cX2_fromBits 18 = .ok (.l2d, 1) := by decide +kernel
theorem dX2_fromBits_19 : decode cX2_fromBits 19 = .ok (.lconst 1, 1) := by decide +kernel
theorem dX2_fromBits_20 : decode cX2_fromBits 20 = .ok (.iload_n 3, 1) := by decide +kernel
theorem dX2_fromBits_21 : decode cX2_fromBits 21 = .ok (.lshl, 1) := by decide +kernel
theorem dX2_fromBits_22 : decode cX2_fromBits 22 = .ok (.l2d, 1) := by decide +kernel
theorem dX2_fromBits_23 : decode cX2_fromBits 23 = .ok (.ddiv, 1) := by decide +kernel
theorem dX2_fromBits_24 : decode cX2_fromBits 24 = .ok (.dstore 7, 2) := by decide +kernel
theorem dX2_fromBits_26 : decode cX2_fromBits 26 = .ok (.lload 5, 2) := by decide +kernel
theorem dX2_fromBits_28 : decode cX2_fromBits 28 = .ok (.iload 4, 2) := by decide +kernel
theorem dX2_fromBits_30 : decode cX2_fromBits 30 = .ok (.invokestatic 41, 3) := by decide +kernel
theorem dX2_fromBits_33 : decode cX2_fromBits 33 = .ok (.lcmp, 1) := by decide +kernel
theorem dX2_fromBits_34 : decode cX2_fromBits 34 = .ok (.ifCond .ne 8, 3) := by decide +kernel
theorem dX2_fromBits_37 : decode cX2_fromBits 37 = .ok (.aload_n 0, 1) := by decide +kernel
theorem dX2_fromBits_38 : decode cX2_fromBits 38 = .ok (.getfield 15, 3) := by decide +kernel
theorem dX2_fromBits_41 : decode cX2_fromBits 41 = .ok (.dreturn, 1) := by decide +kernel
theorem dX2_fromBits_42 : decode cX2_fromBits 42 = .ok (.lload 5, 2) := by decide +kernel
theorem dX2_fromBits_44 : decode cX2_fromBits 44 = .ok (.lconst 0, 1) := by decide +kernel
theorem dX2_fromBits_45 : decode cX2_fromBits 45 = .ok (.lcmp, 1) := by decide +kernel
theorem dX2_fromBits_46 : decode cX2_fromBits 46 = .ok (.ifCond .ne 16, 3) := by decide +kernel
theorem dX2_fromBits_49 : decode cX2_fromBits 49 = .ok (.aload_n 0, 1) := by decide +kernel
theorem dX2_fromBits_50 : decode cX2_fromBits 50 = .ok (.dload 7, 2) := by decide +kernel
theorem dX2_fromBits_52 : decode cX2_fromBits 52 = .ok (.iconst 1, 1) := by decide +kernel
theorem dX2_fromBits_53 : decode cX2_fromBits 53 = .ok (.iload 4, 2) := by decide +kernel
theorem dX2_fromBits_55 : decode cX2_fromBits 55 = .ok (.isub, 1) := by decide +kernel
theorem dX2_fromBits_56 : decode cX2_fromBits 56 = .ok (.invokevirtual 45, 3) := by decide +kernel
theorem dX2_fromBits_59 : decode cX2_fromBits 59 = .ok (.goto 17, 3) := by decide +kernel
theorem dX2_fromBits_62 : decode cX2_fromBits 62 = .ok (.aload_n 0, 1) := by decide +kernel
theorem dX2_fromBits_63 : decode cX2_fromBits 63 = .ok (.dconst 1, 1) := by decide +kernel
theorem dX2_fromBits_64 : decode cX2_fromBits 64 = .ok (.dload 7, 2) := by decide +kernel
theorem dX2_fromBits_66 : decode cX2_fromBits 66 = .ok (.dadd, 1) := by decide +kernel
theorem dX2_fromBits_67 : decode cX2_fromBits 67 = .ok (.lload 5, 2) := by decide +kernel
theorem dX2_fromBits_69 : decode cX2_fromBits 69 = .ok (.l2i, 1) := by decide +kernel
theorem dX2_fromBits_70 : decode cX2_fromBits 70 = .ok (.iload 4, 2) := by decide +kernel
theorem dX2_fromBits_72 : decode cX2_fromBits 72 = .ok (.isub, 1) := by decide +kernel
theorem dX2_fromBits_73 : decode cX2_fromBits 73 = .ok (.invokevirtual 45, 3) := by decide +kernel
theorem dX2_fromBits_76 : decode cX2_fromBits 76 = .ok (.dreturn, 1) := by decide +kernel
theorem dX2_magnitude_0 : decode cX2_magnitude 0 = .ok (.dload_n 1, 1) := by decide +kernel
theorem dX2_magnitude_1 : decode cX2_magnitude 1 = .ok (.dconst 0, 1) := by decide +kernel
theorem dX2_magnitude_2 : decode cX2_magnitude 2 = .ok (.dcmp .g, 1) := by decide +kernel
theorem dX2_magnitude_3 : decode cX2_magnitude 3 = .ok (.ifCond .ge 8, 3) := by decide +kernel
theorem dX2_magnitude_6 : decode cX2_magnitude 6 = .ok (.dload_n 1, 1) := by decide +kernel
theorem dX2_magnitude_7 : decode cX2_magnitude 7 = .ok (.dneg, 1) := by decide +kernel
theorem dX2_magnitude_8 : decode cX2_magnitude 8 = .ok (.goto 4, 3) := by decide +kernel
theorem dX2_magnitude_11 : decode cX2_magnitude 11 = .ok (.dload_n 1, 1) := by decide +kernel
theorem dX2_magnitude_12 : decode cX2_magnitude 12 = .ok (.dstore 5, 2) := by decide +kernel
theorem dX2_magnitude_14 : decode cX2_magnitude 14 = .ok (.dload 5, 2) := by decide +kernel
theorem dX2_magnitude_16 : decode cX2_magnitude 16 = .ok (.dconst 0, 1) := by decide +kernel
theorem dX2_magnitude_17 : decode cX2_magnitude 17 = .ok (.dcmp .l, 1) := by decide +kernel
theorem dX2_magnitude_18 : decode cX2_magnitude 18 = .ok (.ifCond .ne 5, 3) := by decide +kernel
theorem dX2_magnitude_21 : decode cX2_magnitude 21 = .ok (.lconst 0, 1) := by decide +kernel
theorem dX2_magnitude_22 : decode cX2_magnitude 22 = .ok (.lreturn, 1) := by decide +kernel
theorem dX2_magnitude_23 : decode cX2_magnitude 23 = .ok (.dload 5, 2) := by decide +kernel
theorem dX2_magnitude_25 : decode cX2_magnitude 25 = .ok (.aload_n 0, 1) := by decide +kernel
theorem dX2_magnitude_26 : decode cX2_magnitude 26 = .ok (.getfield 15, 3) := by decide +kernel
theorem dX2_magnitude_29 : decode cX2_magnitude 29 = .ok (.dcmp .l, 1) := by decide +kernel
theorem dX2_magnitude_30 : decode cX2_magnitude 30 = .ok (.ifCond .ne 11, 3) := by decide +kernel
theorem dX2_magnitude_33 : decode cX2_magnitude 33 = .ok (.iload 4, 2) := by decide +kernel
theorem dX2_magnitude_35 : decode cX2_magnitude 35 = .ok (.invokestatic 41, 3) := by decide +kernel
theorem dX2_magnitude_38 : decode cX2_magnitude 38 = .ok (.iload_n 3, 1) := by decide +kernel
theorem dX2_magnitude_39 : decode cX2_magnitude 39 = .ok (.lshl, 1) := by decide +kernel
theorem dX2_magnitude_40 : decode cX2_magnitude 40 = .ok (.lreturn, 1) := by decide +kernel
theorem dX2_magnitude_41 : decode cX2_magnitude 41 = .ok (.aload_n 0, 1) := by decide +kernel
theorem dX2_magnitude_42 : decode cX2_magnitude 42 = .ok (.dload 5, 2) := by decide +kernel
theorem dX2_magnitude_44 : decode cX2_magnitude 44 = .ok (.invokevirtual 49, 3) := by decide +kernel
theorem dX2_magnitude_47 : decode cX2_magnitude 47 = .ok (.istore 7, 2) := by decide +kernel
theorem dX2_magnitude_49 : decode cX2_magnitude 49 = .ok (.lconst 1, 1) := by decide +kernel
theorem dX2_magnitude_50 : decode cX2_magnitude 50 = .ok (.iload_n 3, 1) := by decide +kernel
theorem dX2_magnitude_51 : decode cX2_magnitude 51 = .ok (.lshl, 1) := by decide +kernel
theorem dX2_magnitude_52 : decode cX2_magnitude 52 = .ok (.l2d, 1) := by decide +kernel
theorem dX2_magnitude_53 : decode cX2_magnitude 53 = .ok (.dstore 8, 2) := by decide +kernel
theorem dX2_magnitude_55 : decode cX2_magnitude 55 = .ok (.iload 7, 2) := by decide +kernel
theorem dX2_magnitude_57 : decode cX2_magnitude 57 = .ok (.iconst 1, 1) := by decide +kernel
theorem dX2_magnitude_58 : decode cX2_magnitude 58 = .ok (.iload 4, 2) := by decide +kernel
theorem dX2_magnitude_60 : decode cX2_magnitude 60 = .ok (.isub, 1) := by decide +kernel
theorem dX2_magnitude_61 : decode cX2_magnitude 61 = .ok (.if_icmp .ge 18, 3) := by decide +kernel
theorem dX2_magnitude_64 : decode cX2_magnitude 64 = .ok (.aload_n 0, 1) := by decide +kernel
theorem dX2_magnitude_65 : decode cX2_magnitude 65 = .ok (.dload 5, 2) := by decide +kernel
theorem dX2_magnitude_67 : decode cX2_magnitude 67 = .ok (.iload 4, 2) := by decide +kernel
theorem dX2_magnitude_69 : decode cX2_magnitude 69 = .ok (.iconst 1, 1) := by decide +kernel
theorem dX2_magnitude_70 : decode cX2_magnitude 70 = .ok (.isub, 1) := by decide +kernel
theorem dX2_magnitude_71 : decode cX2_magnitude 71 = .ok (.invokevirtual 45, 3) := by decide +kernel
theorem dX2_magnitude_74 : decode cX2_magnitude 74 = .ok (.dload 8, 2) := by decide +kernel
theorem dX2_magnitude_76 : decode cX2_magnitude 76 = .ok (.dmul, 1) := by decide +kernel
theorem dX2_magnitude_77 : decode cX2_magnitude 77 = .ok (.d2l, 1) := by decide +kernel
theorem dX2_magnitude_78 : decode cX2_magnitude 78 = .ok (.lreturn, 1) := by decide +kernel
theorem dX2_magnitude_79 : decode cX2_magnitude 79 = .ok (.iload 7, 2) := by decide +kernel
theorem dX2_magnitude_81 : decode cX2_magnitude 81 = .ok (.iload 4, 2) := by decide +kernel
theorem dX2_magnitude_83 : decode cX2_magnitude 83 = .ok (.iadd, 1) := by decide +kernel
theorem dX2_magnitude_84 : decode cX2_magnitude 84 = .ok (.i2l, 1) := by decide +kernel
theorem dX2_magnitude_85 : decode cX2_magnitude 85 = .ok (.iload_n 3, 1) := by decide +kernel
theorem dX2_magnitude_86 : decode cX2_magnitude 86 = .ok (.lshl, 1) := by decide +kernel
theorem dX2_magnitude_87 : decode cX2_magnitude 87 = .ok (.aload_n 0, 1) := by decide +kernel
theorem dX2_magnitude_88 : decode cX2_magnitude 88 = .ok (.dload 5, 2) := by decide +kernel
theorem dX2_magnitude_90 : decode cX2_magnitude 90 = .ok (.iload 7, 2) := by decide +kernel
theorem dX2_magnitude_92 : decode cX2_magnitude 92 = .ok (.ineg, 1) := by decide +kernel
theorem dX2_magnitude_93 : decode cX2_magnitude 93 = .ok (.invokevirtual 45, 3) := by decide +kernel
theorem dX2_magnitude_96 : decode cX2_magnitude 96 = .ok (.dconst 1, 1) := by decide +kernel
theorem dX2_magnitude_97 : decode cX2_magnitude 97 = .ok (.dsub, 1) := by decide +kernel
theorem dX2_magnitude_98 : decode cX2_magnitude 98 = .ok (.dload 8, 2) := by decide +kernel
theorem dX2_magnitude_100 : decode cX2_magnitude 100 = .ok (.dmul, 1) := by decide +kernel
theorem dX2_magnitude_101 : decode cX2_magnitude 101 = .ok (.d2l, 1) := by decide +kernel
theorem dX2_magnitude_102 : decode cX2_magnitude 102 = .ok (.lor, 1) := by decide +kernel
theorem dX2_magnitude_103 : decode cX2_magnitude 103 = .ok (.lreturn, 1) := by decide +kernel
theorem dX2_exponentOf_0 : decode cX2_exponentOf 0 = .ok (.iconst 0, 1) := by decide +kernel
theorem dX2_exponentOf_1 : decode cX2_exponentOf 1 = .ok (.istore_n 3, 1) := by decide +kernel
theorem dX2_exponentOf_2 : decode cX2_exponentOf 2 = .ok (.dload_n 1, 1) := by decide +kernel
theorem dX2_exponentOf_3 : decode cX2_exponentOf 3 = .ok (.dstore 4, 2) := by decide +kernel
theorem dX2_exponentOf_5 : decode cX2_exponentOf 5 = .ok (.dload_n 1, 1) := by decide +kernel
theorem dX2_exponentOf_6 : decode cX2_exponentOf 6 = .ok (.dconst 1, 1) := by decide +kernel
theorem dX2_exponentOf_7 : decode cX2_exponentOf 7 = .ok (.dcmp .l, 1) := by decide +kernel
theorem dX2_exponentOf_8 : decode cX2_exponentOf 8 = .ok (.ifCond .lt 7, 3) := by decide +kernel
theorem dX2_exponentOf_11 : decode cX2_exponentOf 11 = .ok (.iconst 1, 1) := by decide +kernel
theorem dX2_exponentOf_12 : decode cX2_exponentOf 12 = .ok (.goto 4, 3) := by decide +kernel
theorem dX2_exponentOf_15 : decode cX2_exponentOf 15 = .ok (.iconst 0, 1) := by decide +kernel
theorem dX2_exponentOf_16 : decode cX2_exponentOf 16 = .ok (.istore 6, 2) := by decide +kernel
theorem dX2_exponentOf_18 : decode cX2_exponentOf 18 = .ok (.bipush 9, 2) := by decide +kernel
theorem dX2_exponentOf_20 : decode cX2_exponentOf 20 = .ok (.istore 7, 2) := by decide +kernel
theorem dX2_exponentOf_22 : decode cX2_exponentOf 22 = .ok (.iload 7, 2) := by decide +kernel
theorem dX2_exponentOf_24 : decode cX2_exponentOf 24 = .ok (.ifCond .lt 90, 3) := by decide +kernel
theorem dX2_exponentOf_27 : decode cX2_exponentOf 27 = .ok (.iload 6, 2) := by decide +kernel
theorem dX2_exponentOf_29 : decode cX2_exponentOf 29 = .ok (.ifCond .eq 38, 3) := by decide +kernel
theorem dX2_exponentOf_32 : decode cX2_exponentOf 32 = .ok (.dload 4, 2) := by decide +kernel
theorem dX2_exponentOf_34 : decode cX2_exponentOf 34 = .ok (.aload_n 0, 1) := by decide +kernel
theorem dX2_exponentOf_35 : decode cX2_exponentOf 35 = .ok (.getfield 9, 3) := by decide +kernel
theorem dX2_exponentOf_38 : decode cX2_exponentOf 38 = .ok (.iload 7, 2) := by decide +kernel
theorem dX2_exponentOf_40 : decode cX2_exponentOf 40 = .ok (.daload, 1) := by decide +kernel
theorem dX2_exponentOf_41 : decode cX2_exponentOf 41 = .ok (.dcmp .l, 1) := by decide +kernel
theorem dX2_exponentOf_42 : decode cX2_exponentOf 42 = .ok (.ifCond .lt 25, 3) := by decide +kernel
theorem dX2_exponentOf_45 : decode cX2_exponentOf 45 = .ok (.dload 4, 2) := by decide +kernel
theorem dX2_exponentOf_47 : decode cX2_exponentOf 47 = .ok (.aload_n 0, 1) := by decide +kernel
theorem dX2_exponentOf_48 : decode cX2_exponentOf 48 = .ok (.getfield 9, 3) := by decide +kernel
theorem dX2_exponentOf_51 : decode cX2_exponentOf 51 = .ok (.iload 7, 2) := by decide +kernel
theorem dX2_exponentOf_53 : decode cX2_exponentOf 53 = .ok (.daload, 1) := by decide +kernel
theorem dX2_exponentOf_54 : decode cX2_exponentOf 54 = .ok (.ddiv, 1) := by decide +kernel
theorem dX2_exponentOf_55 : decode cX2_exponentOf 55 = .ok (.dstore 4, 2) := by decide +kernel
theorem dX2_exponentOf_57 : decode cX2_exponentOf 57 = .ok (.iload_n 3, 1) := by decide +kernel
theorem dX2_exponentOf_58 : decode cX2_exponentOf 58 = .ok (.iconst 1, 1) := by decide +kernel
theorem dX2_exponentOf_59 : decode cX2_exponentOf 59 = .ok (.iload 7, 2) := by decide +kernel
theorem dX2_exponentOf_61 : decode cX2_exponentOf 61 = .ok (.ishl, 1) := by decide +kernel
theorem dX2_exponentOf_62 : decode cX2_exponentOf 62 = .ok (.iadd, 1) := by decide +kernel
theorem dX2_exponentOf_63 : decode cX2_exponentOf 63 = .ok (.istore_n 3, 1) := by decide +kernel
theorem dX2_exponentOf_64 : decode cX2_exponentOf 64 = .ok (.goto 44, 3) := by decide +kernel
theorem dX2_exponentOf_67 : decode cX2_exponentOf 67 = .ok (.iload 6, 2) := by decide +kernel
theorem dX2_exponentOf_69 : decode cX2_exponentOf 69 = .ok (.ifCond .ne 39, 3) := by decide +kernel
theorem dX2_exponentOf_72 : decode cX2_exponentOf 72 = .ok (.dload 4, 2) := by decide +kernel
theorem dX2_exponentOf_74 : decode cX2_exponentOf 74 = .ok (.aload_n 0, 1) := by decide +kernel
theorem dX2_exponentOf_75 : decode cX2_exponentOf 75 = .ok (.getfield 9, 3) := by decide +kernel
theorem dX2_exponentOf_78 : decode cX2_exponentOf 78 = .ok (.iload 7, 2) := by decide +kernel
theorem dX2_exponentOf_80 : decode cX2_exponentOf 80 = .ok (.daload, 1) := by decide +kernel
theorem dX2_exponentOf_81 : decode cX2_exponentOf 81 = .ok (.dmul, 1) := by decide +kernel
theorem dX2_exponentOf_82 : decode cX2_exponentOf 82 = .ok (.ldc2_w 13, 3) := by decide +kernel
theorem dX2_exponentOf_85 : decode cX2_exponentOf 85 = .ok (.dcmp .g, 1) := by decide +kernel
theorem dX2_exponentOf_86 : decode cX2_exponentOf 86 = .ok (.ifCond .ge 22, 3) := by decide +kernel
theorem dX2_exponentOf_89 : decode cX2_exponentOf 89 = .ok (.dload 4, 2) := by decide +kernel
theorem dX2_exponentOf_91 : decode cX2_exponentOf 91 = .ok (.aload_n 0, 1) := by decide +kernel
theorem dX2_exponentOf_92 : decode cX2_exponentOf 92 = .ok (.getfield 9, 3) := by decide +kernel
theorem dX2_exponentOf_95 : decode cX2_exponentOf 95 = .ok (.iload 7, 2) := by decide +kernel
theorem dX2_exponentOf_97 : decode cX2_exponentOf 97 = .ok (.daload, 1) := by decide +kernel
theorem dX2_exponentOf_98 : decode cX2_exponentOf 98 = .ok (.dmul, 1) := by decide +kernel
theorem dX2_exponentOf_99 : decode cX2_exponentOf 99 = .ok (.dstore 4, 2) := by decide +kernel
theorem dX2_exponentOf_101 : decode cX2_exponentOf 101 = .ok (.iload_n 3, 1) := by decide +kernel
theorem dX2_exponentOf_102 : decode cX2_exponentOf 102 = .ok (.iconst 1, 1) := by decide +kernel
theorem dX2_exponentOf_103 : decode cX2_exponentOf 103 = .ok (.iload 7, 2) := by decide +kernel
theorem dX2_exponentOf_105 : decode cX2_exponentOf 105 = .ok (.ishl, 1) := by decide +kernel
theorem dX2_exponentOf_106 : decode cX2_exponentOf 106 = .ok (.isub, 1) := by decide +kernel
theorem dX2_exponentOf_107 : decode cX2_exponentOf 107 = .ok (.istore_n 3, 1) := by decide +kernel
theorem dX2_exponentOf_108 : decode cX2_exponentOf 108 = .ok (.iinc 7 (-1), 3) := by decide +kernel
theorem dX2_exponentOf_111 : decode cX2_exponentOf 111 = .ok (.goto (-89), 3) := by decide +kernel
theorem dX2_exponentOf_114 : decode cX2_exponentOf 114 = .ok (.iload_n 3, 1) := by decide +kernel
theorem dX2_exponentOf_115 : decode cX2_exponentOf 115 = .ok (.ireturn, 1) := by decide +kernel
theorem dX2_scaled_0 : decode cX2_scaled 0 = .ok (.dload_n 1, 1) := by decide +kernel
theorem dX2_scaled_1 : decode cX2_scaled 1 = .ok (.dstore 4, 2) := by decide +kernel
theorem dX2_scaled_3 : decode cX2_scaled 3 = .ok (.iconst 0, 1) := by decide +kernel
theorem dX2_scaled_4 : decode cX2_scaled 4 = .ok (.istore 6, 2) := by decide +kernel
theorem dX2_scaled_6 : decode cX2_scaled 6 = .ok (.iload 6, 2) := by decide +kernel
theorem dX2_scaled_8 : decode cX2_scaled 8 = .ok (.bipush 10, 2) := by decide +kernel
theorem dX2_scaled_10 : decode cX2_scaled 10 = .ok (.if_icmp .ge 50, 3) := by decide +kernel
theorem dX2_scaled_13 : decode cX2_scaled 13 = .ok (.iload_n 3, 1) := by decide +kernel
theorem dX2_scaled_14 : decode cX2_scaled 14 = .ok (.invokestatic 53, 3) := by decide +kernel
theorem dX2_scaled_17 : decode cX2_scaled 17 = .ok (.iload 6, 2) := by decide +kernel
theorem dX2_scaled_19 : decode cX2_scaled 19 = .ok (.ishr, 1) := by decide +kernel
theorem dX2_scaled_20 : decode cX2_scaled 20 = .ok (.iconst 1, 1) := by decide +kernel
theorem dX2_scaled_21 : decode cX2_scaled 21 = .ok (.iand, 1) := by decide +kernel
theorem dX2_scaled_22 : decode cX2_scaled 22 = .ok (.ifCond .eq 32, 3) := by decide +kernel
theorem dX2_scaled_25 : decode cX2_scaled 25 = .ok (.iload_n 3, 1) := by decide +kernel
theorem dX2_scaled_26 : decode cX2_scaled 26 = .ok (.ifCond .le 16, 3) := by decide +kernel
theorem dX2_scaled_29 : decode cX2_scaled 29 = .ok (.dload 4, 2) := by decide +kernel
theorem dX2_scaled_31 : decode cX2_scaled 31 = .ok (.aload_n 0, 1) := by decide +kernel
theorem dX2_scaled_32 : decode cX2_scaled 32 = .ok (.getfield 9, 3) := by decide +kernel
theorem dX2_scaled_35 : decode cX2_scaled 35 = .ok (.iload 6, 2) := by decide +kernel
theorem dX2_scaled_37 : decode cX2_scaled 37 = .ok (.daload, 1) := by decide +kernel
theorem dX2_scaled_38 : decode cX2_scaled 38 = .ok (.dmul, 1) := by decide +kernel
theorem dX2_scaled_39 : decode cX2_scaled 39 = .ok (.goto 13, 3) := by decide +kernel
theorem dX2_scaled_42 : decode cX2_scaled 42 = .ok (.dload 4, 2) := by decide +kernel
theorem dX2_scaled_44 : decode cX2_scaled 44 = .ok (.aload_n 0, 1) := by decide +kernel
theorem dX2_scaled_45 : decode cX2_scaled 45 = .ok (.getfield 9, 3) := by decide +kernel
theorem dX2_scaled_48 : decode cX2_scaled 48 = .ok (.iload 6, 2) := by decide +kernel
theorem dX2_scaled_50 : decode cX2_scaled 50 = .ok (.daload, 1) := by decide +kernel
theorem dX2_scaled_51 : decode cX2_scaled 51 = .ok (.ddiv, 1) := by decide +kernel
theorem dX2_scaled_52 : decode cX2_scaled 52 = .ok (.dstore 4, 2) := by decide +kernel
theorem dX2_scaled_54 : decode cX2_scaled 54 = .ok (.iinc 6 1, 3) := by decide +kernel
theorem dX2_scaled_57 : decode cX2_scaled 57 = .ok (.goto (-51), 3) := by decide +kernel
theorem dX2_scaled_60 : decode cX2_scaled 60 = .ok (.dload 4, 2) := by decide +kernel
theorem dX2_scaled_62 : decode cX2_scaled 62 = .ok (.dreturn, 1) := by decide +kernel
theorem dX3_init_0 : decode cX3_init 0 = .ok (.aload_n 0, 1) := by decide +kernel
theorem dX3_init_1 : decode cX3_init 1 = .ok (.invokespecial 3, 3) := by decide +kernel
theorem dX3_init_4 : decode cX3_init 4 = .ok (.aload_n 0, 1) := by decide +kernel
theorem dX3_init_5 : decode cX3_init 5 = .ok (.lconst 0, 1) := by decide +kernel
theorem dX3_init_6 : decode cX3_init 6 = .ok (.putfield 9, 3) := by decide +kernel
theorem dX3_init_9 : decode cX3_init 9 = .ok (.aload_n 0, 1) := by decide +kernel
theorem dX3_init_10 : decode cX3_init 10 = .ok (.lconst 1, 1) := by decide +kernel
theorem dX3_init_11 : decode cX3_init 11 = .ok (.putfield 15, 3) := by decide +kernel
theorem dX3_init_14 : decode cX3_init 14 = .ok (.return_, 1) := by decide +kernel
theorem dX3_copy_0 : decode cX3_copy 0 = .ok (.aload_n 0, 1) := by decide +kernel
theorem dX3_copy_1 : decode cX3_copy 1 = .ok (.aload_n 1, 1) := by decide +kernel
theorem dX3_copy_2 : decode cX3_copy 2 = .ok (.getfield 9, 3) := by decide +kernel
theorem dX3_copy_5 : decode cX3_copy 5 = .ok (.putfield 9, 3) := by decide +kernel
theorem dX3_copy_8 : decode cX3_copy 8 = .ok (.aload_n 0, 1) := by decide +kernel
theorem dX3_copy_9 : decode cX3_copy 9 = .ok (.aload_n 1, 1) := by decide +kernel
theorem dX3_copy_10 : decode cX3_copy 10 = .ok (.getfield 15, 3) := by decide +kernel
theorem dX3_copy_13 : decode cX3_copy 13 = .ok (.putfield 15, 3) := by decide +kernel
theorem dX3_copy_16 : decode cX3_copy 16 = .ok (.return_, 1) := by decide +kernel
theorem dX3_set_0 : decode cX3_set 0 = .ok (.lload_n 1, 1) := by decide +kernel
theorem dX3_set_1 : decode cX3_set 1 = .ok (.lload_n 3, 1) := by decide +kernel
theorem dX3_set_2 : decode cX3_set 2 = .ok (.invokestatic 18, 3) := by decide +kernel
theorem dX3_set_5 : decode cX3_set 5 = .ok (.lstore 5, 2) := by decide +kernel
theorem dX3_set_7 : decode cX3_set 7 = .ok (.aload_n 0, 1) := by decide +kernel
theorem dX3_set_8 : decode cX3_set 8 = .ok (.lload_n 1, 1) := by decide +kernel
theorem dX3_set_9 : decode cX3_set 9 = .ok (.lload 5, 2) := by decide +kernel
theorem dX3_set_11 : decode cX3_set 11 = .ok (.ldiv, 1) := by decide +kernel
theorem dX3_set_12 : decode cX3_set 12 = .ok (.putfield 9, 3) := by decide +kernel
theorem dX3_set_15 : decode cX3_set 15 = .ok (.aload_n 0, 1) := by decide +kernel
theorem dX3_set_16 : decode cX3_set 16 = .ok (.lload_n 3, 1) := by decide +kernel
theorem dX3_set_17 : decode cX3_set 17 = .ok (.lload 5, 2) := by decide +kernel
theorem dX3_set_19 : decode cX3_set 19 = .ok (.ldiv, 1) := by decide +kernel
theorem dX3_set_20 : decode cX3_set 20 = .ok (.putfield 15, 3) := by decide +kernel
theorem dX3_set_23 : decode cX3_set 23 = .ok (.return_, 1) := by decide +kernel
theorem dX3_cutToWhole_0 : decode cX3_cutToWhole 0 = .ok (.aload_n 0, 1) := by decide +kernel
theorem dX3_cutToWhole_1 : decode cX3_cutToWhole 1 = .ok (.getfield 15, 3) := by decide +kernel
theorem dX3_cutToWhole_4 : decode cX3_cutToWhole 4 = .ok (.lconst 0, 1) := by decide +kernel
theorem dX3_cutToWhole_5 : decode cX3_cutToWhole 5 = .ok (.lcmp, 1) := by decide +kernel
theorem dX3_cutToWhole_6 : decode cX3_cutToWhole 6 = .ok (.ifCond .eq 21, 3) := by decide +kernel
theorem dX3_cutToWhole_9 : decode cX3_cutToWhole 9 = .ok (.aload_n 0, 1) := by decide +kernel
theorem dX3_cutToWhole_10 : decode cX3_cutToWhole 10 = .ok (.aload_n 0, 1) := by decide +kernel
theorem dX3_cutToWhole_11 : decode cX3_cutToWhole 11 = .ok (.getfield 9, 3) := by decide +kernel
theorem dX3_cutToWhole_14 : decode cX3_cutToWhole 14 = .ok (.aload_n 0, 1) := by decide +kernel
theorem dX3_cutToWhole_15 : decode cX3_cutToWhole 15 = .ok (.getfield 15, 3) := by decide +kernel
theorem dX3_cutToWhole_18 : decode cX3_cutToWhole 18 = .ok (.ldiv, 1) := by decide +kernel
theorem dX3_cutToWhole_19 : decode cX3_cutToWhole 19 = .ok (.putfield 9, 3) := by decide +kernel
theorem dX3_cutToWhole_22 : decode cX3_cutToWhole 22 = .ok (.aload_n 0, 1) := by decide +kernel
theorem dX3_cutToWhole_23 : decode cX3_cutToWhole 23 = .ok (.lconst 1, 1) := by decide +kernel
theorem dX3_cutToWhole_24 : decode cX3_cutToWhole 24 = .ok (.putfield 15, 3) := by decide +kernel
theorem dX3_cutToWhole_27 : decode cX3_cutToWhole 27 = .ok (.return_, 1) := by decide +kernel
theorem dX3_part_0 : decode cX3_part 0 = .ok (.iload_n 1, 1) := by decide +kernel
theorem dX3_part_1 : decode cX3_part 1 = .ok (.ifCond .ne 10, 3) := by decide +kernel
theorem dX3_part_4 : decode cX3_part 4 = .ok (.aload_n 0, 1) := by decide +kernel
theorem dX3_part_5 : decode cX3_part 5 = .ok (.getfield 9, 3) := by decide +kernel
theorem dX3_part_8 : decode cX3_part 8 = .ok (.goto 18, 3) := by decide +kernel
theorem dX3_part_11 : decode cX3_part 11 = .ok (.iload_n 1, 1) := by decide +kernel
theorem dX3_part_12 : decode cX3_part 12 = .ok (.iconst 1, 1) := by decide +kernel
theorem dX3_part_13 : decode cX3_part 13 = .ok (.if_icmp .ne 10, 3) := by decide +kernel
theorem dX3_part_16 : decode cX3_part 16 = .ok (.aload_n 0, 1) := by decide +kernel
theorem dX3_part_17 : decode cX3_part 17 = .ok (.getfield 15, 3) := by decide +kernel
theorem dX3_part_20 : decode cX3_part 20 = .ok (.goto 6, 3) := by decide +kernel
theorem dX3_part_23 : decode cX3_part 23 = .ok (.ldc2_w 22, 3) := by decide +kernel
theorem dX3_part_26 : decode cX3_part 26 = .ok (.lreturn, 1) := by decide +kernel
theorem dX3_asDouble_0 : decode cX3_asDouble 0 = .ok (.aload_n 0, 1) := by decide +kernel
theorem dX3_asDouble_1 : decode cX3_asDouble 1 = .ok (.getfield 9, 3) := by decide +kernel
theorem dX3_asDouble_4 : decode cX3_asDouble 4 = .ok (.l2d, 1) := by decide +kernel
theorem dX3_asDouble_5 : decode cX3_asDouble 5 = .ok (.aload_n 0, 1) := by decide +kernel
theorem dX3_asDouble_6 : decode cX3_asDouble 6 = .ok (.getfield 15, 3) := by decide +kernel
theorem dX3_asDouble_9 : decode cX3_asDouble 9 = .ok (.l2d, 1) := by decide +kernel
theorem dX3_asDouble_10 : decode cX3_asDouble 10 = .ok (.ddiv, 1) := by decide +kernel
theorem dX3_asDouble_11 : decode cX3_asDouble 11 = .ok (.dreturn, 1) := by decide +kernel
theorem dX3_multiply_0 : decode cX3_multiply 0 = .ok (.aload_n 0, 1) := by decide +kernel
theorem dX3_multiply_1 : decode cX3_multiply 1 = .ok (.aload_n 1, 1) := by decide +kernel
theorem dX3_multiply_2 : decode cX3_multiply 2 = .ok (.getfield 9, 3) := by decide +kernel
theorem dX3_multiply_5 : decode cX3_multiply 5 = .ok (.aload_n 1, 1) := by decide +kernel
theorem dX3_multiply_6 : decode cX3_multiply 6 = .ok (.getfield 15, 3) := by decide +kernel
theorem dX3_multiply_9 : decode cX3_multiply 9 = .ok (.invokevirtual 24, 3) := by decide +kernel
theorem dX3_multiply_12 : decode cX3_multiply 12 = .ok (.ireturn, 1) := by decide +kernel
theorem dX3_divide_0 : decode cX3_divide 0 = .ok (.aload_n 1, 1) := by decide +kernel
theorem dX3_divide_1 : decode cX3_divide 1 = .ok (.getfield 9, 3) := by decide +kernel
theorem dX3_divide_4 : decode cX3_divide 4 = .ok (.lconst 0, 1) := by decide +kernel
theorem dX3_divide_5 : decode cX3_divide 5 = .ok (.lcmp, 1) := by decide +kernel
theorem dX3_divide_6 : decode cX3_divide 6 = .ok (.ifCond .ne 5, 3) := by decide +kernel
theorem dX3_divide_9 : decode cX3_divide 9 = .ok (.iconst 0, 1) := by decide +kernel
theorem dX3_divide_10 : decode cX3_divide 10 = .ok (.ireturn, 1) := by decide +kernel
theorem dX3_divide_11 : decode cX3_divide 11 = .ok (.aload_n 1, 1) := by decide +kernel
theorem dX3_divide_12 : decode cX3_divide 12 = .ok (.getfield 9, 3) := by decide +kernel
theorem dX3_divide_15 : decode cX3_divide 15 = .ok (.lconst 0, 1) := by decide +kernel
theorem dX3_divide_16 : decode cX3_divide 16 = .ok (.lcmp, 1) := by decide +kernel
theorem dX3_divide_17 : decode cX3_divide 17 = .ok (.ifCond .ge 20, 3) := by decide +kernel
theorem dX3_divide_20 : decode cX3_divide 20 = .ok (.aload_n 0, 1) := by decide +kernel
theorem dX3_divide_21 : decode cX3_divide 21 = .ok (.aload_n 1, 1) := by decide +kernel
theorem dX3_divide_22 : decode cX3_divide 22 = .ok (.getfield 15, 3) := by decide +kernel
theorem dX3_divide_25 : decode cX3_divide 25 = .ok (.lneg, 1) := by decide +kernel
theorem dX3_divide_26 : decode cX3_divide 26 = .ok (.aload_n 1, 1) := by decide +kernel
theorem dX3_divide_27 : decode cX3_divide 27 = .ok (.getfield 9, 3) := by decide +kernel
theorem dX3_divide_30 : decode cX3_divide 30 = .ok (.lneg, 1) := by decide +kernel
theorem dX3_divide_31 : decode cX3_divide 31 = .ok (.invokevirtual 24, 3) := by decide +kernel
theorem dX3_divide_34 : decode cX3_divide 34 = .ok (.goto 15, 3) := by decide +kernel
theorem dX3_divide_37 : decode cX3_divide 37 = .ok (.aload_n 0, 1) := by decide +kernel
theorem dX3_divide_38 : decode cX3_divide 38 = .ok (.aload_n 1, 1) := by decide +kernel
theorem dX3_divide_39 : decode cX3_divide 39 = .ok (.getfield 15, 3) := by decide +kernel
theorem dX3_divide_42 : decode cX3_divide 42 = .ok (.aload_n 1, 1) := by decide +kernel
theorem dX3_divide_43 : decode cX3_divide 43 = .ok (.getfield 9, 3) := by decide +kernel
theorem dX3_divide_46 : decode cX3_divide 46 = .ok (.invokevirtual 24, 3) := by decide +kernel
theorem dX3_divide_49 : decode cX3_divide 49 = .ok (.ireturn, 1) := by decide +kernel
theorem dX3_multiplyBy_0 : decode cX3_multiplyBy 0 = .ok (.aload_n 0, 1) := by decide +kernel
theorem dX3_multiplyBy_1 : decode cX3_multiplyBy 1 = .ok (.getfield 9, 3) := by decide +kernel
theorem dX3_multiplyBy_4 : decode cX3_multiplyBy 4 = .ok (.lload_n 3, 1) := by decide +kernel
theorem dX3_multiplyBy_5 : decode cX3_multiplyBy 5 = .ok (.invokestatic 18, 3) := by decide +kernel
theorem dX3_multiplyBy_8 : decode cX3_multiplyBy 8 = .ok (.lstore 5, 2) := by decide +kernel
theorem dX3_multiplyBy_10 : decode cX3_multiplyBy 10 = .ok (.lload_n 1, 1) := by decide +kernel
theorem dX3_multiplyBy_11 : decode cX3_multiplyBy 11 = .ok (.aload_n 0, 1) := by decide +kernel
theorem dX3_multiplyBy_12 : decode cX3_multiplyBy 12 = .ok (.getfield 15, 3) := by decide +kernel
theorem dX3_multiplyBy_15 : decode cX3_multiplyBy 15 = .ok (.invokestatic 18, 3) := by decide +kernel
theorem dX3_multiplyBy_18 : decode cX3_multiplyBy 18 = .ok (.lstore 7, 2) := by decide +kernel
theorem dX3_multiplyBy_20 : decode cX3_multiplyBy 20 = .ok (.aload_n 0, 1) := by decide +kernel
theorem dX3_multiplyBy_21 : decode cX3_multiplyBy 21 = .ok (.getfield 9, 3) := by decide +kernel
theorem dX3_multiplyBy_24 : decode cX3_multiplyBy 24 = .ok (.lload 5, 2) := by decide +kernel
theorem dX3_multiplyBy_26 : decode cX3_multiplyBy 26 = .ok (.ldiv, 1) := by decide +kernel
theorem dX3_multiplyBy_27 : decode cX3_multiplyBy 27 = .ok (.lload_n 1, 1) := by decide +kernel
theorem dX3_multiplyBy_28 : decode cX3_multiplyBy 28 = .ok (.lload 7, 2) := by decide +kernel
theorem dX3_multiplyBy_30 : decode cX3_multiplyBy 30 = .ok (.ldiv, 1) := by decide +kernel
theorem dX3_multiplyBy_31 : decode cX3_multiplyBy 31 = .ok (.invokestatic 28, 3) := by decide +kernel
theorem dX3_multiplyBy_34 : decode cX3_multiplyBy 34 = .ok (.lstore 9, 2) := by decide +kernel
theorem dX3_multiplyBy_36 : decode cX3_multiplyBy 36 = .ok (.aload_n 0, 1) := by decide +kernel
theorem dX3_multiplyBy_37 : decode cX3_multiplyBy 37 = .ok (.getfield 15, 3) := by decide +kernel
theorem dX3_multiplyBy_40 : decode cX3_multiplyBy 40 = .ok (.lload 7, 2) := by decide +kernel
theorem dX3_multiplyBy_42 : decode cX3_multiplyBy 42 = .ok (.ldiv, 1) := by decide +kernel
theorem dX3_multiplyBy_43 : decode cX3_multiplyBy 43 = .ok (.lload_n 3, 1) := by decide +kernel
theorem dX3_multiplyBy_44 : decode cX3_multiplyBy 44 = .ok (.lload 5, 2) := by decide +kernel
theorem dX3_multiplyBy_46 : decode cX3_multiplyBy 46 = .ok (.ldiv, 1) := by decide +kernel
theorem dX3_multiplyBy_47 : decode cX3_multiplyBy 47 = .ok (.invokestatic 28, 3) := by decide +kernel
theorem dX3_multiplyBy_50 : decode cX3_multiplyBy 50 = .ok (.lstore 11, 2) := by decide +kernel
theorem dX3_multiplyBy_52 : decode cX3_multiplyBy 52 = .ok (.lload 9, 2) := by decide +kernel
theorem dX3_multiplyBy_54 : decode cX3_multiplyBy 54 = .ok (.ldc2_w 22, 3) := by decide +kernel
theorem dX3_multiplyBy_57 : decode cX3_multiplyBy 57 = .ok (.lcmp, 1) := by decide +kernel
theorem dX3_multiplyBy_58 : decode cX3_multiplyBy 58 = .ok (.ifCond .eq 12, 3) := by decide +kernel
theorem dX3_multiplyBy_61 : decode cX3_multiplyBy 61 = .ok (.lload 11, 2) := by decide +kernel
theorem dX3_multiplyBy_63 : decode cX3_multiplyBy 63 = .ok (.ldc2_w 22, 3) := by decide +kernel
theorem dX3_multiplyBy_66 : decode cX3_multiplyBy 66 = .ok (.lcmp, 1) := by decide +kernel
theorem dX3_multiplyBy_67 : decode cX3_multiplyBy 67 = .ok (.ifCond .ne 5, 3) := by decide +kernel
theorem dX3_multiplyBy_70 : decode cX3_multiplyBy 70 = .ok (.iconst 0, 1) := by decide +kernel
theorem dX3_multiplyBy_71 : decode cX3_multiplyBy 71 = .ok (.ireturn, 1) := by decide +kernel
theorem dX3_multiplyBy_72 : decode cX3_multiplyBy 72 = .ok (.aload_n 0, 1) := by decide +kernel
theorem dX3_multiplyBy_73 : decode cX3_multiplyBy 73 = .ok (.lload 9, 2) := by decide +kernel
theorem dX3_multiplyBy_75 : decode cX3_multiplyBy 75 = .ok (.putfield 9, 3) := by decide +kernel
theorem dX3_multiplyBy_78 : decode cX3_multiplyBy 78 = .ok (.aload_n 0, 1) := by decide +kernel
theorem dX3_multiplyBy_79 : decode cX3_multiplyBy 79 = .ok (.lload 11, 2) := by decide +kernel
theorem dX3_multiplyBy_81 : decode cX3_multiplyBy 81 = .ok (.putfield 15, 3) := by decide +kernel
theorem dX3_multiplyBy_84 : decode cX3_multiplyBy 84 = .ok (.iconst 1, 1) := by decide +kernel
theorem dX3_multiplyBy_85 : decode cX3_multiplyBy 85 = .ok (.ireturn, 1) := by decide +kernel
theorem dX3_add_0 : decode cX3_add 0 = .ok (.aload_n 0, 1) := by decide +kernel
theorem dX3_add_1 : decode cX3_add 1 = .ok (.aload_n 1, 1) := by decide +kernel
theorem dX3_add_2 : decode cX3_add 2 = .ok (.getfield 9, 3) := by decide +kernel
theorem dX3_add_5 : decode cX3_add 5 = .ok (.aload_n 1, 1) := by decide +kernel
theorem dX3_add_6 : decode cX3_add 6 = .ok (.getfield 15, 3) := by decide +kernel
theorem dX3_add_9 : decode cX3_add 9 = .ok (.invokevirtual 31, 3) := by decide +kernel
theorem dX3_add_12 : decode cX3_add 12 = .ok (.ireturn, 1) := by decide +kernel
theorem dX3_subtract_0 : decode cX3_subtract 0 = .ok (.aload_n 0, 1) := by decide +kernel
theorem dX3_subtract_1 : decode cX3_subtract 1 = .ok (.aload_n 1, 1) := by decide +kernel
theorem dX3_subtract_2 : decode cX3_subtract 2 = .ok (.getfield 9, 3) := by decide +kernel
theorem dX3_subtract_5 : decode cX3_subtract 5 = .ok (.lneg, 1) := by decide +kernel
theorem dX3_subtract_6 : decode cX3_subtract 6 = .ok (.aload_n 1, 1) := by decide +kernel
theorem dX3_subtract_7 : decode cX3_subtract 7 = .ok (.getfield 15, 3) := by decide +kernel
theorem dX3_subtract_10 : decode cX3_subtract 10 = .ok (.invokevirtual 31, 3) := by decide +kernel
theorem dX3_subtract_13 : decode cX3_subtract 13 = .ok (.ireturn, 1) := by decide +kernel
theorem dX3_addUp_0 : decode cX3_addUp 0 = .ok (.aload_n 0, 1) := by decide +kernel
theorem dX3_addUp_1 : decode cX3_addUp 1 = .ok (.getfield 15, 3) := by decide +kernel
theorem dX3_addUp_4 : decode cX3_addUp 4 = .ok (.lload_n 3, 1) := by decide +kernel
theorem dX3_addUp_5 : decode cX3_addUp 5 = .ok (.invokestatic 18, 3) := by decide +kernel
theorem dX3_addUp_8 : decode cX3_addUp 8 = .ok (.lstore 5, 2) := by decide +kernel
theorem dX3_addUp_10 : decode cX3_addUp 10 = .ok (.aload_n 0, 1) := by decide +kernel
theorem dX3_addUp_11 : decode cX3_addUp 11 = .ok (.getfield 9, 3) := by decide +kernel
theorem dX3_addUp_14 : decode cX3_addUp 14 = .ok (.lload_n 3, 1) := by decide +kernel
theorem dX3_addUp_15 : decode cX3_addUp 15 = .ok (.lload 5, 2) := by decide +kernel
theorem dX3_addUp_17 : decode cX3_addUp 17 = .ok (.ldiv, 1) := by decide +kernel
theorem dX3_addUp_18 : decode cX3_addUp 18 = .ok (.invokestatic 28, 3) := by decide +kernel
theorem dX3_addUp_21 : decode cX3_addUp 21 = .ok (.lload_n 1, 1) := by decide +kernel
theorem dX3_addUp_22 : decode cX3_addUp 22 = .ok (.aload_n 0, 1) := by decide +kernel
theorem dX3_addUp_23 : decode cX3_addUp 23 = .ok (.getfield 15, 3) := by decide +kernel
theorem dX3_addUp_26 : decode cX3_addUp 26 = .ok (.lload 5, 2) := by decide +kernel
theorem dX3_addUp_28 : decode cX3_addUp 28 = .ok (.ldiv, 1) := by decide +kernel
theorem dX3_addUp_29 : decode cX3_addUp 29 = .ok (.invokestatic 28, 3) := by decide +kernel
theorem dX3_addUp_32 : decode cX3_addUp 32 = .ok (.invokestatic 34, 3) := by decide +kernel
theorem dX3_addUp_35 : decode cX3_addUp 35 = .ok (.lstore 7, 2) := by decide +kernel
theorem dX3_addUp_37 : decode cX3_addUp 37 = .ok (.aload_n 0, 1) := by decide +kernel
theorem dX3_addUp_38 : decode cX3_addUp 38 = .ok (.getfield 15, 3) := by decide +kernel
theorem dX3_addUp_41 : decode cX3_addUp 41 = .ok (.lload_n 3, 1) := by decide +kernel
theorem dX3_addUp_42 : decode cX3_addUp 42 = .ok (.lload 5, 2) := by decide +kernel
theorem dX3_addUp_44 : decode cX3_addUp 44 = .ok (.ldiv, 1) := by decide +kernel
theorem dX3_addUp_45 : decode cX3_addUp 45 = .ok (.invokestatic 28, 3) := by decide +kernel
theorem dX3_addUp_48 : decode cX3_addUp 48 = .ok (.lstore 9, 2) := by decide +kernel
theorem dX3_addUp_50 : decode cX3_addUp 50 = .ok (.lload 7, 2) := by decide +kernel
theorem dX3_addUp_52 : decode cX3_addUp 52 = .ok (.ldc2_w 22, 3) := by decide +kernel
theorem dX3_addUp_55 : decode cX3_addUp 55 = .ok (.lcmp, 1) := by decide +kernel
theorem dX3_addUp_56 : decode cX3_addUp 56 = .ok (.ifCond .eq 12, 3) := by decide +kernel
theorem dX3_addUp_59 : decode cX3_addUp 59 = .ok (.lload 9, 2) := by decide +kernel
theorem dX3_addUp_61 : decode cX3_addUp 61 = .ok (.ldc2_w 22, 3) := by decide +kernel
theorem dX3_addUp_64 : decode cX3_addUp 64 = .ok (.lcmp, 1) := by decide +kernel
theorem dX3_addUp_65 : decode cX3_addUp 65 = .ok (.ifCond .ne 5, 3) := by decide +kernel
theorem dX3_addUp_68 : decode cX3_addUp 68 = .ok (.iconst 0, 1) := by decide +kernel
theorem dX3_addUp_69 : decode cX3_addUp 69 = .ok (.ireturn, 1) := by decide +kernel
theorem dX3_addUp_70 : decode cX3_addUp 70 = .ok (.lload 7, 2) := by decide +kernel
theorem dX3_addUp_72 : decode cX3_addUp 72 = .ok (.lload 9, 2) := by decide +kernel
theorem dX3_addUp_74 : decode cX3_addUp 74 = .ok (.invokestatic 18, 3) := by decide +kernel
theorem dX3_addUp_77 : decode cX3_addUp 77 = .ok (.lstore 11, 2) := by decide +kernel
theorem dX3_addUp_79 : decode cX3_addUp 79 = .ok (.aload_n 0, 1) := by decide +kernel
theorem dX3_addUp_80 : decode cX3_addUp 80 = .ok (.lload 7, 2) := by decide +kernel
theorem dX3_addUp_82 : decode cX3_addUp 82 = .ok (.lload 11, 2) := by decide +kernel
theorem dX3_addUp_84 : decode cX3_addUp 84 = .ok (.ldiv, 1) := by decide +kernel
theorem dX3_addUp_85 : decode cX3_addUp 85 = .ok (.putfield 9, 3) := by decide +kernel
theorem dX3_addUp_88 : decode cX3_addUp 88 = .ok (.aload_n 0, 1) := by decide +kernel
theorem dX3_addUp_89 : decode cX3_addUp 89 = .ok (.lload 9, 2) := by decide +kernel
theorem dX3_addUp_91 : decode cX3_addUp 91 = .ok (.lload 11, 2) := by decide +kernel
theorem dX3_addUp_93 : decode cX3_addUp 93 = .ok (.ldiv, 1) := by decide +kernel
theorem dX3_addUp_94 : decode cX3_addUp 94 = .ok (.putfield 15, 3) := by decide +kernel
theorem dX3_addUp_97 : decode cX3_addUp 97 = .ok (.iconst 1, 1) := by decide +kernel
theorem dX3_addUp_98 : decode cX3_addUp 98 = .ok (.ireturn, 1) := by decide +kernel
theorem dX3_compareWith_0 : decode cX3_compareWith 0 = .ok (.aload_n 0, 1) := by decide +kernel
theorem dX3_compareWith_1 : decode cX3_compareWith 1 = .ok (.getfield 9, 3) := by decide +kernel
theorem dX3_compareWith_4 : decode cX3_compareWith 4 = .ok (.lstore_n 2, 1) := by decide +kernel
theorem dX3_compareWith_5 : decode cX3_compareWith 5 = .ok (.aload_n 0, 1) := by decide +kernel
theorem dX3_compareWith_6 : decode cX3_compareWith 6 = .ok (.getfield 15, 3) := by decide +kernel
theorem dX3_compareWith_9 : decode cX3_compareWith 9 = .ok (.lstore 4, 2) := by decide +kernel
theorem dX3_compareWith_11 : decode cX3_compareWith 11 = .ok (.aload_n 1, 1) := by decide +kernel
theorem dX3_compareWith_12 : decode cX3_compareWith 12 = .ok (.getfield 9, 3) := by decide +kernel
theorem dX3_compareWith_15 : decode cX3_compareWith 15 = .ok (.lstore 6, 2) := by decide +kernel
theorem dX3_compareWith_17 : decode cX3_compareWith 17 = .ok (.aload_n 1, 1) := by decide +kernel
theorem dX3_compareWith_18 : decode cX3_compareWith 18 = .ok (.getfield 15, 3) := by decide +kernel
theorem dX3_compareWith_21 : decode cX3_compareWith 21 = .ok (.lstore 8, 2) := by decide +kernel
theorem dX3_compareWith_23 : decode cX3_compareWith 23 = .ok (.iconst 1, 1) := by decide +kernel
theorem dX3_compareWith_24 : decode cX3_compareWith 24 = .ok (.istore 10, 2) := by decide +kernel
theorem dX3_compareWith_26 : decode cX3_compareWith 26 = .ok (.iconst 0, 1) := by decide +kernel
theorem dX3_compareWith_27 : decode cX3_compareWith 27 = .ok (.istore 11, 2) := by decide +kernel
theorem dX3_compareWith_29 : decode cX3_compareWith 29 = .ok (.iload 11, 2) := by decide +kernel
theorem dX3_compareWith_31 : decode cX3_compareWith 31 = .ok (.sipush 200, 3) := by decide +kernel
theorem dX3_compareWith_34 : decode cX3_compareWith 34 = .ok (.if_icmp .ge 104, 3) := by decide +kernel
theorem dX3_compareWith_37 : decode cX3_compareWith 37 = .ok (.lload 4, 2) := by decide +kernel
theorem dX3_compareWith_39 : decode cX3_compareWith 39 = .ok (.lconst 0, 1) := by decide +kernel
theorem dX3_compareWith_40 : decode cX3_compareWith 40 = .ok (.lcmp, 1) := by decide +kernel
theorem dX3_compareWith_41 : decode cX3_compareWith 41 = .ok (.ifCond .le 97, 3) := by decide +kernel
theorem dX3_compareWith_44 : decode cX3_compareWith 44 = .ok (.lload 8, 2) := by decide +kernel
theorem dX3_compareWith_46 : decode cX3_compareWith 46 = .ok (.lconst 0, 1) := by decide +kernel
theorem dX3_compareWith_47 : decode cX3_compareWith 47 = .ok (.lcmp, 1) := by decide +kernel
theorem dX3_compareWith_48 : decode cX3_compareWith 48 = .ok (.ifCond .le 90, 3) := by decide +kernel
theorem dX3_compareWith_51 : decode cX3_compareWith 51 = .ok (.lload_n 2, 1) := by decide +kernel
theorem dX3_compareWith_52 : decode cX3_compareWith 52 = .ok (.lload 4, 2) := by decide +kernel
theorem dX3_compareWith_54 : decode cX3_compareWith 54 = .ok (.invokestatic 37, 3) := by decide +kernel
theorem dX3_compareWith_57 : decode cX3_compareWith 57 = .ok (.lstore 12, 2) := by decide +kernel
theorem dX3_compareWith_59 : decode cX3_compareWith 59 = .ok (.lload 6, 2) := by decide +kernel
theorem dX3_compareWith_61 : decode cX3_compareWith 61 = .ok (.lload 8, 2) := by decide +kernel
theorem dX3_compareWith_63 : decode cX3_compareWith 63 = .ok (.invokestatic 37, 3) := by decide +kernel
theorem dX3_compareWith_66 : decode cX3_compareWith 66 = .ok (.lstore 14, 2) := by decide +kernel
theorem dX3_compareWith_68 : decode cX3_compareWith 68 = .ok (.lload 12, 2) := by decide +kernel
theorem dX3_compareWith_70 : decode cX3_compareWith 70 = .ok (.lload 14, 2) := by decide +kernel
theorem dX3_compareWith_72 : decode cX3_compareWith 72 = .ok (.lcmp, 1) := by decide +kernel
theorem dX3_compareWith_73 : decode cX3_compareWith 73 = .ok (.ifCond .eq 20, 3) := by decide +kernel
theorem dX3_compareWith_76 : decode cX3_compareWith 76 = .ok (.lload 12, 2) := by decide +kernel
theorem dX3_compareWith_78 : decode cX3_compareWith 78 = .ok (.lload 14, 2) := by decide +kernel
theorem dX3_compareWith_80 : decode cX3_compareWith 80 = .ok (.lcmp, 1) := by decide +kernel
theorem dX3_compareWith_81 : decode cX3_compareWith 81 = .ok (.ifCond .ge 9, 3) := by decide +kernel
theorem dX3_compareWith_84 : decode cX3_compareWith 84 = .ok (.iload 10, 2) := by decide +kernel
theorem dX3_compareWith_86 : decode cX3_compareWith 86 = .ok (.ineg, 1) := by decide +kernel
theorem dX3_compareWith_87 : decode cX3_compareWith 87 = .ok (.goto 5, 3) := by decide +kernel
theorem dX3_compareWith_90 : decode cX3_compareWith 90 = .ok (.iload 10, 2) := by decide +kernel
theorem dX3_compareWith_92 : decode cX3_compareWith 92 = .ok (.ireturn, 1) := by decide +kernel
theorem dX3_compareWith_93 : decode cX3_compareWith 93 = .ok (.lload_n 2, 1) := by decide +kernel
theorem dX3_compareWith_94 : decode cX3_compareWith 94 = .ok (.lload 12, 2) := by decide +kernel
theorem dX3_compareWith_96 : decode cX3_compareWith 96 = .ok (.lload 4, 2) := by decide +kernel
theorem dX3_compareWith_98 : decode cX3_compareWith 98 = .ok (.lmul, 1) := by decide +kernel
theorem dX3_compareWith_99 : decode cX3_compareWith 99 = .ok (.lsub, 1) := by decide +kernel
theorem dX3_compareWith_100 : decode cX3_compareWith 100 = .ok (.lstore 16, 2) := by decide +kernel
theorem dX3_compareWith_102 : decode cX3_compareWith 102 = .ok (.lload 6, 2) := by decide +kernel
theorem dX3_compareWith_104 : decode cX3_compareWith 104 = .ok (.lload 14, 2) := by decide +kernel
theorem dX3_compareWith_106 : decode cX3_compareWith 106 = .ok (.lload 8, 2) := by decide +kernel
theorem dX3_compareWith_108 : decode cX3_compareWith 108 = .ok (.lmul, 1) := by decide +kernel
theorem dX3_compareWith_109 : decode cX3_compareWith 109 = .ok (.lsub, 1) := by decide +kernel
theorem dX3_compareWith_110 : decode cX3_compareWith 110 = .ok (.lstore 18, 2) := by decide +kernel
theorem dX3_compareWith_112 : decode cX3_compareWith 112 = .ok (.lload 4, 2) := by decide +kernel
theorem dX3_compareWith_114 : decode cX3_compareWith 114 = .ok (.lstore_n 2, 1) := by decide +kernel
theorem dX3_compareWith_115 : decode cX3_compareWith 115 = .ok (.lload 16, 2) := by decide +kernel
theorem dX3_compareWith_117 : decode cX3_compareWith 117 = .ok (.lstore 4, 2) := by decide +kernel
theorem dX3_compareWith_119 : decode cX3_compareWith 119 = .ok (.lload 8, 2) := by decide +kernel
theorem dX3_compareWith_121 : decode cX3_compareWith 121 = .ok (.lstore 6, 2) := by decide +kernel
theorem dX3_compareWith_123 : decode cX3_compareWith 123 = .ok (.lload 18, 2) := by decide +kernel
theorem dX3_compareWith_125 : decode cX3_compareWith 125 = .ok (.lstore 8, 2) := by decide +kernel
theorem dX3_compareWith_127 : decode cX3_compareWith 127 = .ok (.iload 10, 2) := by decide +kernel
theorem dX3_compareWith_129 : decode cX3_compareWith 129 = .ok (.ineg, 1) := by decide +kernel
theorem dX3_compareWith_130 : decode cX3_compareWith 130 = .ok (.istore 10, 2) := by decide +kernel
theorem dX3_compareWith_132 : decode cX3_compareWith 132 = .ok (.iinc 11 1, 3) := by decide +kernel
theorem dX3_compareWith_135 : decode cX3_compareWith 135 = .ok (.goto (-106), 3) := by decide +kernel
theorem dX3_compareWith_138 : decode cX3_compareWith 138 = .ok (.lload 4, 2) := by decide +kernel
theorem dX3_compareWith_140 : decode cX3_compareWith 140 = .ok (.lload 8, 2) := by decide +kernel
theorem dX3_compareWith_142 : decode cX3_compareWith 142 = .ok (.lcmp, 1) := by decide +kernel
theorem dX3_compareWith_143 : decode cX3_compareWith 143 = .ok (.ifCond .ne 7, 3) := by decide +kernel
theorem dX3_compareWith_146 : decode cX3_compareWith 146 = .ok (.iconst 0, 1) := by decide +kernel
theorem dX3_compareWith_147 : decode cX3_compareWith 147 = .ok (.goto 18, 3) := by decide +kernel
theorem dX3_compareWith_150 : decode cX3_compareWith 150 = .ok (.lload 4, 2) := by decide +kernel
theorem dX3_compareWith_152 : decode cX3_compareWith 152 = .ok (.lconst 0, 1) := by decide +kernel
theorem dX3_compareWith_153 : decode cX3_compareWith 153 = .ok (.lcmp, 1) := by decide +kernel
theorem dX3_compareWith_154 : decode cX3_compareWith 154 = .ok (.ifCond .ne 8, 3) := by decide +kernel
theorem dX3_compareWith_157 : decode cX3_compareWith 157 = .ok (.iload 10, 2) := by decide +kernel
theorem dX3_compareWith_159 : decode cX3_compareWith 159 = .ok (.goto 6, 3) := by decide +kernel
theorem dX3_compareWith_162 : decode cX3_compareWith 162 = .ok (.iload 10, 2) := by decide +kernel
theorem dX3_compareWith_164 : decode cX3_compareWith 164 = .ok (.ineg, 1) := by decide +kernel
theorem dX3_compareWith_165 : decode cX3_compareWith 165 = .ok (.ireturn, 1) := by decide +kernel
theorem dX3_commonDivisor_0 : decode cX3_commonDivisor 0 = .ok (.lload_n 0, 1) := by decide +kernel
theorem dX3_commonDivisor_1 : decode cX3_commonDivisor 1 = .ok (.lconst 0, 1) := by decide +kernel
theorem dX3_commonDivisor_2 : decode cX3_commonDivisor 2 = .ok (.lcmp, 1) := by decide +kernel
theorem dX3_commonDivisor_3 : decode cX3_commonDivisor 3 = .ok (.ifCond .ge 8, 3) := by decide +kernel
theorem dX3_commonDivisor_6 : decode cX3_commonDivisor 6 = .ok (.lload_n 0, 1) := by decide +kernel
theorem dX3_commonDivisor_7 : decode cX3_commonDivisor 7 = .ok (.lneg, 1) := by decide +kernel
theorem dX3_commonDivisor_8 : decode cX3_commonDivisor 8 = .ok (.goto 4, 3) := by decide +kernel
theorem dX3_commonDivisor_11 : decode cX3_commonDivisor 11 = .ok (.lload_n 0, 1) := by decide +kernel
theorem dX3_commonDivisor_12 : decode cX3_commonDivisor 12 = .ok (.lstore 4, 2) := by decide +kernel
theorem dX3_commonDivisor_14 : decode cX3_commonDivisor 14 = .ok (.lload_n 2, 1) := by decide +kernel
theorem dX3_commonDivisor_15 : decode cX3_commonDivisor 15 = .ok (.lconst 0, 1) := by decide +kernel
theorem dX3_commonDivisor_16 : decode cX3_commonDivisor 16 = .ok (.lcmp, 1) := by decide +kernel
theorem dX3_commonDivisor_17 : decode cX3_commonDivisor 17 = .ok (.ifCond .ge 8, 3) := by decide +kernel
theorem dX3_commonDivisor_20 : decode cX3_commonDivisor 20 = .ok (.lload_n 2, 1) := by decide +kernel
theorem dX3_commonDivisor_21 : decode cX3_commonDivisor 21 = .ok (.lneg, 1) := by decide +kernel
theorem dX3_commonDivisor_22 : decode cX3_commonDivisor 22 = .ok (.goto 4, 3) := by decide +kernel
theorem dX3_commonDivisor_25 : decode cX3_commonDivisor 25 = .ok (.lload_n 2, 1) := by decide +kernel
theorem dX3_commonDivisor_26 : decode cX3_commonDivisor 26 = .ok (.lstore 6, 2) := by decide +kernel
theorem dX3_commonDivisor_28 : decode cX3_commonDivisor 28 = .ok (.iconst 0, 1) := by decide +kernel
theorem dX3_commonDivisor_29 : decode cX3_commonDivisor 29 = .ok (.istore 8, 2) := by decide +kernel
theorem dX3_commonDivisor_31 : decode cX3_commonDivisor 31 = .ok (.iload 8, 2) := by decide +kernel
theorem dX3_commonDivisor_33 : decode cX3_commonDivisor 33 = .ok (.sipush 200, 3) := by decide +kernel
theorem dX3_commonDivisor_36 : decode cX3_commonDivisor 36 = .ok (.if_icmp .ge 31, 3) := by decide +kernel
theorem dX3_commonDivisor_39 : decode cX3_commonDivisor 39 = .ok (.lload 6, 2) := by decide +kernel
theorem dX3_commonDivisor_41 : decode cX3_commonDivisor 41 = .ok (.lconst 0, 1) := by decide +kernel
theorem dX3_commonDivisor_42 : decode cX3_commonDivisor 42 = .ok (.lcmp, 1) := by decide +kernel
theorem dX3_commonDivisor_43 : decode cX3_commonDivisor 43 = .ok (.ifCond .eq 24, 3) := by decide +kernel
theorem dX3_commonDivisor_46 : decode cX3_commonDivisor 46 = .ok (.lload 4, 2) := by decide +kernel
theorem dX3_commonDivisor_48 : decode cX3_commonDivisor 48 = .ok (.lload 6, 2) := by decide +kernel
theorem dX3_commonDivisor_50 : decode cX3_commonDivisor 50 = .ok (.lrem, 1) := by decide +kernel
theorem dX3_commonDivisor_51 : decode cX3_commonDivisor 51 = .ok (.lstore 9, 2) := by decide +kernel
theorem dX3_commonDivisor_53 : decode cX3_commonDivisor 53 = .ok (.lload 6, 2) := by decide +kernel
theorem dX3_commonDivisor_55 : decode cX3_commonDivisor 55 = .ok (.lstore 4, 2) := by decide +kernel
theorem dX3_commonDivisor_57 : decode cX3_commonDivisor 57 = .ok (.lload 9, 2) := by decide +kernel
theorem dX3_commonDivisor_59 : decode cX3_commonDivisor 59 = .ok (.lstore 6, 2) := by decide +kernel
theorem dX3_commonDivisor_61 : decode cX3_commonDivisor 61 = .ok (.iinc 8 1, 3) := by decide +kernel
theorem dX3_commonDivisor_64 : decode cX3_commonDivisor 64 = .ok (.goto (-33), 3) := by decide +kernel
theorem dX3_commonDivisor_67 : decode cX3_commonDivisor 67 = .ok (.lload 4, 2) := by decide +kernel
theorem dX3_commonDivisor_69 : decode cX3_commonDivisor 69 = .ok (.lconst 1, 1) := by decide +kernel
theorem dX3_commonDivisor_70 : decode cX3_commonDivisor 70 = .ok (.lcmp, 1) := by decide +kernel
theorem dX3_commonDivisor_71 : decode cX3_commonDivisor 71 = .ok (.ifCond .ge 7, 3) := by decide +kernel
theorem dX3_commonDivisor_74 : decode cX3_commonDivisor 74 = .ok (.lconst 1, 1) := by decide +kernel
theorem dX3_commonDivisor_75 : decode cX3_commonDivisor 75 = .ok (.goto 5, 3) := by decide +kernel
theorem dX3_commonDivisor_78 : decode cX3_commonDivisor 78 = .ok (.lload 4, 2) := by decide +kernel
theorem dX3_commonDivisor_80 : decode cX3_commonDivisor 80 = .ok (.lreturn, 1) := by decide +kernel
theorem dX3_product_0 : decode cX3_product 0 = .ok (.lload_n 0, 1) := by decide +kernel
theorem dX3_product_1 : decode cX3_product 1 = .ok (.lconst 0, 1) := by decide +kernel
theorem dX3_product_2 : decode cX3_product 2 = .ok (.lcmp, 1) := by decide +kernel
theorem dX3_product_3 : decode cX3_product 3 = .ok (.ifCond .eq 9, 3) := by decide +kernel
theorem dX3_product_6 : decode cX3_product 6 = .ok (.lload_n 2, 1) := by decide +kernel
theorem dX3_product_7 : decode cX3_product 7 = .ok (.lconst 0, 1) := by decide +kernel
theorem dX3_product_8 : decode cX3_product 8 = .ok (.lcmp, 1) := by decide +kernel
theorem dX3_product_9 : decode cX3_product 9 = .ok (.ifCond .ne 5, 3) := by decide +kernel
theorem dX3_product_12 : decode cX3_product 12 = .ok (.lconst 0, 1) := by decide +kernel
theorem dX3_product_13 : decode cX3_product 13 = .ok (.lreturn, 1) := by decide +kernel
theorem dX3_product_14 : decode cX3_product 14 = .ok (.lload_n 0, 1) := by decide +kernel
theorem dX3_product_15 : decode cX3_product 15 = .ok (.lload_n 2, 1) := by decide +kernel
theorem dX3_product_16 : decode cX3_product 16 = .ok (.lmul, 1) := by decide +kernel
theorem dX3_product_17 : decode cX3_product 17 = .ok (.lstore 4, 2) := by decide +kernel
theorem dX3_product_19 : decode cX3_product 19 = .ok (.lload 4, 2) := by decide +kernel
theorem dX3_product_21 : decode cX3_product 21 = .ok (.lload_n 0, 1) := by decide +kernel
theorem dX3_product_22 : decode cX3_product 22 = .ok (.ldiv, 1) := by decide +kernel
theorem dX3_product_23 : decode cX3_product 23 = .ok (.lload_n 2, 1) := by decide +kernel
theorem dX3_product_24 : decode cX3_product 24 = .ok (.lcmp, 1) := by decide +kernel
theorem dX3_product_25 : decode cX3_product 25 = .ok (.ifCond .ne 8, 3) := by decide +kernel
theorem dX3_product_28 : decode cX3_product 28 = .ok (.lload 4, 2) := by decide +kernel
theorem dX3_product_30 : decode cX3_product 30 = .ok (.goto 6, 3) := by decide +kernel
theorem dX3_product_33 : decode cX3_product 33 = .ok (.ldc2_w 22, 3) := by decide +kernel
theorem dX3_product_36 : decode cX3_product 36 = .ok (.lreturn, 1) := by decide +kernel
theorem dX3_total_0 : decode cX3_total 0 = .ok (.lload_n 0, 1) := by decide +kernel
theorem dX3_total_1 : decode cX3_total 1 = .ok (.ldc2_w 22, 3) := by decide +kernel
theorem dX3_total_4 : decode cX3_total 4 = .ok (.lcmp, 1) := by decide +kernel
theorem dX3_total_5 : decode cX3_total 5 = .ok (.ifCond .eq 11, 3) := by decide +kernel
theorem dX3_total_8 : decode cX3_total 8 = .ok (.lload_n 2, 1) := by decide +kernel
theorem dX3_total_9 : decode cX3_total 9 = .ok (.ldc2_w 22, 3) := by decide +kernel
theorem dX3_total_12 : decode cX3_total 12 = .ok (.lcmp, 1) := by decide +kernel
theorem dX3_total_13 : decode cX3_total 13 = .ok (.ifCond .ne 7, 3) := by decide +kernel
theorem dX3_total_16 : decode cX3_total 16 = .ok (.ldc2_w 22, 3) := by decide +kernel
theorem dX3_total_19 : decode cX3_total 19 = .ok (.lreturn, 1) := by decide +kernel
theorem dX3_total_20 : decode cX3_total 20 = .ok (.lload_n 0, 1) := by decide +kernel
theorem dX3_total_21 : decode cX3_total 21 = .ok (.lload_n 2, 1) := by decide +kernel
theorem dX3_total_22 : decode cX3_total 22 = .ok (.ladd, 1) := by decide +kernel
theorem dX3_total_23 : decode cX3_total 23 = .ok (.lstore 4, 2) := by decide +kernel
theorem dX3_total_25 : decode cX3_total 25 = .ok (.lload_n 0, 1) := by decide +kernel
theorem dX3_total_26 : decode cX3_total 26 = .ok (.lload 4, 2) := by decide +kernel
theorem dX3_total_28 : decode cX3_total 28 = .ok (.lxor, 1) := by decide +kernel
theorem dX3_total_29 : decode cX3_total 29 = .ok (.lload_n 2, 1) := by decide +kernel
theorem dX3_total_30 : decode cX3_total 30 = .ok (.lload 4, 2) := by decide +kernel
theorem dX3_total_32 : decode cX3_total 32 = .ok (.lxor, 1) := by decide +kernel
theorem dX3_total_33 : decode cX3_total 33 = .ok (.land, 1) := by decide +kernel
theorem dX3_total_34 : decode cX3_total 34 = .ok (.lconst 0, 1) := by decide +kernel
theorem dX3_total_35 : decode cX3_total 35 = .ok (.lcmp, 1) := by decide +kernel
theorem dX3_total_36 : decode cX3_total 36 = .ok (.ifCond .ge 9, 3) := by decide +kernel
theorem dX3_total_39 : decode cX3_total 39 = .ok (.ldc2_w 22, 3) := by decide +kernel
theorem dX3_total_42 : decode cX3_total 42 = .ok (.goto 5, 3) := by decide +kernel
theorem dX3_total_45 : decode cX3_total 45 = .ok (.lload 4, 2) := by decide +kernel
theorem dX3_total_47 : decode cX3_total 47 = .ok (.lreturn, 1) := by decide +kernel
theorem dX4_init_0 : decode cX4_init 0 = .ok (.aload_n 0, 1) := by decide +kernel
theorem dX4_init_1 : decode cX4_init 1 = .ok (.invokespecial 3, 3) := by decide +kernel
theorem dX4_init_4 : decode cX4_init 4 = .ok (.aload_n 0, 1) := by decide +kernel
theorem dX4_init_5 : decode cX4_init 5 = .ok (.bipush 60, 2) := by decide +kernel
theorem dX4_init_7 : decode cX4_init 7 = .ok (.anewarray 9, 3) := by decide +kernel
theorem dX4_init_10 : decode cX4_init 10 = .ok (.putfield 11, 3) := by decide +kernel
theorem dX4_init_13 : decode cX4_init 13 = .ok (.aload_n 0, 1) := by decide +kernel
theorem dX4_init_14 : decode cX4_init 14 = .ok (.iconst 0, 1) := by decide +kernel
theorem dX4_init_15 : decode cX4_init 15 = .ok (.putfield 17, 3) := by decide +kernel
theorem dX4_init_18 : decode cX4_init 18 = .ok (.aload_n 0, 1) := by decide +kernel
theorem dX4_init_19 : decode cX4_init 19 = .ok (.iconst 0, 1) := by decide +kernel
theorem dX4_init_20 : decode cX4_init 20 = .ok (.putfield 21, 3) := by decide +kernel
theorem dX4_init_23 : decode cX4_init 23 = .ok (.aload_n 0, 1) := by decide +kernel
theorem dX4_init_24 : decode cX4_init 24 = .ok (.iconst 0, 1) := by decide +kernel
theorem dX4_init_25 : decode cX4_init 25 = .ok (.putfield 24, 3) := by decide +kernel
theorem dX4_init_28 : decode cX4_init 28 = .ok (.aload_n 0, 1) := by decide +kernel
theorem dX4_init_29 : decode cX4_init 29 = .ok (.iconst 0, 1) := by decide +kernel
theorem dX4_init_30 : decode cX4_init 30 = .ok (.putfield 27, 3) := by decide +kernel
theorem dX4_init_33 : decode cX4_init 33 = .ok (.aload_n 0, 1) := by decide +kernel
theorem dX4_init_34 : decode cX4_init 34 = .ok (.iconst 4, 1) := by decide +kernel
theorem dX4_init_35 : decode cX4_init 35 = .ok (.anewarray 31, 3) := by decide +kernel
theorem dX4_init_38 : decode cX4_init 38 = .ok (.putfield 33, 3) := by decide +kernel
theorem dX4_init_41 : decode cX4_init 41 = .ok (.aload_n 0, 1) := by decide +kernel
theorem dX4_init_42 : decode cX4_init 42 = .ok (.new 37, 3) := by decide +kernel
theorem dX4_init_45 : decode cX4_init 45 = .ok (.dup, 1) := by decide +kernel
theorem dX4_init_46 : decode cX4_init 46 = .ok (.invokespecial 39, 3) := by decide +kernel
theorem dX4_init_49 : decode cX4_init 49 = .ok (.putfield 40, 3) := by decide +kernel
theorem dX4_init_52 : decode cX4_init 52 = .ok (.iconst 0, 1) := by decide +kernel
theorem dX4_init_53 : decode cX4_init 53 = .ok (.istore_n 1, 1) := by decide +kernel
theorem dX4_init_54 : decode cX4_init 54 = .ok (.iload_n 1, 1) := by decide +kernel
theorem dX4_init_55 : decode cX4_init 55 = .ok (.bipush 60, 2) := by decide +kernel
theorem dX4_init_57 : decode cX4_init 57 = .ok (.if_icmp .ge 22, 3) := by decide +kernel
theorem dX4_init_60 : decode cX4_init 60 = .ok (.aload_n 0, 1) := by decide +kernel
theorem dX4_init_61 : decode cX4_init 61 = .ok (.getfield 11, 3) := by decide +kernel
theorem dX4_init_64 : decode cX4_init 64 = .ok (.iload_n 1, 1) := by decide +kernel
theorem dX4_init_65 : decode cX4_init 65 = .ok (.new 9, 3) := by decide +kernel
theorem dX4_init_68 : decode cX4_init 68 = .ok (.dup, 1) := by decide +kernel
theorem dX4_init_69 : decode cX4_init 69 = .ok (.invokespecial 44, 3) := by decide +kernel
theorem dX4_init_72 : decode cX4_init 72 = .ok (.aastore, 1) := by decide +kernel
theorem dX4_init_73 : decode cX4_init 73 = .ok (.iinc 1 1, 3) := by decide +kernel
theorem dX4_init_76 : decode cX4_init 76 = .ok (.goto (-22), 3) := by decide +kernel
theorem dX4_init_79 : decode cX4_init 79 = .ok (.return_, 1) := by decide +kernel
theorem dX4_isHeld_0 : decode cX4_isHeld 0 = .ok (.aload_n 0, 1) := by decide +kernel
theorem dX4_isHeld_1 : decode cX4_isHeld 1 = .ok (.getfield 24, 3) := by decide +kernel
theorem dX4_isHeld_4 : decode cX4_isHeld 4 = .ok (.ifCond .ne 7, 3) := by decide +kernel
theorem dX4_isHeld_7 : decode cX4_isHeld 7 = .ok (.iconst 1, 1) := by decide +kernel
theorem dX4_isHeld_8 : decode cX4_isHeld 8 = .ok (.goto 4, 3) := by decide +kernel
theorem dX4_isHeld_11 : decode cX4_isHeld 11 = .ok (.iconst 0, 1) := by decide +kernel
theorem dX4_isHeld_12 : decode cX4_isHeld 12 = .ok (.ireturn, 1) := by decide +kernel
theorem dX4_heldStep_0 : decode cX4_heldStep 0 = .ok (.iload_n 1, 1) := by decide +kernel
theorem dX4_heldStep_1 : decode cX4_heldStep 1 = .ok (.ifCond .lt 17, 3) := by decide +kernel
theorem dX4_heldStep_4 : decode cX4_heldStep 4 = .ok (.iload_n 1, 1) := by decide +kernel
theorem dX4_heldStep_5 : decode cX4_heldStep 5 = .ok (.aload_n 0, 1) := by decide +kernel
theorem dX4_heldStep_6 : decode cX4_heldStep 6 = .ok (.getfield 21, 3) := by decide +kernel
theorem dX4_heldStep_9 : decode cX4_heldStep 9 = .ok (.if_icmp .ge 9, 3) := by decide +kernel
theorem dX4_heldStep_12 : decode cX4_heldStep 12 = .ok (.iload_n 1, 1) := by decide +kernel
theorem dX4_heldStep_13 : decode cX4_heldStep 13 = .ok (.bipush 60, 2) := by decide +kernel
theorem dX4_heldStep_15 : decode cX4_heldStep 15 = .ok (.if_icmp .lt 7, 3) := by decide +kernel
theorem dX4_heldStep_18 : decode cX4_heldStep 18 = .ok (.aconst_null, 1) := by decide +kernel
theorem dX4_heldStep_19 : decode cX4_heldStep 19 = .ok (.goto 9, 3) := by decide +kernel
theorem dX4_heldStep_22 : decode cX4_heldStep 22 = .ok (.aload_n 0, 1) := by decide +kernel
theorem dX4_heldStep_23 : decode cX4_heldStep 23 = .ok (.getfield 11, 3) := by decide +kernel
theorem dX4_heldStep_26 : decode cX4_heldStep 26 = .ok (.iload_n 1, 1) := by decide +kernel
theorem dX4_heldStep_27 : decode cX4_heldStep 27 = .ok (.aaload, 1) := by decide +kernel
theorem dX4_heldStep_28 : decode cX4_heldStep 28 = .ok (.areturn, 1) := by decide +kernel
theorem dX4_side_0 : decode cX4_side 0 = .ok (.aload_n 0, 1) := by decide +kernel
theorem dX4_side_1 : decode cX4_side 1 = .ok (.aload_n 0, 1) := by decide +kernel
theorem dX4_side_2 : decode cX4_side 2 = .ok (.getfield 21, 3) := by decide +kernel
theorem dX4_side_5 : decode cX4_side 5 = .ok (.iconst 1, 1) := by decide +kernel
theorem dX4_side_6 : decode cX4_side 6 = .ok (.isub, 1) := by decide +kernel
theorem dX4_side_7 : decode cX4_side 7 = .ok (.invokevirtual 45, 3) := by decide +kernel
theorem dX4_side_10 : decode cX4_side 10 = .ok (.astore_n 2, 1) := by decide +kernel
theorem dX4_side_11 : decode cX4_side 11 = .ok (.aload_n 2, 1) := by decide +kernel
theorem dX4_side_12 : decode cX4_side 12 = .ok (.ifnull 19, 3) := by decide +kernel
theorem dX4_side_15 : decode cX4_side 15 = .ok (.aload_n 0, 1) := by decide +kernel
theorem dX4_side_16 : decode cX4_side 16 = .ok (.invokevirtual 49, 3) := by decide +kernel
theorem dX4_side_19 : decode cX4_side 19 = .ok (.ifCond .eq 12, 3) := by decide +kernel
theorem dX4_side_22 : decode cX4_side 22 = .ok (.iload_n 1, 1) := by decide +kernel
theorem dX4_side_23 : decode cX4_side 23 = .ok (.ifCond .lt 8, 3) := by decide +kernel
theorem dX4_side_26 : decode cX4_side 26 = .ok (.iload_n 1, 1) := by decide +kernel
theorem dX4_side_27 : decode cX4_side 27 = .ok (.iconst 1, 1) := by decide +kernel
theorem dX4_side_28 : decode cX4_side 28 = .ok (.if_icmp .le 5, 3) := by decide +kernel
theorem dX4_side_31 : decode cX4_side 31 = .ok (.aconst_null, 1) := by decide +kernel
theorem dX4_side_32 : decode cX4_side 32 = .ok (.areturn, 1) := by decide +kernel
theorem dX4_side_33 : decode cX4_side 33 = .ok (.aload_n 0, 1) := by decide +kernel
theorem dX4_side_34 : decode cX4_side 34 = .ok (.getfield 27, 3) := by decide +kernel
theorem dX4_side_37 : decode cX4_side 37 = .ok (.ifCond .ne 13, 3) := by decide +kernel
theorem dX4_side_40 : decode cX4_side 40 = .ok (.iload_n 1, 1) := by decide +kernel
theorem dX4_side_41 : decode cX4_side 41 = .ok (.ifCond .ne 7, 3) := by decide +kernel
theorem dX4_side_44 : decode cX4_side 44 = .ok (.aload_n 2, 1) := by decide +kernel
theorem dX4_side_45 : decode cX4_side 45 = .ok (.goto 4, 3) := by decide +kernel
theorem dX4_side_48 : decode cX4_side 48 = .ok (.aconst_null, 1) := by decide +kernel
theorem dX4_side_49 : decode cX4_side 49 = .ok (.areturn, 1) := by decide +kernel
theorem dX4_side_50 : decode cX4_side 50 = .ok (.iload_n 1, 1) := by decide +kernel
theorem dX4_side_51 : decode cX4_side 51 = .ok (.ifCond .ne 10, 3) := by decide +kernel
theorem dX4_side_54 : decode cX4_side 54 = .ok (.aload_n 2, 1) := by decide +kernel
theorem dX4_side_55 : decode cX4_side 55 = .ok (.getfield 53, 3) := by decide +kernel
theorem dX4_side_58 : decode cX4_side 58 = .ok (.goto 7, 3) := by decide +kernel
theorem dX4_side_61 : decode cX4_side 61 = .ok (.aload_n 2, 1) := by decide +kernel
theorem dX4_side_62 : decode cX4_side 62 = .ok (.getfield 57, 3) := by decide +kernel
theorem dX4_side_65 : decode cX4_side 65 = .ok (.areturn, 1) := by decide +kernel
theorem dX4_sidesAgree_0 : decode cX4_sidesAgree 0 = .ok (.aload_n 0, 1) := by decide +kernel
theorem dX4_sidesAgree_1 : decode cX4_sidesAgree 1 = .ok (.aload_n 0, 1) := by decide +kernel
theorem dX4_sidesAgree_2 : decode cX4_sidesAgree 2 = .ok (.getfield 21, 3) := by decide +kernel
theorem dX4_sidesAgree_5 : decode cX4_sidesAgree 5 = .ok (.iconst 1, 1) := by decide +kernel
theorem dX4_sidesAgree_6 : decode cX4_sidesAgree 6 = .ok (.isub, 1) := by decide +kernel
theorem dX4_sidesAgree_7 : decode cX4_sidesAgree 7 = .ok (.invokevirtual 45, 3) := by decide +kernel
theorem dX4_sidesAgree_10 : decode cX4_sidesAgree 10 = .ok (.astore_n 1, 1) := by decide +kernel
theorem dX4_sidesAgree_11 : decode cX4_sidesAgree 11 = .ok (.aload_n 1, 1) := by decide +kernel
theorem dX4_sidesAgree_12 : decode cX4_sidesAgree 12 = .ok (.ifnull 33, 3) := by decide +kernel
theorem dX4_sidesAgree_15 : decode cX4_sidesAgree 15 = .ok (.aload_n 0, 1) := by decide +kernel
theorem dX4_sidesAgree_16 : decode cX4_sidesAgree 16 = .ok (.invokevirtual 49, 3) := by decide +kernel
theorem dX4_sidesAgree_19 : decode cX4_sidesAgree 19 = .ok (.ifCond .eq 26, 3) := by decide +kernel
theorem dX4_sidesAgree_22 : decode cX4_sidesAgree 22 = .ok (.aload_n 0, 1) := by decide +kernel
theorem dX4_sidesAgree_23 : decode cX4_sidesAgree 23 = .ok (.getfield 27, 3) := by decide +kernel
theorem dX4_sidesAgree_26 : decode cX4_sidesAgree 26 = .ok (.ifCond .eq 19, 3) := by decide +kernel
theorem dX4_sidesAgree_29 : decode cX4_sidesAgree 29 = .ok (.aload_n 1, 1) := by decide +kernel
theorem dX4_sidesAgree_30 : decode cX4_sidesAgree 30 = .ok (.getfield 60, 3) := by decide +kernel
theorem dX4_sidesAgree_33 : decode cX4_sidesAgree 33 = .ok (.getfield 63, 3) := by decide +kernel
theorem dX4_sidesAgree_36 : decode cX4_sidesAgree 36 = .ok (.lconst 0, 1) := by decide +kernel
theorem dX4_sidesAgree_37 : decode cX4_sidesAgree 37 = .ok (.lcmp, 1) := by decide +kernel
theorem dX4_sidesAgree_38 : decode cX4_sidesAgree 38 = .ok (.ifCond .ne 7, 3) := by decide +kernel
theorem dX4_sidesAgree_41 : decode cX4_sidesAgree 41 = .ok (.iconst 1, 1) := by decide +kernel
theorem dX4_sidesAgree_42 : decode cX4_sidesAgree 42 = .ok (.goto 4, 3) := by decide +kernel
theorem dX4_sidesAgree_45 : decode cX4_sidesAgree 45 = .ok (.iconst 0, 1) := by decide +kernel
theorem dX4_sidesAgree_46 : decode cX4_sidesAgree 46 = .ok (.ireturn, 1) := by decide +kernel
theorem dX4_heldParts_0 : decode cX4_heldParts 0 = .ok (.iconst 0, 1) := by decide +kernel
theorem dX4_heldParts_1 : decode cX4_heldParts 1 = .ok (.istore_n 1, 1) := by decide +kernel
theorem dX4_heldParts_2 : decode cX4_heldParts 2 = .ok (.iconst 0, 1) := by decide +kernel
theorem dX4_heldParts_3 : decode cX4_heldParts 3 = .ok (.istore_n 2, 1) := by decide +kernel
theorem dX4_heldParts_4 : decode cX4_heldParts 4 = .ok (.iload_n 2, 1) := by decide +kernel
theorem dX4_heldParts_5 : decode cX4_heldParts 5 = .ok (.aload_n 0, 1) := by decide +kernel
theorem dX4_heldParts_6 : decode cX4_heldParts 6 = .ok (.getfield 21, 3) := by decide +kernel
theorem dX4_heldParts_9 : decode cX4_heldParts 9 = .ok (.if_icmp .ge 35, 3) := by decide +kernel
theorem dX4_heldParts_12 : decode cX4_heldParts 12 = .ok (.iload_n 2, 1) := by decide +kernel
theorem dX4_heldParts_13 : decode cX4_heldParts 13 = .ok (.bipush 60, 2) := by decide +kernel
theorem dX4_heldParts_15 : decode cX4_heldParts 15 = .ok (.if_icmp .ge 29, 3) := by decide +kernel
theorem dX4_heldParts_18 : decode cX4_heldParts 18 = .ok (.iload_n 1, 1) := by decide +kernel
theorem dX4_heldParts_19 : decode cX4_heldParts 19 = .ok (.aload_n 0, 1) := by decide +kernel
theorem dX4_heldParts_20 : decode cX4_heldParts 20 = .ok (.getfield 11, 3) := by decide +kernel
theorem dX4_heldParts_23 : decode cX4_heldParts 23 = .ok (.iload_n 2, 1) := by decide +kernel
theorem dX4_heldParts_24 : decode cX4_heldParts 24 = .ok (.aaload, 1) := by decide +kernel
theorem dX4_heldParts_25 : decode cX4_heldParts 25 = .ok (.getfield 67, 3) := by decide +kernel
theorem dX4_heldParts_28 : decode cX4_heldParts 28 = .ok (.ifCond .ne 7, 3) := by decide +kernel
theorem dX4_heldParts_31 : decode cX4_heldParts 31 = .ok (.iconst 1, 1) := by decide +kernel
theorem dX4_heldParts_32 : decode cX4_heldParts 32 = .ok (.goto 4, 3) := by decide +kernel
theorem dX4_heldParts_35 : decode cX4_heldParts 35 = .ok (.iconst 0, 1) := by decide +kernel
theorem dX4_heldParts_36 : decode cX4_heldParts 36 = .ok (.iadd, 1) := by decide +kernel
theorem dX4_heldParts_37 : decode cX4_heldParts 37 = .ok (.istore_n 1, 1) := by decide +kernel
theorem dX4_heldParts_38 : decode cX4_heldParts 38 = .ok (.iinc 2 1, 3) := by decide +kernel
theorem dX4_heldParts_41 : decode cX4_heldParts 41 = .ok (.goto (-37), 3) := by decide +kernel
theorem dX4_heldParts_44 : decode cX4_heldParts 44 = .ok (.iload_n 1, 1) := by decide +kernel
theorem dX4_heldParts_45 : decode cX4_heldParts 45 = .ok (.ireturn, 1) := by decide +kernel
theorem dX4_read_0 : decode cX4_read 0 = .ok (.aload_n 1, 1) := by decide +kernel
theorem dX4_read_1 : decode cX4_read 1 = .ok (.iconst 0, 1) := by decide +kernel
theorem dX4_read_2 : decode cX4_read 2 = .ok (.putfield 70, 3) := by decide +kernel
theorem dX4_read_5 : decode cX4_read 5 = .ok (.aload_n 0, 1) := by decide +kernel
theorem dX4_read_6 : decode cX4_read 6 = .ok (.iconst 0, 1) := by decide +kernel
theorem dX4_read_7 : decode cX4_read 7 = .ok (.putfield 17, 3) := by decide +kernel
theorem dX4_read_10 : decode cX4_read 10 = .ok (.aload_n 0, 1) := by decide +kernel
theorem dX4_read_11 : decode cX4_read 11 = .ok (.aload_n 1, 1) := by decide +kernel
theorem dX4_read_12 : decode cX4_read 12 = .ok (.iconst 0, 1) := by decide +kernel
theorem dX4_read_13 : decode cX4_read 13 = .ok (.invokevirtual 75, 3) := by decide +kernel
theorem dX4_read_16 : decode cX4_read 16 = .ok (.astore_n 2, 1) := by decide +kernel
theorem dX4_read_17 : decode cX4_read 17 = .ok (.aload_n 0, 1) := by decide +kernel
theorem dX4_read_18 : decode cX4_read 18 = .ok (.aload_n 2, 1) := by decide +kernel
theorem dX4_read_19 : decode cX4_read 19 = .ok (.ifnull 16, 3) := by decide +kernel
theorem dX4_read_22 : decode cX4_read 22 = .ok (.aload_n 1, 1) := by decide +kernel
theorem dX4_read_23 : decode cX4_read 23 = .ok (.bipush 61, 2) := by decide +kernel
theorem dX4_read_25 : decode cX4_read 25 = .ok (.invokevirtual 79, 3) := by decide +kernel
theorem dX4_read_28 : decode cX4_read 28 = .ok (.ifCond .eq 7, 3) := by decide +kernel
theorem dX4_read_31 : decode cX4_read 31 = .ok (.iconst 1, 1) := by decide +kernel
theorem dX4_read_32 : decode cX4_read 32 = .ok (.goto 4, 3) := by decide +kernel
theorem dX4_read_35 : decode cX4_read 35 = .ok (.iconst 0, 1) := by decide +kernel
theorem dX4_read_36 : decode cX4_read 36 = .ok (.putfield 27, 3) := by decide +kernel
theorem dX4_read_39 : decode cX4_read 39 = .ok (.aload_n 0, 1) := by decide +kernel
theorem dX4_read_40 : decode cX4_read 40 = .ok (.getfield 27, 3) := by decide +kernel
theorem dX4_read_43 : decode cX4_read 43 = .ok (.ifCond .ne 20, 3) := by decide +kernel
theorem dX4_read_46 : decode cX4_read 46 = .ok (.aload_n 2, 1) := by decide +kernel
theorem dX4_read_47 : decode cX4_read 47 = .ok (.ifnull 14, 3) := by decide +kernel
theorem dX4_read_50 : decode cX4_read 50 = .ok (.aload_n 1, 1) := by decide +kernel
theorem dX4_read_51 : decode cX4_read 51 = .ok (.invokevirtual 83, 3) := by decide +kernel
theorem dX4_read_54 : decode cX4_read 54 = .ok (.ifCond .eq 7, 3) := by decide +kernel
theorem dX4_read_57 : decode cX4_read 57 = .ok (.iconst 1, 1) := by decide +kernel
theorem dX4_read_58 : decode cX4_read 58 = .ok (.goto 4, 3) := by decide +kernel
theorem dX4_read_61 : decode cX4_read 61 = .ok (.iconst 0, 1) := by decide +kernel
theorem dX4_read_62 : decode cX4_read 62 = .ok (.ireturn, 1) := by decide +kernel
theorem dX4_read_63 : decode cX4_read 63 = .ok (.aload_n 0, 1) := by decide +kernel
theorem dX4_read_64 : decode cX4_read 64 = .ok (.aload_n 1, 1) := by decide +kernel
theorem dX4_read_65 : decode cX4_read 65 = .ok (.iconst 0, 1) := by decide +kernel
theorem dX4_read_66 : decode cX4_read 66 = .ok (.invokevirtual 75, 3) := by decide +kernel
theorem dX4_read_69 : decode cX4_read 69 = .ok (.astore_n 3, 1) := by decide +kernel
theorem dX4_read_70 : decode cX4_read 70 = .ok (.aload_n 3, 1) := by decide +kernel
theorem dX4_read_71 : decode cX4_read 71 = .ok (.ifnull 24, 3) := by decide +kernel
theorem dX4_read_74 : decode cX4_read 74 = .ok (.aload_n 0, 1) := by decide +kernel
theorem dX4_read_75 : decode cX4_read 75 = .ok (.iconst 5, 1) := by decide +kernel
theorem dX4_read_76 : decode cX4_read 76 = .ok (.aload_n 2, 1) := by decide +kernel
theorem dX4_read_77 : decode cX4_read 77 = .ok (.aload_n 3, 1) := by decide +kernel
theorem dX4_read_78 : decode cX4_read 78 = .ok (.invokevirtual 86, 3) := by decide +kernel
theorem dX4_read_81 : decode cX4_read 81 = .ok (.ifnull 14, 3) := by decide +kernel
theorem dX4_read_84 : decode cX4_read 84 = .ok (.aload_n 1, 1) := by decide +kernel
theorem dX4_read_85 : decode cX4_read 85 = .ok (.invokevirtual 83, 3) := by decide +kernel
theorem dX4_read_88 : decode cX4_read 88 = .ok (.ifCond .eq 7, 3) := by decide +kernel
theorem dX4_read_91 : decode cX4_read 91 = .ok (.iconst 1, 1) := by decide +kernel
theorem dX4_read_92 : decode cX4_read 92 = .ok (.goto 4, 3) := by decide +kernel
theorem dX4_read_95 : decode cX4_read 95 = .ok (.iconst 0, 1) := by decide +kernel
theorem dX4_read_96 : decode cX4_read 96 = .ok (.ireturn, 1) := by decide +kernel
theorem dX4_append_0 : decode cX4_append 0 = .ok (.aload_n 0, 1) := by decide +kernel
theorem dX4_append_1 : decode cX4_append 1 = .ok (.getfield 17, 3) := by decide +kernel
theorem dX4_append_4 : decode cX4_append 4 = .ok (.bipush 60, 2) := by decide +kernel
theorem dX4_append_6 : decode cX4_append 6 = .ok (.if_icmp .lt 5, 3) := by decide +kernel
theorem dX4_append_9 : decode cX4_append 9 = .ok (.aconst_null, 1) := by decide +kernel
theorem dX4_append_10 : decode cX4_append 10 = .ok (.areturn, 1) := by decide +kernel
theorem dX4_append_11 : decode cX4_append 11 = .ok (.aload_n 0, 1) := by decide +kernel
theorem dX4_append_12 : decode cX4_append 12 = .ok (.getfield 11, 3) := by decide +kernel
theorem dX4_append_15 : decode cX4_append 15 = .ok (.aload_n 0, 1) := by decide +kernel
theorem dX4_append_16 : decode cX4_append 16 = .ok (.getfield 17, 3) := by decide +kernel
theorem dX4_append_19 : decode cX4_append 19 = .ok (.aaload, 1) := by decide +kernel
theorem dX4_append_20 : decode cX4_append 20 = .ok (.astore 4, 2) := by decide +kernel
theorem dX4_append_22 : decode cX4_append 22 = .ok (.aload 4, 2) := by decide +kernel
theorem dX4_append_24 : decode cX4_append 24 = .ok (.iload_n 1, 1) := by decide +kernel
theorem dX4_append_25 : decode cX4_append 25 = .ok (.aload_n 2, 1) := by decide +kernel
theorem dX4_append_26 : decode cX4_append 26 = .ok (.aload_n 3, 1) := by decide +kernel
theorem dX4_append_27 : decode cX4_append 27 = .ok (.invokevirtual 90, 3) := by decide +kernel
theorem dX4_append_30 : decode cX4_append 30 = .ok (.aload_n 0, 1) := by decide +kernel
theorem dX4_append_31 : decode cX4_append 31 = .ok (.dup, 1) := by decide +kernel
theorem dX4_append_32 : decode cX4_append 32 = .ok (.getfield 17, 3) := by decide +kernel
theorem dX4_append_35 : decode cX4_append 35 = .ok (.iconst 1, 1) := by decide +kernel
theorem dX4_append_36 : decode cX4_append 36 = .ok (.iadd, 1) := by decide +kernel
theorem dX4_append_37 : decode cX4_append 37 = .ok (.putfield 17, 3) := by decide +kernel
theorem dX4_append_40 : decode cX4_append 40 = .ok (.aload 4, 2) := by decide +kernel
theorem dX4_append_42 : decode cX4_append 42 = .ok (.areturn, 1) := by decide +kernel
theorem dX4_readSum_0 : decode cX4_readSum 0 = .ok (.aload_n 0, 1) := by decide +kernel
theorem dX4_readSum_1 : decode cX4_readSum 1 = .ok (.aload_n 1, 1) := by decide +kernel
theorem dX4_readSum_2 : decode cX4_readSum 2 = .ok (.iload_n 2, 1) := by decide +kernel
theorem dX4_readSum_3 : decode cX4_readSum 3 = .ok (.invokevirtual 94, 3) := by decide +kernel
theorem dX4_readSum_6 : decode cX4_readSum 6 = .ok (.astore_n 3, 1) := by decide +kernel
theorem dX4_readSum_7 : decode cX4_readSum 7 = .ok (.iconst 0, 1) := by decide +kernel
theorem dX4_readSum_8 : decode cX4_readSum 8 = .ok (.istore 4, 2) := by decide +kernel
theorem dX4_readSum_10 : decode cX4_readSum 10 = .ok (.iload 4, 2) := by decide +kernel
theorem dX4_readSum_12 : decode cX4_readSum 12 = .ok (.bipush 60, 2) := by decide +kernel
theorem dX4_readSum_14 : decode cX4_readSum 14 = .ok (.if_icmp .ge 77, 3) := by decide +kernel
theorem dX4_readSum_17 : decode cX4_readSum 17 = .ok (.aload_n 3, 1) := by decide +kernel
theorem dX4_readSum_18 : decode cX4_readSum 18 = .ok (.ifnull 73, 3) := by decide +kernel
theorem dX4_readSum_21 : decode cX4_readSum 21 = .ok (.aload_n 1, 1) := by decide +kernel
theorem dX4_readSum_22 : decode cX4_readSum 22 = .ok (.iconst 0, 1) := by decide +kernel
theorem dX4_readSum_23 : decode cX4_readSum 23 = .ok (.invokevirtual 97, 3) := by decide +kernel
theorem dX4_readSum_26 : decode cX4_readSum 26 = .ok (.bipush 43, 2) := by decide +kernel
theorem dX4_readSum_28 : decode cX4_readSum 28 = .ok (.if_icmp .ne 7, 3) := by decide +kernel
theorem dX4_readSum_31 : decode cX4_readSum 31 = .ok (.iconst 3, 1) := by decide +kernel
theorem dX4_readSum_32 : decode cX4_readSum 32 = .ok (.goto 4, 3) := by decide +kernel
theorem dX4_readSum_35 : decode cX4_readSum 35 = .ok (.iconst 4, 1) := by decide +kernel
theorem dX4_readSum_36 : decode cX4_readSum 36 = .ok (.istore 5, 2) := by decide +kernel
theorem dX4_readSum_38 : decode cX4_readSum 38 = .ok (.aload_n 1, 1) := by decide +kernel
theorem dX4_readSum_39 : decode cX4_readSum 39 = .ok (.bipush 43, 2) := by decide +kernel
theorem dX4_readSum_41 : decode cX4_readSum 41 = .ok (.invokevirtual 79, 3) := by decide +kernel
theorem dX4_readSum_44 : decode cX4_readSum 44 = .ok (.ifCond .ne 14, 3) := by decide +kernel
theorem dX4_readSum_47 : decode cX4_readSum 47 = .ok (.aload_n 1, 1) := by decide +kernel
theorem dX4_readSum_48 : decode cX4_readSum 48 = .ok (.bipush 45, 2) := by decide +kernel
theorem dX4_readSum_50 : decode cX4_readSum 50 = .ok (.invokevirtual 79, 3) := by decide +kernel
theorem dX4_readSum_53 : decode cX4_readSum 53 = .ok (.ifCond .ne 5, 3) := by decide +kernel
theorem dX4_readSum_56 : decode cX4_readSum 56 = .ok (.aload_n 3, 1) := by decide +kernel
theorem dX4_readSum_57 : decode cX4_readSum 57 = .ok (.areturn, 1) := by decide +kernel
theorem dX4_readSum_58 : decode cX4_readSum 58 = .ok (.aload_n 0, 1) := by decide +kernel
theorem dX4_readSum_59 : decode cX4_readSum 59 = .ok (.aload_n 1, 1) := by decide +kernel
theorem dX4_readSum_60 : decode cX4_readSum 60 = .ok (.iload_n 2, 1) := by decide +kernel
theorem dX4_readSum_61 : decode cX4_readSum 61 = .ok (.invokevirtual 94, 3) := by decide +kernel
theorem dX4_readSum_64 : decode cX4_readSum 64 = .ok (.astore 6, 2) := by decide +kernel
theorem dX4_readSum_66 : decode cX4_readSum 66 = .ok (.aload 6, 2) := by decide +kernel
theorem dX4_readSum_68 : decode cX4_readSum 68 = .ok (.ifnonnull 7, 3) := by decide +kernel
theorem dX4_readSum_71 : decode cX4_readSum 71 = .ok (.aconst_null, 1) := by decide +kernel
theorem dX4_readSum_72 : decode cX4_readSum 72 = .ok (.goto 12, 3) := by decide +kernel
theorem dX4_readSum_75 : decode cX4_readSum 75 = .ok (.aload_n 0, 1) := by decide +kernel
theorem dX4_readSum_76 : decode cX4_readSum 76 = .ok (.iload 5, 2) := by decide +kernel
theorem dX4_readSum_78 : decode cX4_readSum 78 = .ok (.aload_n 3, 1) := by decide +kernel
theorem dX4_readSum_79 : decode cX4_readSum 79 = .ok (.aload 6, 2) := by decide +kernel
theorem dX4_readSum_81 : decode cX4_readSum 81 = .ok (.invokevirtual 86, 3) := by decide +kernel
theorem dX4_readSum_84 : decode cX4_readSum 84 = .ok (.astore_n 3, 1) := by decide +kernel
theorem dX4_readSum_85 : decode cX4_readSum 85 = .ok (.iinc 4 1, 3) := by decide +kernel
theorem dX4_readSum_88 : decode cX4_readSum 88 = .ok (.goto (-78), 3) := by decide +kernel
theorem dX4_readSum_91 : decode cX4_readSum 91 = .ok (.aload_n 3, 1) := by decide +kernel
theorem dX4_readSum_92 : decode cX4_readSum 92 = .ok (.areturn, 1) := by decide +kernel
theorem dX4_readTerm_0 : decode cX4_readTerm 0 = .ok (.aload_n 0, 1) := by decide +kernel
theorem dX4_readTerm_1 : decode cX4_readTerm 1 = .ok (.aload_n 1, 1) := by decide +kernel
theorem dX4_readTerm_2 : decode cX4_readTerm 2 = .ok (.iload_n 2, 1) := by decide +kernel
theorem dX4_readTerm_3 : decode cX4_readTerm 3 = .ok (.invokevirtual 101, 3) := by decide +kernel
theorem dX4_readTerm_6 : decode cX4_readTerm 6 = .ok (.astore_n 3, 1) := by decide +kernel
theorem dX4_readTerm_7 : decode cX4_readTerm 7 = .ok (.iconst 0, 1) := by decide +kernel
theorem dX4_readTerm_8 : decode cX4_readTerm 8 = .ok (.istore 4, 2) := by decide +kernel
theorem dX4_readTerm_10 : decode cX4_readTerm 10 = .ok (.iload 4, 2) := by decide +kernel
theorem dX4_readTerm_12 : decode cX4_readTerm 12 = .ok (.bipush 60, 2) := by decide +kernel
theorem dX4_readTerm_14 : decode cX4_readTerm 14 = .ok (.if_icmp .ge 77, 3) := by decide +kernel
theorem dX4_readTerm_17 : decode cX4_readTerm 17 = .ok (.aload_n 3, 1) := by decide +kernel
theorem dX4_readTerm_18 : decode cX4_readTerm 18 = .ok (.ifnull 73, 3) := by decide +kernel
theorem dX4_readTerm_21 : decode cX4_readTerm 21 = .ok (.aload_n 1, 1) := by decide +kernel
theorem dX4_readTerm_22 : decode cX4_readTerm 22 = .ok (.iconst 0, 1) := by decide +kernel
theorem dX4_readTerm_23 : decode cX4_readTerm 23 = .ok (.invokevirtual 97, 3) := by decide +kernel
theorem dX4_readTerm_26 : decode cX4_readTerm 26 = .ok (.bipush 42, 2) := by decide +kernel
theorem dX4_readTerm_28 : decode cX4_readTerm 28 = .ok (.if_icmp .ne 7, 3) := by decide +kernel
theorem dX4_readTerm_31 : decode cX4_readTerm 31 = .ok (.iconst 1, 1) := by decide +kernel
theorem dX4_readTerm_32 : decode cX4_readTerm 32 = .ok (.goto 4, 3) := by decide +kernel
theorem dX4_readTerm_35 : decode cX4_readTerm 35 = .ok (.iconst 2, 1) := by decide +kernel
theorem dX4_readTerm_36 : decode cX4_readTerm 36 = .ok (.istore 5, 2) := by decide +kernel
theorem dX4_readTerm_38 : decode cX4_readTerm 38 = .ok (.aload_n 1, 1) := by decide +kernel
theorem dX4_readTerm_39 : decode cX4_readTerm 39 = .ok (.bipush 42, 2) := by decide +kernel
theorem dX4_readTerm_41 : decode cX4_readTerm 41 = .ok (.invokevirtual 79, 3) := by decide +kernel
theorem dX4_readTerm_44 : decode cX4_readTerm 44 = .ok (.ifCond .ne 14, 3) := by decide +kernel
theorem dX4_readTerm_47 : decode cX4_readTerm 47 = .ok (.aload_n 1, 1) := by decide +kernel
theorem dX4_readTerm_48 : decode cX4_readTerm 48 = .ok (.bipush 47, 2) := by decide +kernel
theorem dX4_readTerm_50 : decode cX4_readTerm 50 = .ok (.invokevirtual 79, 3) := by decide +kernel
theorem dX4_readTerm_53 : decode cX4_readTerm 53 = .ok (.ifCond .ne 5, 3) := by decide +kernel
theorem dX4_readTerm_56 : decode cX4_readTerm 56 = .ok (.aload_n 3, 1) := by decide +kernel
theorem dX4_readTerm_57 : decode cX4_readTerm 57 = .ok (.areturn, 1) := by decide +kernel
theorem dX4_readTerm_58 : decode cX4_readTerm 58 = .ok (.aload_n 0, 1) := by decide +kernel
theorem dX4_readTerm_59 : decode cX4_readTerm 59 = .ok (.aload_n 1, 1) := by decide +kernel
theorem dX4_readTerm_60 : decode cX4_readTerm 60 = .ok (.iload_n 2, 1) := by decide +kernel
theorem dX4_readTerm_61 : decode cX4_readTerm 61 = .ok (.invokevirtual 101, 3) := by decide +kernel
theorem dX4_readTerm_64 : decode cX4_readTerm 64 = .ok (.astore 6, 2) := by decide +kernel
theorem dX4_readTerm_66 : decode cX4_readTerm 66 = .ok (.aload 6, 2) := by decide +kernel
theorem dX4_readTerm_68 : decode cX4_readTerm 68 = .ok (.ifnonnull 7, 3) := by decide +kernel
theorem dX4_readTerm_71 : decode cX4_readTerm 71 = .ok (.aconst_null, 1) := by decide +kernel
theorem dX4_readTerm_72 : decode cX4_readTerm 72 = .ok (.goto 12, 3) := by decide +kernel
theorem dX4_readTerm_75 : decode cX4_readTerm 75 = .ok (.aload_n 0, 1) := by decide +kernel
theorem dX4_readTerm_76 : decode cX4_readTerm 76 = .ok (.iload 5, 2) := by decide +kernel
theorem dX4_readTerm_78 : decode cX4_readTerm 78 = .ok (.aload_n 3, 1) := by decide +kernel
theorem dX4_readTerm_79 : decode cX4_readTerm 79 = .ok (.aload 6, 2) := by decide +kernel
theorem dX4_readTerm_81 : decode cX4_readTerm 81 = .ok (.invokevirtual 86, 3) := by decide +kernel
theorem dX4_readTerm_84 : decode cX4_readTerm 84 = .ok (.astore_n 3, 1) := by decide +kernel
theorem dX4_readTerm_85 : decode cX4_readTerm 85 = .ok (.iinc 4 1, 3) := by decide +kernel
theorem dX4_readTerm_88 : decode cX4_readTerm 88 = .ok (.goto (-78), 3) := by decide +kernel
theorem dX4_readTerm_91 : decode cX4_readTerm 91 = .ok (.aload_n 3, 1) := by decide +kernel
theorem dX4_readTerm_92 : decode cX4_readTerm 92 = .ok (.areturn, 1) := by decide +kernel
theorem dX4_readPart_0 : decode cX4_readPart 0 = .ok (.aload_n 1, 1) := by decide +kernel
theorem dX4_readPart_1 : decode cX4_readPart 1 = .ok (.iconst 0, 1) := by decide +kernel
theorem dX4_readPart_2 : decode cX4_readPart 2 = .ok (.invokevirtual 97, 3) := by decide +kernel
theorem dX4_readPart_5 : decode cX4_readPart 5 = .ok (.bipush 40, 2) := by decide +kernel
theorem dX4_readPart_7 : decode cX4_readPart 7 = .ok (.if_icmp .eq 29, 3) := by decide +kernel
theorem dX4_readPart_10 : decode cX4_readPart 10 = .ok (.aload_n 0, 1) := by decide +kernel
theorem dX4_readPart_11 : decode cX4_readPart 11 = .ok (.iconst 0, 1) := by decide +kernel
theorem dX4_readPart_12 : decode cX4_readPart 12 = .ok (.aconst_null, 1) := by decide +kernel
theorem dX4_readPart_13 : decode cX4_readPart 13 = .ok (.aconst_null, 1) := by decide +kernel
theorem dX4_readPart_14 : decode cX4_readPart 14 = .ok (.invokevirtual 86, 3) := by decide +kernel
theorem dX4_readPart_17 : decode cX4_readPart 17 = .ok (.astore_n 3, 1) := by decide +kernel
theorem dX4_readPart_18 : decode cX4_readPart 18 = .ok (.aload_n 3, 1) := by decide +kernel
theorem dX4_readPart_19 : decode cX4_readPart 19 = .ok (.ifnull 15, 3) := by decide +kernel
theorem dX4_readPart_22 : decode cX4_readPart 22 = .ok (.aload_n 3, 1) := by decide +kernel
theorem dX4_readPart_23 : decode cX4_readPart 23 = .ok (.aload_n 1, 1) := by decide +kernel
theorem dX4_readPart_24 : decode cX4_readPart 24 = .ok (.invokevirtual 104, 3) := by decide +kernel
theorem dX4_readPart_27 : decode cX4_readPart 27 = .ok (.ifCond .eq 7, 3) := by decide +kernel
theorem dX4_readPart_30 : decode cX4_readPart 30 = .ok (.aload_n 3, 1) := by decide +kernel
theorem dX4_readPart_31 : decode cX4_readPart 31 = .ok (.goto 4, 3) := by decide +kernel
theorem dX4_readPart_34 : decode cX4_readPart 34 = .ok (.aconst_null, 1) := by decide +kernel
theorem dX4_readPart_35 : decode cX4_readPart 35 = .ok (.areturn, 1) := by decide +kernel
theorem dX4_readPart_36 : decode cX4_readPart 36 = .ok (.iload_n 2, 1) := by decide +kernel
theorem dX4_readPart_37 : decode cX4_readPart 37 = .ok (.iconst 4, 1) := by decide +kernel
theorem dX4_readPart_38 : decode cX4_readPart 38 = .ok (.if_icmp .lt 5, 3) := by decide +kernel
theorem dX4_readPart_41 : decode cX4_readPart 41 = .ok (.aconst_null, 1) := by decide +kernel
theorem dX4_readPart_42 : decode cX4_readPart 42 = .ok (.areturn, 1) := by decide +kernel
theorem dX4_readPart_43 : decode cX4_readPart 43 = .ok (.aload_n 1, 1) := by decide +kernel
theorem dX4_readPart_44 : decode cX4_readPart 44 = .ok (.bipush 40, 2) := by decide +kernel
theorem dX4_readPart_46 : decode cX4_readPart 46 = .ok (.invokevirtual 79, 3) := by decide +kernel
theorem dX4_readPart_49 : decode cX4_readPart 49 = .ok (.pop, 1) := by decide +kernel
theorem dX4_readPart_50 : decode cX4_readPart 50 = .ok (.aload_n 0, 1) := by decide +kernel
theorem dX4_readPart_51 : decode cX4_readPart 51 = .ok (.aload_n 1, 1) := by decide +kernel
theorem dX4_readPart_52 : decode cX4_readPart 52 = .ok (.iload_n 2, 1) := by decide +kernel
theorem dX4_readPart_53 : decode cX4_readPart 53 = .ok (.iconst 1, 1) := by decide +kernel
theorem dX4_readPart_54 : decode cX4_readPart 54 = .ok (.iadd, 1) := by decide +kernel
theorem dX4_readPart_55 : decode cX4_readPart 55 = .ok (.invokevirtual 75, 3) := by decide +kernel
theorem dX4_readPart_58 : decode cX4_readPart 58 = .ok (.astore_n 3, 1) := by decide +kernel
theorem dX4_readPart_59 : decode cX4_readPart 59 = .ok (.aload_n 3, 1) := by decide +kernel
theorem dX4_readPart_60 : decode cX4_readPart 60 = .ok (.ifnull 12, 3) := by decide +kernel
theorem dX4_readPart_63 : decode cX4_readPart 63 = .ok (.aload_n 1, 1) := by decide +kernel
theorem dX4_readPart_64 : decode cX4_readPart 64 = .ok (.bipush 41, 2) := by decide +kernel
theorem dX4_readPart_66 : decode cX4_readPart 66 = .ok (.invokevirtual 79, 3) := by decide +kernel
theorem dX4_readPart_69 : decode cX4_readPart 69 = .ok (.ifCond .ne 5, 3) := by decide +kernel
theorem dX4_readPart_72 : decode cX4_readPart 72 = .ok (.aconst_null, 1) := by decide +kernel
theorem dX4_readPart_73 : decode cX4_readPart 73 = .ok (.areturn, 1) := by decide +kernel
theorem dX4_readPart_74 : decode cX4_readPart 74 = .ok (.aload_n 3, 1) := by decide +kernel
theorem dX4_readPart_75 : decode cX4_readPart 75 = .ok (.iconst 1, 1) := by decide +kernel
theorem dX4_readPart_76 : decode cX4_readPart 76 = .ok (.putfield 108, 3) := by decide +kernel
theorem dX4_readPart_79 : decode cX4_readPart 79 = .ok (.aload_n 3, 1) := by decide +kernel
theorem dX4_readPart_80 : decode cX4_readPart 80 = .ok (.areturn, 1) := by decide +kernel
theorem dX4_proveAll_0 : decode cX4_proveAll 0 = .ok (.aload_n 0, 1) := by decide +kernel
theorem dX4_proveAll_1 : decode cX4_proveAll 1 = .ok (.iconst 0, 1) := by decide +kernel
theorem dX4_proveAll_2 : decode cX4_proveAll 2 = .ok (.putfield 21, 3) := by decide +kernel
theorem dX4_proveAll_5 : decode cX4_proveAll 5 = .ok (.aload_n 0, 1) := by decide +kernel
theorem dX4_proveAll_6 : decode cX4_proveAll 6 = .ok (.iconst 0, 1) := by decide +kernel
theorem dX4_proveAll_7 : decode cX4_proveAll 7 = .ok (.putfield 24, 3) := by decide +kernel
theorem dX4_proveAll_10 : decode cX4_proveAll 10 = .ok (.iconst 0, 1) := by decide +kernel
theorem dX4_proveAll_11 : decode cX4_proveAll 11 = .ok (.istore_n 3, 1) := by decide +kernel
theorem dX4_proveAll_12 : decode cX4_proveAll 12 = .ok (.iload_n 3, 1) := by decide +kernel
theorem dX4_proveAll_13 : decode cX4_proveAll 13 = .ok (.aload_n 0, 1) := by decide +kernel
theorem dX4_proveAll_14 : decode cX4_proveAll 14 = .ok (.getfield 17, 3) := by decide +kernel
theorem dX4_proveAll_17 : decode cX4_proveAll 17 = .ok (.if_icmp .ge 84, 3) := by decide +kernel
theorem dX4_proveAll_20 : decode cX4_proveAll 20 = .ok (.iload_n 3, 1) := by decide +kernel
theorem dX4_proveAll_21 : decode cX4_proveAll 21 = .ok (.bipush 60, 2) := by decide +kernel
theorem dX4_proveAll_23 : decode cX4_proveAll 23 = .ok (.if_icmp .ge 78, 3) := by decide +kernel
theorem dX4_proveAll_26 : decode cX4_proveAll 26 = .ok (.aload_n 0, 1) := by decide +kernel
theorem dX4_proveAll_27 : decode cX4_proveAll 27 = .ok (.getfield 24, 3) := by decide +kernel
theorem dX4_proveAll_30 : decode cX4_proveAll 30 = .ok (.ifCond .ne 71, 3) := by decide +kernel
theorem dX4_proveAll_33 : decode cX4_proveAll 33 = .ok (.aload_n 0, 1) := by decide +kernel
theorem dX4_proveAll_34 : decode cX4_proveAll 34 = .ok (.aload_n 0, 1) := by decide +kernel
theorem dX4_proveAll_35 : decode cX4_proveAll 35 = .ok (.aload_n 0, 1) := by decide +kernel
theorem dX4_proveAll_36 : decode cX4_proveAll 36 = .ok (.getfield 11, 3) := by decide +kernel
theorem dX4_proveAll_39 : decode cX4_proveAll 39 = .ok (.iload_n 3, 1) := by decide +kernel
theorem dX4_proveAll_40 : decode cX4_proveAll 40 = .ok (.aaload, 1) := by decide +kernel
theorem dX4_proveAll_41 : decode cX4_proveAll 41 = .ok (.aload_n 1, 1) := by decide +kernel
theorem dX4_proveAll_42 : decode cX4_proveAll 42 = .ok (.aload_n 2, 1) := by decide +kernel
theorem dX4_proveAll_43 : decode cX4_proveAll 43 = .ok (.invokevirtual 111, 3) := by decide +kernel
theorem dX4_proveAll_46 : decode cX4_proveAll 46 = .ok (.ifCond .eq 23, 3) := by decide +kernel
theorem dX4_proveAll_49 : decode cX4_proveAll 49 = .ok (.aload_n 0, 1) := by decide +kernel
theorem dX4_proveAll_50 : decode cX4_proveAll 50 = .ok (.getfield 11, 3) := by decide +kernel
theorem dX4_proveAll_53 : decode cX4_proveAll 53 = .ok (.iload_n 3, 1) := by decide +kernel
theorem dX4_proveAll_54 : decode cX4_proveAll 54 = .ok (.aaload, 1) := by decide +kernel
theorem dX4_proveAll_55 : decode cX4_proveAll 55 = .ok (.aload_n 0, 1) := by decide +kernel
theorem dX4_proveAll_56 : decode cX4_proveAll 56 = .ok (.getfield 33, 3) := by decide +kernel
theorem dX4_proveAll_59 : decode cX4_proveAll 59 = .ok (.aload_n 0, 1) := by decide +kernel
theorem dX4_proveAll_60 : decode cX4_proveAll 60 = .ok (.getfield 40, 3) := by decide +kernel
theorem dX4_proveAll_63 : decode cX4_proveAll 63 = .ok (.invokevirtual 115, 3) := by decide +kernel
theorem dX4_proveAll_66 : decode cX4_proveAll 66 = .ok (.goto 5, 3) := by decide +kernel
theorem dX4_proveAll_69 : decode cX4_proveAll 69 = .ok (.bipush (-8), 2) := by decide +kernel
theorem dX4_proveAll_71 : decode cX4_proveAll 71 = .ok (.putfield 24, 3) := by decide +kernel
theorem dX4_proveAll_74 : decode cX4_proveAll 74 = .ok (.aload_n 0, 1) := by decide +kernel
theorem dX4_proveAll_75 : decode cX4_proveAll 75 = .ok (.dup, 1) := by decide +kernel
theorem dX4_proveAll_76 : decode cX4_proveAll 76 = .ok (.getfield 21, 3) := by decide +kernel
theorem dX4_proveAll_79 : decode cX4_proveAll 79 = .ok (.aload_n 0, 1) := by decide +kernel
theorem dX4_proveAll_80 : decode cX4_proveAll 80 = .ok (.getfield 24, 3) := by decide +kernel
theorem dX4_proveAll_83 : decode cX4_proveAll 83 = .ok (.ifCond .ne 7, 3) := by decide +kernel
theorem dX4_proveAll_86 : decode cX4_proveAll 86 = .ok (.iconst 1, 1) := by decide +kernel
theorem dX4_proveAll_87 : decode cX4_proveAll 87 = .ok (.goto 4, 3) := by decide +kernel
theorem dX4_proveAll_90 : decode cX4_proveAll 90 = .ok (.iconst 0, 1) := by decide +kernel
theorem dX4_proveAll_91 : decode cX4_proveAll 91 = .ok (.iadd, 1) := by decide +kernel
theorem dX4_proveAll_92 : decode cX4_proveAll 92 = .ok (.putfield 21, 3) := by decide +kernel
theorem dX4_proveAll_95 : decode cX4_proveAll 95 = .ok (.iinc 3 1, 3) := by decide +kernel
theorem dX4_proveAll_98 : decode cX4_proveAll 98 = .ok (.goto (-86), 3) := by decide +kernel
theorem dX4_proveAll_101 : decode cX4_proveAll 101 = .ok (.return_, 1) := by decide +kernel
theorem dX4_findUnits_0 : decode cX4_findUnits 0 = .ok (.iconst 0, 1) := by decide +kernel
theorem dX4_findUnits_1 : decode cX4_findUnits 1 = .ok (.istore 4, 2) := by decide +kernel
theorem dX4_findUnits_3 : decode cX4_findUnits 3 = .ok (.iload 4, 2) := by decide +kernel
theorem dX4_findUnits_5 : decode cX4_findUnits 5 = .ok (.aload_n 1, 1) := by decide +kernel
theorem dX4_findUnits_6 : decode cX4_findUnits 6 = .ok (.getfield 119, 3) := by decide +kernel
theorem dX4_findUnits_9 : decode cX4_findUnits 9 = .ok (.if_icmp .ge 57, 3) := by decide +kernel
theorem dX4_findUnits_12 : decode cX4_findUnits 12 = .ok (.iload 4, 2) := by decide +kernel
theorem dX4_findUnits_14 : decode cX4_findUnits 14 = .ok (.iconst 4, 1) := by decide +kernel
theorem dX4_findUnits_15 : decode cX4_findUnits 15 = .ok (.if_icmp .ge 51, 3) := by decide +kernel
theorem dX4_findUnits_18 : decode cX4_findUnits 18 = .ok (.aload_n 0, 1) := by decide +kernel
theorem dX4_findUnits_19 : decode cX4_findUnits 19 = .ok (.getfield 33, 3) := by decide +kernel
theorem dX4_findUnits_22 : decode cX4_findUnits 22 = .ok (.iload 4, 2) := by decide +kernel
theorem dX4_findUnits_24 : decode cX4_findUnits 24 = .ok (.aload_n 3, 1) := by decide +kernel
theorem dX4_findUnits_25 : decode cX4_findUnits 25 = .ok (.aload_n 3, 1) := by decide +kernel
theorem dX4_findUnits_26 : decode cX4_findUnits 26 = .ok (.aload_n 2, 1) := by decide +kernel
theorem dX4_findUnits_27 : decode cX4_findUnits 27 = .ok (.aload_n 1, 1) := by decide +kernel
theorem dX4_findUnits_28 : decode cX4_findUnits 28 = .ok (.getfield 122, 3) := by decide +kernel
theorem dX4_findUnits_31 : decode cX4_findUnits 31 = .ok (.iload 4, 2) := by decide +kernel
theorem dX4_findUnits_33 : decode cX4_findUnits 33 = .ok (.iaload, 1) := by decide +kernel
theorem dX4_findUnits_34 : decode cX4_findUnits 34 = .ok (.aload_n 1, 1) := by decide +kernel
theorem dX4_findUnits_35 : decode cX4_findUnits 35 = .ok (.getfield 126, 3) := by decide +kernel
theorem dX4_findUnits_38 : decode cX4_findUnits 38 = .ok (.iload 4, 2) := by decide +kernel
theorem dX4_findUnits_40 : decode cX4_findUnits 40 = .ok (.iaload, 1) := by decide +kernel
theorem dX4_findUnits_41 : decode cX4_findUnits 41 = .ok (.invokevirtual 129, 3) := by decide +kernel
theorem dX4_findUnits_44 : decode cX4_findUnits 44 = .ok (.invokevirtual 135, 3) := by decide +kernel
theorem dX4_findUnits_47 : decode cX4_findUnits 47 = .ok (.aastore, 1) := by decide +kernel
theorem dX4_findUnits_48 : decode cX4_findUnits 48 = .ok (.aload_n 0, 1) := by decide +kernel
theorem dX4_findUnits_49 : decode cX4_findUnits 49 = .ok (.getfield 33, 3) := by decide +kernel
theorem dX4_findUnits_52 : decode cX4_findUnits 52 = .ok (.iload 4, 2) := by decide +kernel
theorem dX4_findUnits_54 : decode cX4_findUnits 54 = .ok (.aaload, 1) := by decide +kernel
theorem dX4_findUnits_55 : decode cX4_findUnits 55 = .ok (.ifnonnull 5, 3) := by decide +kernel
theorem dX4_findUnits_58 : decode cX4_findUnits 58 = .ok (.iconst 0, 1) := by decide +kernel
theorem dX4_findUnits_59 : decode cX4_findUnits 59 = .ok (.ireturn, 1) := by decide +kernel
theorem dX4_findUnits_60 : decode cX4_findUnits 60 = .ok (.iinc 4 1, 3) := by decide +kernel
theorem dX4_findUnits_63 : decode cX4_findUnits 63 = .ok (.goto (-60), 3) := by decide +kernel
theorem dX4_findUnits_66 : decode cX4_findUnits 66 = .ok (.iconst 1, 1) := by decide +kernel
theorem dX4_findUnits_67 : decode cX4_findUnits 67 = .ok (.ireturn, 1) := by decide +kernel
theorem dX5_init_0 : decode cX5_init 0 = .ok (.aload_n 0, 1) := by decide +kernel
theorem dX5_init_1 : decode cX5_init 1 = .ok (.invokespecial 3, 3) := by decide +kernel
theorem dX5_init_4 : decode cX5_init 4 = .ok (.aload_n 0, 1) := by decide +kernel
theorem dX5_init_5 : decode cX5_init 5 = .ok (.bipush 6, 2) := by decide +kernel
theorem dX5_init_7 : decode cX5_init 7 = .ok (.newarray .int, 2) := by decide +kernel
theorem dX5_init_9 : decode cX5_init 9 = .ok (.putfield 9, 3) := by decide +kernel
theorem dX5_init_12 : decode cX5_init 12 = .ok (.aload_n 0, 1) := by decide +kernel
theorem dX5_init_13 : decode cX5_init 13 = .ok (.bipush 6, 2) := by decide +kernel
theorem dX5_init_15 : decode cX5_init 15 = .ok (.newarray .long, 2) := by decide +kernel
theorem dX5_init_17 : decode cX5_init 17 = .ok (.putfield 15, 3) := by decide +kernel
theorem dX5_init_20 : decode cX5_init 20 = .ok (.aload_n 0, 1) := by decide +kernel
theorem dX5_init_21 : decode cX5_init 21 = .ok (.iload_n 1, 1) := by decide +kernel
theorem dX5_init_22 : decode cX5_init 22 = .ok (.putfield 19, 3) := by decide +kernel
theorem dX5_init_25 : decode cX5_init 25 = .ok (.iconst 0, 1) := by decide +kernel
theorem dX5_init_26 : decode cX5_init 26 = .ok (.istore_n 2, 1) := by decide +kernel
theorem dX5_init_27 : decode cX5_init 27 = .ok (.iload_n 2, 1) := by decide +kernel
theorem dX5_init_28 : decode cX5_init 28 = .ok (.bipush 6, 2) := by decide +kernel
theorem dX5_init_30 : decode cX5_init 30 = .ok (.if_icmp .ge 16, 3) := by decide +kernel
theorem dX5_init_33 : decode cX5_init 33 = .ok (.aload_n 0, 1) := by decide +kernel
theorem dX5_init_34 : decode cX5_init 34 = .ok (.getfield 9, 3) := by decide +kernel
theorem dX5_init_37 : decode cX5_init 37 = .ok (.iload_n 2, 1) := by decide +kernel
theorem dX5_init_38 : decode cX5_init 38 = .ok (.iconst (-1), 1) := by decide +kernel
theorem dX5_init_39 : decode cX5_init 39 = .ok (.iastore, 1) := by decide +kernel
theorem dX5_init_40 : decode cX5_init 40 = .ok (.iinc 2 1, 3) := by decide +kernel
theorem dX5_init_43 : decode cX5_init 43 = .ok (.goto (-16), 3) := by decide +kernel
theorem dX5_init_46 : decode cX5_init 46 = .ok (.return_, 1) := by decide +kernel
theorem dX5_store_0 : decode cX5_store 0 = .ok (.iload_n 1, 1) := by decide +kernel
theorem dX5_store_1 : decode cX5_store 1 = .ok (.ifCond .lt 30, 3) := by decide +kernel
theorem dX5_store_4 : decode cX5_store 4 = .ok (.iload_n 1, 1) := by decide +kernel
theorem dX5_store_5 : decode cX5_store 5 = .ok (.bipush 6, 2) := by decide +kernel
theorem dX5_store_7 : decode cX5_store 7 = .ok (.if_icmp .ge 24, 3) := by decide +kernel
theorem dX5_store_10 : decode cX5_store 10 = .ok (.iload_n 2, 1) := by decide +kernel
theorem dX5_store_11 : decode cX5_store 11 = .ok (.iconst (-1), 1) := by decide +kernel
theorem dX5_store_12 : decode cX5_store 12 = .ok (.if_icmp .eq 21, 3) := by decide +kernel
theorem dX5_store_15 : decode cX5_store 15 = .ok (.aload_n 0, 1) := by decide +kernel
theorem dX5_store_16 : decode cX5_store 16 = .ok (.getfield 19, 3) := by decide +kernel
theorem dX5_store_19 : decode cX5_store 19 = .ok (.iconst 2, 1) := by decide +kernel
theorem dX5_store_20 : decode cX5_store 20 = .ok (.if_icmp .eq 13, 3) := by decide +kernel
theorem dX5_store_23 : decode cX5_store 23 = .ok (.aload_n 0, 1) := by decide +kernel
theorem dX5_store_24 : decode cX5_store 24 = .ok (.getfield 19, 3) := by decide +kernel
theorem dX5_store_27 : decode cX5_store 27 = .ok (.iload_n 2, 1) := by decide +kernel
theorem dX5_store_28 : decode cX5_store 28 = .ok (.if_icmp .eq 5, 3) := by decide +kernel
theorem dX5_store_31 : decode cX5_store 31 = .ok (.iconst 0, 1) := by decide +kernel
theorem dX5_store_32 : decode cX5_store 32 = .ok (.ireturn, 1) := by decide +kernel
theorem dX5_store_33 : decode cX5_store 33 = .ok (.aload_n 0, 1) := by decide +kernel
theorem dX5_store_34 : decode cX5_store 34 = .ok (.getfield 9, 3) := by decide +kernel
theorem dX5_store_37 : decode cX5_store 37 = .ok (.iload_n 1, 1) := by decide +kernel
theorem dX5_store_38 : decode cX5_store 38 = .ok (.iload_n 2, 1) := by decide +kernel
theorem dX5_store_39 : decode cX5_store 39 = .ok (.iastore, 1) := by decide +kernel
theorem dX5_store_40 : decode cX5_store 40 = .ok (.aload_n 0, 1) := by decide +kernel
theorem dX5_store_41 : decode cX5_store 41 = .ok (.getfield 15, 3) := by decide +kernel
theorem dX5_store_44 : decode cX5_store 44 = .ok (.iload_n 1, 1) := by decide +kernel
theorem dX5_store_45 : decode cX5_store 45 = .ok (.lload_n 3, 1) := by decide +kernel
theorem dX5_store_46 : decode cX5_store 46 = .ok (.lastore, 1) := by decide +kernel
theorem dX5_store_47 : decode cX5_store 47 = .ok (.iconst 1, 1) := by decide +kernel
theorem dX5_store_48 : decode cX5_store 48 = .ok (.ireturn, 1) := by decide +kernel
theorem dX5_filled_0 : decode cX5_filled 0 = .ok (.iconst 0, 1) := by decide +kernel
theorem dX5_filled_1 : decode cX5_filled 1 = .ok (.istore_n 1, 1) := by decide +kernel
theorem dX5_filled_2 : decode cX5_filled 2 = .ok (.iconst 0, 1) := by decide +kernel
theorem dX5_filled_3 : decode cX5_filled 3 = .ok (.istore_n 2, 1) := by decide +kernel
theorem dX5_filled_4 : decode cX5_filled 4 = .ok (.iload_n 2, 1) := by decide +kernel
theorem dX5_filled_5 : decode cX5_filled 5 = .ok (.bipush 6, 2) := by decide +kernel
theorem dX5_filled_7 : decode cX5_filled 7 = .ok (.if_icmp .ge 27, 3) := by decide +kernel
theorem dX5_filled_10 : decode cX5_filled 10 = .ok (.iload_n 1, 1) := by decide +kernel
theorem dX5_filled_11 : decode cX5_filled 11 = .ok (.aload_n 0, 1) := by decide +kernel
theorem dX5_filled_12 : decode cX5_filled 12 = .ok (.getfield 9, 3) := by decide +kernel
theorem dX5_filled_15 : decode cX5_filled 15 = .ok (.iload_n 2, 1) := by decide +kernel
theorem dX5_filled_16 : decode cX5_filled 16 = .ok (.iaload, 1) := by decide +kernel
theorem dX5_filled_17 : decode cX5_filled 17 = .ok (.iconst (-1), 1) := by decide +kernel
theorem dX5_filled_18 : decode cX5_filled 18 = .ok (.if_icmp .ne 7, 3) := by decide +kernel
theorem dX5_filled_21 : decode cX5_filled 21 = .ok (.iconst 0, 1) := by decide +kernel
theorem dX5_filled_22 : decode cX5_filled 22 = .ok (.goto 4, 3) := by decide +kernel
theorem dX5_filled_25 : decode cX5_filled 25 = .ok (.iconst 1, 1) := by decide +kernel
theorem dX5_filled_26 : decode cX5_filled 26 = .ok (.iadd, 1) := by decide +kernel
theorem dX5_filled_27 : decode cX5_filled 27 = .ok (.istore_n 1, 1) := by decide +kernel
theorem dX5_filled_28 : decode cX5_filled 28 = .ok (.iinc 2 1, 3) := by decide +kernel
theorem dX5_filled_31 : decode cX5_filled 31 = .ok (.goto (-27), 3) := by decide +kernel
theorem dX5_filled_34 : decode cX5_filled 34 = .ok (.iload_n 1, 1) := by decide +kernel
theorem dX5_filled_35 : decode cX5_filled 35 = .ok (.ireturn, 1) := by decide +kernel
theorem dX6_init_0 : decode cX6_init 0 = .ok (.aload_n 0, 1) := by decide +kernel
theorem dX6_init_1 : decode cX6_init 1 = .ok (.invokespecial 3, 3) := by decide +kernel
theorem dX6_init_4 : decode cX6_init 4 = .ok (.aload_n 0, 1) := by decide +kernel
theorem dX6_init_5 : decode cX6_init 5 = .ok (.iconst 4, 1) := by decide +kernel
theorem dX6_init_6 : decode cX6_init 6 = .ok (.newarray .int, 2) := by decide +kernel
theorem dX6_init_8 : decode cX6_init 8 = .ok (.putfield 11, 3) := by decide +kernel
theorem dX6_init_11 : decode cX6_init 11 = .ok (.aload_n 0, 1) := by decide +kernel
theorem dX6_init_12 : decode cX6_init 12 = .ok (.iconst 4, 1) := by decide +kernel
theorem dX6_init_13 : decode cX6_init 13 = .ok (.newarray .int, 2) := by decide +kernel
theorem dX6_init_15 : decode cX6_init 15 = .ok (.putfield 15, 3) := by decide +kernel
theorem dX6_init_18 : decode cX6_init 18 = .ok (.aload_n 0, 1) := by decide +kernel
theorem dX6_init_19 : decode cX6_init 19 = .ok (.iconst 4, 1) := by decide +kernel
theorem dX6_init_20 : decode cX6_init 20 = .ok (.newarray .int, 2) := by decide +kernel
theorem dX6_init_22 : decode cX6_init 22 = .ok (.putfield 18, 3) := by decide +kernel
theorem dX6_init_25 : decode cX6_init 25 = .ok (.aload_n 0, 1) := by decide +kernel
theorem dX6_init_26 : decode cX6_init 26 = .ok (.iconst 4, 1) := by decide +kernel
theorem dX6_init_27 : decode cX6_init 27 = .ok (.newarray .int, 2) := by decide +kernel
theorem dX6_init_29 : decode cX6_init 29 = .ok (.putfield 21, 3) := by decide +kernel
theorem dX6_init_32 : decode cX6_init 32 = .ok (.aload_n 0, 1) := by decide +kernel
theorem dX6_init_33 : decode cX6_init 33 = .ok (.iconst 5, 1) := by decide +kernel
theorem dX6_init_34 : decode cX6_init 34 = .ok (.newarray .int, 2) := by decide +kernel
theorem dX6_init_36 : decode cX6_init 36 = .ok (.putfield 24, 3) := by decide +kernel
theorem dX6_init_39 : decode cX6_init 39 = .ok (.aload_n 0, 1) := by decide +kernel
theorem dX6_init_40 : decode cX6_init 40 = .ok (.new 27, 3) := by decide +kernel
theorem dX6_init_43 : decode cX6_init 43 = .ok (.dup, 1) := by decide +kernel
theorem dX6_init_44 : decode cX6_init 44 = .ok (.invokespecial 29, 3) := by decide +kernel
theorem dX6_init_47 : decode cX6_init 47 = .ok (.putfield 30, 3) := by decide +kernel
theorem dX6_init_50 : decode cX6_init 50 = .ok (.return_, 1) := by decide +kernel
theorem dX6_start_0 : decode cX6_start 0 = .ok (.aload_n 0, 1) := by decide +kernel
theorem dX6_start_1 : decode cX6_start 1 = .ok (.iload_n 1, 1) := by decide +kernel
theorem dX6_start_2 : decode cX6_start 2 = .ok (.putfield 34, 3) := by decide +kernel
theorem dX6_start_5 : decode cX6_start 5 = .ok (.aload_n 0, 1) := by decide +kernel
theorem dX6_start_6 : decode cX6_start 6 = .ok (.aload_n 2, 1) := by decide +kernel
theorem dX6_start_7 : decode cX6_start 7 = .ok (.putfield 38, 3) := by decide +kernel
theorem dX6_start_10 : decode cX6_start 10 = .ok (.aload_n 0, 1) := by decide +kernel
theorem dX6_start_11 : decode cX6_start 11 = .ok (.aload_n 3, 1) := by decide +kernel
theorem dX6_start_12 : decode cX6_start 12 = .ok (.putfield 42, 3) := by decide +kernel
theorem dX6_start_15 : decode cX6_start 15 = .ok (.aload_n 0, 1) := by decide +kernel
theorem dX6_start_16 : decode cX6_start 16 = .ok (.iconst 0, 1) := by decide +kernel
theorem dX6_start_17 : decode cX6_start 17 = .ok (.putfield 45, 3) := by decide +kernel
theorem dX6_start_20 : decode cX6_start 20 = .ok (.aload_n 0, 1) := by decide +kernel
theorem dX6_start_21 : decode cX6_start 21 = .ok (.iconst 0, 1) := by decide +kernel
theorem dX6_start_22 : decode cX6_start 22 = .ok (.putfield 49, 3) := by decide +kernel
theorem dX6_start_25 : decode cX6_start 25 = .ok (.aload_n 0, 1) := by decide +kernel
theorem dX6_start_26 : decode cX6_start 26 = .ok (.iconst 0, 1) := by decide +kernel
theorem dX6_start_27 : decode cX6_start 27 = .ok (.putfield 52, 3) := by decide +kernel
theorem dX6_start_30 : decode cX6_start 30 = .ok (.aload_n 0, 1) := by decide +kernel
theorem dX6_start_31 : decode cX6_start 31 = .ok (.iconst 1, 1) := by decide +kernel
theorem dX6_start_32 : decode cX6_start 32 = .ok (.putfield 55, 3) := by decide +kernel
theorem dX6_start_35 : decode cX6_start 35 = .ok (.iconst 0, 1) := by decide +kernel
theorem dX6_start_36 : decode cX6_start 36 = .ok (.istore 4, 2) := by decide +kernel
theorem dX6_start_38 : decode cX6_start 38 = .ok (.iload 4, 2) := by decide +kernel
theorem dX6_start_40 : decode cX6_start 40 = .ok (.iconst 5, 1) := by decide +kernel
theorem dX6_start_41 : decode cX6_start 41 = .ok (.if_icmp .ge 17, 3) := by decide +kernel
theorem dX6_start_44 : decode cX6_start 44 = .ok (.aload_n 0, 1) := by decide +kernel
theorem dX6_start_45 : decode cX6_start 45 = .ok (.getfield 24, 3) := by decide +kernel
theorem dX6_start_48 : decode cX6_start 48 = .ok (.iload 4, 2) := by decide +kernel
theorem dX6_start_50 : decode cX6_start 50 = .ok (.iconst 0, 1) := by decide +kernel
theorem dX6_start_51 : decode cX6_start 51 = .ok (.iastore, 1) := by decide +kernel
theorem dX6_start_52 : decode cX6_start 52 = .ok (.iinc 4 1, 3) := by decide +kernel
theorem dX6_start_55 : decode cX6_start 55 = .ok (.goto (-17), 3) := by decide +kernel
theorem dX6_start_58 : decode cX6_start 58 = .ok (.return_, 1) := by decide +kernel
theorem dX6_isShiftedItself_0 : decode cX6_isShiftedItself 0 = .ok (.aload_n 0, 1) := by decide +kernel
theorem dX6_isShiftedItself_1 : decode cX6_isShiftedItself 1 = .ok (.getfield 49, 3) := by decide +kernel
theorem dX6_isShiftedItself_4 : decode cX6_isShiftedItself 4 = .ok (.ifCond .eq 14, 3) := by decide +kernel
theorem dX6_isShiftedItself_7 : decode cX6_isShiftedItself 7 = .ok (.aload_n 0, 1) := by decide +kernel
theorem dX6_isShiftedItself_8 : decode cX6_isShiftedItself 8 = .ok (.getfield 45, 3) := by decide +kernel
theorem dX6_isShiftedItself_11 : decode cX6_isShiftedItself 11 = .ok (.ifCond .ne 7, 3) := by decide +kernel
theorem dX6_isShiftedItself_14 : decode cX6_isShiftedItself 14 = .ok (.iconst 1, 1) := by decide +kernel
theorem dX6_isShiftedItself_15 : decode cX6_isShiftedItself 15 = .ok (.goto 4, 3) := by decide +kernel
theorem dX6_isShiftedItself_18 : decode cX6_isShiftedItself 18 = .ok (.iconst 0, 1) := by decide +kernel
theorem dX6_isShiftedItself_19 : decode cX6_isShiftedItself 19 = .ok (.ireturn, 1) := by decide +kernel
theorem dX6_read_0 : decode cX6_read 0 = .ok (.aload_n 1, 1) := by decide +kernel
theorem dX6_read_1 : decode cX6_read 1 = .ok (.iconst 0, 1) := by decide +kernel
theorem dX6_read_2 : decode cX6_read 2 = .ok (.invokevirtual 58, 3) := by decide +kernel
theorem dX6_read_5 : decode cX6_read 5 = .ok (.ifCond .ne 38, 3) := by decide +kernel
theorem dX6_read_8 : decode cX6_read 8 = .ok (.aload_n 0, 1) := by decide +kernel
theorem dX6_read_9 : decode cX6_read 9 = .ok (.getfield 11, 3) := by decide +kernel
theorem dX6_read_12 : decode cX6_read 12 = .ok (.iconst 0, 1) := by decide +kernel
theorem dX6_read_13 : decode cX6_read 13 = .ok (.iconst 1, 1) := by decide +kernel
theorem dX6_read_14 : decode cX6_read 14 = .ok (.iastore, 1) := by decide +kernel
theorem dX6_read_15 : decode cX6_read 15 = .ok (.aload_n 0, 1) := by decide +kernel
theorem dX6_read_16 : decode cX6_read 16 = .ok (.getfield 15, 3) := by decide +kernel
theorem dX6_read_19 : decode cX6_read 19 = .ok (.iconst 0, 1) := by decide +kernel
theorem dX6_read_20 : decode cX6_read 20 = .ok (.iconst 1, 1) := by decide +kernel
theorem dX6_read_21 : decode cX6_read 21 = .ok (.iastore, 1) := by decide +kernel
theorem dX6_read_22 : decode cX6_read 22 = .ok (.aload_n 0, 1) := by decide +kernel
theorem dX6_read_23 : decode cX6_read 23 = .ok (.aload_n 1, 1) := by decide +kernel
theorem dX6_read_24 : decode cX6_read 24 = .ok (.iconst 0, 1) := by decide +kernel
theorem dX6_read_25 : decode cX6_read 25 = .ok (.invokevirtual 64, 3) := by decide +kernel
theorem dX6_read_28 : decode cX6_read 28 = .ok (.ifCond .ne 5, 3) := by decide +kernel
theorem dX6_read_31 : decode cX6_read 31 = .ok (.iconst 0, 1) := by decide +kernel
theorem dX6_read_32 : decode cX6_read 32 = .ok (.ireturn, 1) := by decide +kernel
theorem dX6_read_33 : decode cX6_read 33 = .ok (.aload_n 0, 1) := by decide +kernel
theorem dX6_read_34 : decode cX6_read 34 = .ok (.aload_n 1, 1) := by decide +kernel
theorem dX6_read_35 : decode cX6_read 35 = .ok (.invokevirtual 68, 3) := by decide +kernel
theorem dX6_read_38 : decode cX6_read 38 = .ok (.putfield 55, 3) := by decide +kernel
theorem dX6_read_41 : decode cX6_read 41 = .ok (.iconst 1, 1) := by decide +kernel
theorem dX6_read_42 : decode cX6_read 42 = .ok (.ireturn, 1) := by decide +kernel
theorem dX6_read_43 : decode cX6_read 43 = .ok (.iconst 0, 1) := by decide +kernel
theorem dX6_read_44 : decode cX6_read 44 = .ok (.istore_n 2, 1) := by decide +kernel
theorem dX6_read_45 : decode cX6_read 45 = .ok (.iload_n 2, 1) := by decide +kernel
theorem dX6_read_46 : decode cX6_read 46 = .ok (.iconst 4, 1) := by decide +kernel
theorem dX6_read_47 : decode cX6_read 47 = .ok (.if_icmp .ge 70, 3) := by decide +kernel
theorem dX6_read_50 : decode cX6_read 50 = .ok (.aload_n 0, 1) := by decide +kernel
theorem dX6_read_51 : decode cX6_read 51 = .ok (.aload_n 1, 1) := by decide +kernel
theorem dX6_read_52 : decode cX6_read 52 = .ok (.iload_n 2, 1) := by decide +kernel
theorem dX6_read_53 : decode cX6_read 53 = .ok (.invokevirtual 72, 3) := by decide +kernel
theorem dX6_read_56 : decode cX6_read 56 = .ok (.ifCond .ne 5, 3) := by decide +kernel
theorem dX6_read_59 : decode cX6_read 59 = .ok (.iconst 0, 1) := by decide +kernel
theorem dX6_read_60 : decode cX6_read 60 = .ok (.ireturn, 1) := by decide +kernel
theorem dX6_read_61 : decode cX6_read 61 = .ok (.aload_n 0, 1) := by decide +kernel
theorem dX6_read_62 : decode cX6_read 62 = .ok (.aload_n 1, 1) := by decide +kernel
theorem dX6_read_63 : decode cX6_read 63 = .ok (.iload_n 2, 1) := by decide +kernel
theorem dX6_read_64 : decode cX6_read 64 = .ok (.invokevirtual 64, 3) := by decide +kernel
theorem dX6_read_67 : decode cX6_read 67 = .ok (.ifCond .ne 13, 3) := by decide +kernel
theorem dX6_read_70 : decode cX6_read 70 = .ok (.iload_n 2, 1) := by decide +kernel
theorem dX6_read_71 : decode cX6_read 71 = .ok (.ifCond .ne 7, 3) := by decide +kernel
theorem dX6_read_74 : decode cX6_read 74 = .ok (.iconst 1, 1) := by decide +kernel
theorem dX6_read_75 : decode cX6_read 75 = .ok (.goto 4, 3) := by decide +kernel
theorem dX6_read_78 : decode cX6_read 78 = .ok (.iconst 0, 1) := by decide +kernel
theorem dX6_read_79 : decode cX6_read 79 = .ok (.ireturn, 1) := by decide +kernel
theorem dX6_read_80 : decode cX6_read 80 = .ok (.iload_n 2, 1) := by decide +kernel
theorem dX6_read_81 : decode cX6_read 81 = .ok (.ifCond .ne 20, 3) := by decide +kernel
theorem dX6_read_84 : decode cX6_read 84 = .ok (.aload_n 1, 1) := by decide +kernel
theorem dX6_read_85 : decode cX6_read 85 = .ok (.invokestatic 75, 3) := by decide +kernel
theorem dX6_read_88 : decode cX6_read 88 = .ok (.ifCond .eq 13, 3) := by decide +kernel
theorem dX6_read_91 : decode cX6_read 91 = .ok (.aload_n 0, 1) := by decide +kernel
theorem dX6_read_92 : decode cX6_read 92 = .ok (.aload_n 1, 1) := by decide +kernel
theorem dX6_read_93 : decode cX6_read 93 = .ok (.invokevirtual 68, 3) := by decide +kernel
theorem dX6_read_96 : decode cX6_read 96 = .ok (.putfield 55, 3) := by decide +kernel
theorem dX6_read_99 : decode cX6_read 99 = .ok (.iconst 1, 1) := by decide +kernel
theorem dX6_read_100 : decode cX6_read 100 = .ok (.ireturn, 1) := by decide +kernel
theorem dX6_read_101 : decode cX6_read 101 = .ok (.aload_n 1, 1) := by decide +kernel
theorem dX6_read_102 : decode cX6_read 102 = .ok (.iconst 0, 1) := by decide +kernel
theorem dX6_read_103 : decode cX6_read 103 = .ok (.invokevirtual 58, 3) := by decide +kernel
theorem dX6_read_106 : decode cX6_read 106 = .ok (.ifCond .ne 5, 3) := by decide +kernel
theorem dX6_read_109 : decode cX6_read 109 = .ok (.iconst 1, 1) := by decide +kernel
theorem dX6_read_110 : decode cX6_read 110 = .ok (.ireturn, 1) := by decide +kernel
theorem dX6_read_111 : decode cX6_read 111 = .ok (.iinc 2 1, 3) := by decide +kernel
theorem dX6_read_114 : decode cX6_read 114 = .ok (.goto (-69), 3) := by decide +kernel
theorem dX6_read_117 : decode cX6_read 117 = .ok (.iconst 1, 1) := by decide +kernel
theorem dX6_read_118 : decode cX6_read 118 = .ok (.ireturn, 1) := by decide +kernel
theorem dX6_endsByFigure_0 : decode cX6_endsByFigure 0 = .ok (.aload_n 0, 1) := by decide +kernel
theorem dX6_endsByFigure_1 : decode cX6_endsByFigure 1 = .ok (.invokevirtual 79, 3) := by decide +kernel
theorem dX6_endsByFigure_4 : decode cX6_endsByFigure 4 = .ok (.ifCond .eq 33, 3) := by decide +kernel
theorem dX6_endsByFigure_7 : decode cX6_endsByFigure 7 = .ok (.aload_n 0, 1) := by decide +kernel
theorem dX6_endsByFigure_8 : decode cX6_endsByFigure 8 = .ok (.iconst 1, 1) := by decide +kernel
theorem dX6_endsByFigure_9 : decode cX6_endsByFigure 9 = .ok (.invokevirtual 58, 3) := by decide +kernel
theorem dX6_endsByFigure_12 : decode cX6_endsByFigure 12 = .ok (.ifCond .ne 25, 3) := by decide +kernel
theorem dX6_endsByFigure_15 : decode cX6_endsByFigure 15 = .ok (.aload_n 0, 1) := by decide +kernel
theorem dX6_endsByFigure_16 : decode cX6_endsByFigure 16 = .ok (.iconst 1, 1) := by decide +kernel
theorem dX6_endsByFigure_17 : decode cX6_endsByFigure 17 = .ok (.invokevirtual 83, 3) := by decide +kernel
theorem dX6_endsByFigure_20 : decode cX6_endsByFigure 20 = .ok (.ifCond .ne 17, 3) := by decide +kernel
theorem dX6_endsByFigure_23 : decode cX6_endsByFigure 23 = .ok (.aload_n 0, 1) := by decide +kernel
theorem dX6_endsByFigure_24 : decode cX6_endsByFigure 24 = .ok (.iconst 1, 1) := by decide +kernel
theorem dX6_endsByFigure_25 : decode cX6_endsByFigure 25 = .ok (.invokevirtual 86, 3) := by decide +kernel
theorem dX6_endsByFigure_28 : decode cX6_endsByFigure 28 = .ok (.bipush 46, 2) := by decide +kernel
theorem dX6_endsByFigure_30 : decode cX6_endsByFigure 30 = .ok (.if_icmp .eq 7, 3) := by decide +kernel
theorem dX6_endsByFigure_33 : decode cX6_endsByFigure 33 = .ok (.iconst 1, 1) := by decide +kernel
theorem dX6_endsByFigure_34 : decode cX6_endsByFigure 34 = .ok (.goto 4, 3) := by decide +kernel
theorem dX6_endsByFigure_37 : decode cX6_endsByFigure 37 = .ok (.iconst 0, 1) := by decide +kernel
theorem dX6_endsByFigure_38 : decode cX6_endsByFigure 38 = .ok (.ireturn, 1) := by decide +kernel
theorem dX6_readName_0 : decode cX6_readName 0 = .ok (.aload_n 0, 1) := by decide +kernel
theorem dX6_readName_1 : decode cX6_readName 1 = .ok (.getfield 18, 3) := by decide +kernel
theorem dX6_readName_4 : decode cX6_readName 4 = .ok (.iload_n 2, 1) := by decide +kernel
theorem dX6_readName_5 : decode cX6_readName 5 = .ok (.aload_n 1, 1) := by decide +kernel
theorem dX6_readName_6 : decode cX6_readName 6 = .ok (.getfield 90, 3) := by decide +kernel
theorem dX6_readName_9 : decode cX6_readName 9 = .ok (.iastore, 1) := by decide +kernel
theorem dX6_readName_10 : decode cX6_readName 10 = .ok (.aload_n 0, 1) := by decide +kernel
theorem dX6_readName_11 : decode cX6_readName 11 = .ok (.getfield 21, 3) := by decide +kernel
theorem dX6_readName_14 : decode cX6_readName 14 = .ok (.iload_n 2, 1) := by decide +kernel
theorem dX6_readName_15 : decode cX6_readName 15 = .ok (.aload_n 1, 1) := by decide +kernel
theorem dX6_readName_16 : decode cX6_readName 16 = .ok (.invokevirtual 93, 3) := by decide +kernel
theorem dX6_readName_19 : decode cX6_readName 19 = .ok (.iastore, 1) := by decide +kernel
theorem dX6_readName_20 : decode cX6_readName 20 = .ok (.aload_n 0, 1) := by decide +kernel
theorem dX6_readName_21 : decode cX6_readName 21 = .ok (.getfield 21, 3) := by decide +kernel
theorem dX6_readName_24 : decode cX6_readName 24 = .ok (.iload_n 2, 1) := by decide +kernel
theorem dX6_readName_25 : decode cX6_readName 25 = .ok (.iaload, 1) := by decide +kernel
theorem dX6_readName_26 : decode cX6_readName 26 = .ok (.ifCond .ne 5, 3) := by decide +kernel
theorem dX6_readName_29 : decode cX6_readName 29 = .ok (.iconst 0, 1) := by decide +kernel
theorem dX6_readName_30 : decode cX6_readName 30 = .ok (.ireturn, 1) := by decide +kernel
theorem dX6_readName_31 : decode cX6_readName 31 = .ok (.aload_n 0, 1) := by decide +kernel
theorem dX6_readName_32 : decode cX6_readName 32 = .ok (.iload_n 2, 1) := by decide +kernel
theorem dX6_readName_33 : decode cX6_readName 33 = .ok (.iconst 1, 1) := by decide +kernel
theorem dX6_readName_34 : decode cX6_readName 34 = .ok (.iadd, 1) := by decide +kernel
theorem dX6_readName_35 : decode cX6_readName 35 = .ok (.putfield 52, 3) := by decide +kernel
theorem dX6_readName_38 : decode cX6_readName 38 = .ok (.iconst 1, 1) := by decide +kernel
theorem dX6_readName_39 : decode cX6_readName 39 = .ok (.ireturn, 1) := by decide +kernel
theorem dX6_readNumber_0 : decode cX6_readNumber 0 = .ok (.aload_n 0, 1) := by decide +kernel
theorem dX6_readNumber_1 : decode cX6_readNumber 1 = .ok (.getfield 11, 3) := by decide +kernel
theorem dX6_readNumber_4 : decode cX6_readNumber 4 = .ok (.iload_n 2, 1) := by decide +kernel
theorem dX6_readNumber_5 : decode cX6_readNumber 5 = .ok (.aload_n 1, 1) := by decide +kernel
theorem dX6_readNumber_6 : decode cX6_readNumber 6 = .ok (.invokevirtual 96, 3) := by decide +kernel
theorem dX6_readNumber_9 : decode cX6_readNumber 9 = .ok (.iastore, 1) := by decide +kernel
theorem dX6_readNumber_10 : decode cX6_readNumber 10 = .ok (.aload_n 0, 1) := by decide +kernel
theorem dX6_readNumber_11 : decode cX6_readNumber 11 = .ok (.getfield 15, 3) := by decide +kernel
theorem dX6_readNumber_14 : decode cX6_readNumber 14 = .ok (.iload_n 2, 1) := by decide +kernel
theorem dX6_readNumber_15 : decode cX6_readNumber 15 = .ok (.iconst 1, 1) := by decide +kernel
theorem dX6_readNumber_16 : decode cX6_readNumber 16 = .ok (.iastore, 1) := by decide +kernel
theorem dX6_readNumber_17 : decode cX6_readNumber 17 = .ok (.aload_n 0, 1) := by decide +kernel
theorem dX6_readNumber_18 : decode cX6_readNumber 18 = .ok (.getfield 11, 3) := by decide +kernel
theorem dX6_readNumber_21 : decode cX6_readNumber 21 = .ok (.iload_n 2, 1) := by decide +kernel
theorem dX6_readNumber_22 : decode cX6_readNumber 22 = .ok (.iaload, 1) := by decide +kernel
theorem dX6_readNumber_23 : decode cX6_readNumber 23 = .ok (.ifCond .ge 5, 3) := by decide +kernel
theorem dX6_readNumber_26 : decode cX6_readNumber 26 = .ok (.iconst 0, 1) := by decide +kernel
theorem dX6_readNumber_27 : decode cX6_readNumber 27 = .ok (.ireturn, 1) := by decide +kernel
theorem dX6_readNumber_28 : decode cX6_readNumber 28 = .ok (.aload_n 1, 1) := by decide +kernel
theorem dX6_readNumber_29 : decode cX6_readNumber 29 = .ok (.bipush 46, 2) := by decide +kernel
theorem dX6_readNumber_31 : decode cX6_readNumber 31 = .ok (.invokevirtual 99, 3) := by decide +kernel
theorem dX6_readNumber_34 : decode cX6_readNumber 34 = .ok (.ifCond .ne 5, 3) := by decide +kernel
theorem dX6_readNumber_37 : decode cX6_readNumber 37 = .ok (.iconst 1, 1) := by decide +kernel
theorem dX6_readNumber_38 : decode cX6_readNumber 38 = .ok (.ireturn, 1) := by decide +kernel
theorem dX6_readNumber_39 : decode cX6_readNumber 39 = .ok (.iconst 0, 1) := by decide +kernel
theorem dX6_readNumber_40 : decode cX6_readNumber 40 = .ok (.istore_n 3, 1) := by decide +kernel
theorem dX6_readNumber_41 : decode cX6_readNumber 41 = .ok (.iload_n 3, 1) := by decide +kernel
theorem dX6_readNumber_42 : decode cX6_readNumber 42 = .ok (.iconst 3, 1) := by decide +kernel
theorem dX6_readNumber_43 : decode cX6_readNumber 43 = .ok (.if_icmp .ge 52, 3) := by decide +kernel
theorem dX6_readNumber_46 : decode cX6_readNumber 46 = .ok (.aload_n 1, 1) := by decide +kernel
theorem dX6_readNumber_47 : decode cX6_readNumber 47 = .ok (.iconst 0, 1) := by decide +kernel
theorem dX6_readNumber_48 : decode cX6_readNumber 48 = .ok (.invokevirtual 58, 3) := by decide +kernel
theorem dX6_readNumber_51 : decode cX6_readNumber 51 = .ok (.ifCond .eq 44, 3) := by decide +kernel
theorem dX6_readNumber_54 : decode cX6_readNumber 54 = .ok (.aload_n 0, 1) := by decide +kernel
theorem dX6_readNumber_55 : decode cX6_readNumber 55 = .ok (.getfield 11, 3) := by decide +kernel
theorem dX6_readNumber_58 : decode cX6_readNumber 58 = .ok (.iload_n 2, 1) := by decide +kernel
theorem dX6_readNumber_59 : decode cX6_readNumber 59 = .ok (.aload_n 0, 1) := by decide +kernel
theorem dX6_readNumber_60 : decode cX6_readNumber 60 = .ok (.getfield 11, 3) := by decide +kernel
theorem dX6_readNumber_63 : decode cX6_readNumber 63 = .ok (.iload_n 2, 1) := by decide +kernel
theorem dX6_readNumber_64 : decode cX6_readNumber 64 = .ok (.iaload, 1) := by decide +kernel
theorem dX6_readNumber_65 : decode cX6_readNumber 65 = .ok (.bipush 10, 2) := by decide +kernel
theorem dX6_readNumber_67 : decode cX6_readNumber 67 = .ok (.imul, 1) := by decide +kernel
theorem dX6_readNumber_68 : decode cX6_readNumber 68 = .ok (.aload_n 1, 1) := by decide +kernel
theorem dX6_readNumber_69 : decode cX6_readNumber 69 = .ok (.invokevirtual 102, 3) := by decide +kernel
theorem dX6_readNumber_72 : decode cX6_readNumber 72 = .ok (.iadd, 1) := by decide +kernel
theorem dX6_readNumber_73 : decode cX6_readNumber 73 = .ok (.iastore, 1) := by decide +kernel
theorem dX6_readNumber_74 : decode cX6_readNumber 74 = .ok (.aload_n 0, 1) := by decide +kernel
theorem dX6_readNumber_75 : decode cX6_readNumber 75 = .ok (.getfield 15, 3) := by decide +kernel
theorem dX6_readNumber_78 : decode cX6_readNumber 78 = .ok (.iload_n 2, 1) := by decide +kernel
theorem dX6_readNumber_79 : decode cX6_readNumber 79 = .ok (.aload_n 0, 1) := by decide +kernel
theorem dX6_readNumber_80 : decode cX6_readNumber 80 = .ok (.getfield 15, 3) := by decide +kernel
theorem dX6_readNumber_83 : decode cX6_readNumber 83 = .ok (.iload_n 2, 1) := by decide +kernel
theorem dX6_readNumber_84 : decode cX6_readNumber 84 = .ok (.iaload, 1) := by decide +kernel
theorem dX6_readNumber_85 : decode cX6_readNumber 85 = .ok (.bipush 10, 2) := by decide +kernel
theorem dX6_readNumber_87 : decode cX6_readNumber 87 = .ok (.imul, 1) := by decide +kernel
theorem dX6_readNumber_88 : decode cX6_readNumber 88 = .ok (.iastore, 1) := by decide +kernel
theorem dX6_readNumber_89 : decode cX6_readNumber 89 = .ok (.iinc 3 1, 3) := by decide +kernel
theorem dX6_readNumber_92 : decode cX6_readNumber 92 = .ok (.goto (-51), 3) := by decide +kernel
theorem dX6_readNumber_95 : decode cX6_readNumber 95 = .ok (.aload_n 0, 1) := by decide +kernel
theorem dX6_readNumber_96 : decode cX6_readNumber 96 = .ok (.getfield 15, 3) := by decide +kernel
theorem dX6_readNumber_99 : decode cX6_readNumber 99 = .ok (.iload_n 2, 1) := by decide +kernel
theorem dX6_readNumber_100 : decode cX6_readNumber 100 = .ok (.iaload, 1) := by decide +kernel
theorem dX6_readNumber_101 : decode cX6_readNumber 101 = .ok (.iconst 1, 1) := by decide +kernel
theorem dX6_readNumber_102 : decode cX6_readNumber 102 = .ok (.if_icmp .le 7, 3) := by decide +kernel
theorem dX6_readNumber_105 : decode cX6_readNumber 105 = .ok (.iconst 1, 1) := by decide +kernel
theorem dX6_readNumber_106 : decode cX6_readNumber 106 = .ok (.goto 4, 3) := by decide +kernel
theorem dX6_readNumber_109 : decode cX6_readNumber 109 = .ok (.iconst 0, 1) := by decide +kernel
theorem dX6_readNumber_110 : decode cX6_readNumber 110 = .ok (.ireturn, 1) := by decide +kernel
theorem dX6_judge_0 : decode cX6_judge 0 = .ok (.aload_n 0, 1) := by decide +kernel
theorem dX6_judge_1 : decode cX6_judge 1 = .ok (.getfield 38, 3) := by decide +kernel
theorem dX6_judge_4 : decode cX6_judge 4 = .ok (.ifnull 10, 3) := by decide +kernel
theorem dX6_judge_7 : decode cX6_judge 7 = .ok (.aload_n 0, 1) := by decide +kernel
theorem dX6_judge_8 : decode cX6_judge 8 = .ok (.getfield 42, 3) := by decide +kernel
theorem dX6_judge_11 : decode cX6_judge 11 = .ok (.ifnonnull 28, 3) := by decide +kernel
theorem dX6_judge_14 : decode cX6_judge 14 = .ok (.aload_n 0, 1) := by decide +kernel
theorem dX6_judge_15 : decode cX6_judge 15 = .ok (.getfield 52, 3) := by decide +kernel
theorem dX6_judge_18 : decode cX6_judge 18 = .ok (.iconst 1, 1) := by decide +kernel
theorem dX6_judge_19 : decode cX6_judge 19 = .ok (.if_icmp .le 12, 3) := by decide +kernel
theorem dX6_judge_22 : decode cX6_judge 22 = .ok (.aload_n 0, 1) := by decide +kernel
theorem dX6_judge_23 : decode cX6_judge 23 = .ok (.aload_n 1, 1) := by decide +kernel
theorem dX6_judge_24 : decode cX6_judge 24 = .ok (.aload_n 2, 1) := by decide +kernel
theorem dX6_judge_25 : decode cX6_judge 25 = .ok (.invokevirtual 105, 3) := by decide +kernel
theorem dX6_judge_28 : decode cX6_judge 28 = .ok (.goto 10, 3) := by decide +kernel
theorem dX6_judge_31 : decode cX6_judge 31 = .ok (.aload_n 0, 1) := by decide +kernel
theorem dX6_judge_32 : decode cX6_judge 32 = .ok (.aload_n 1, 1) := by decide +kernel
theorem dX6_judge_33 : decode cX6_judge 33 = .ok (.iconst 0, 1) := by decide +kernel
theorem dX6_judge_34 : decode cX6_judge 34 = .ok (.aaload, 1) := by decide +kernel
theorem dX6_judge_35 : decode cX6_judge 35 = .ok (.invokevirtual 109, 3) := by decide +kernel
theorem dX6_judge_38 : decode cX6_judge 38 = .ok (.ireturn, 1) := by decide +kernel
theorem dX6_judge_39 : decode cX6_judge 39 = .ok (.aload_n 0, 1) := by decide +kernel
theorem dX6_judge_40 : decode cX6_judge 40 = .ok (.getfield 34, 3) := by decide +kernel
theorem dX6_judge_43 : decode cX6_judge 43 = .ok (.iconst 1, 1) := by decide +kernel
theorem dX6_judge_44 : decode cX6_judge 44 = .ok (.if_icmp .eq 11, 3) := by decide +kernel
theorem dX6_judge_47 : decode cX6_judge 47 = .ok (.aload_n 0, 1) := by decide +kernel
theorem dX6_judge_48 : decode cX6_judge 48 = .ok (.getfield 34, 3) := by decide +kernel
theorem dX6_judge_51 : decode cX6_judge 51 = .ok (.iconst 2, 1) := by decide +kernel
theorem dX6_judge_52 : decode cX6_judge 52 = .ok (.if_icmp .ne 10, 3) := by decide +kernel
theorem dX6_judge_55 : decode cX6_judge 55 = .ok (.aload_n 0, 1) := by decide +kernel
theorem dX6_judge_56 : decode cX6_judge 56 = .ok (.invokevirtual 113, 3) := by decide +kernel
theorem dX6_judge_59 : decode cX6_judge 59 = .ok (.goto 7, 3) := by decide +kernel
theorem dX6_judge_62 : decode cX6_judge 62 = .ok (.aload_n 0, 1) := by decide +kernel
theorem dX6_judge_63 : decode cX6_judge 63 = .ok (.invokevirtual 116, 3) := by decide +kernel
theorem dX6_judge_66 : decode cX6_judge 66 = .ok (.ireturn, 1) := by decide +kernel
theorem dX6_judgeSingle_0 : decode cX6_judgeSingle 0 = .ok (.aload_n 0, 1) := by decide +kernel
theorem dX6_judgeSingle_1 : decode cX6_judgeSingle 1 = .ok (.getfield 30, 3) := by decide +kernel
theorem dX6_judgeSingle_4 : decode cX6_judgeSingle 4 = .ok (.aload_n 0, 1) := by decide +kernel
theorem dX6_judgeSingle_5 : decode cX6_judgeSingle 5 = .ok (.getfield 11, 3) := by decide +kernel
theorem dX6_judgeSingle_8 : decode cX6_judgeSingle 8 = .ok (.iconst 0, 1) := by decide +kernel
theorem dX6_judgeSingle_9 : decode cX6_judgeSingle 9 = .ok (.iaload, 1) := by decide +kernel
theorem dX6_judgeSingle_10 : decode cX6_judgeSingle 10 = .ok (.i2l, 1) := by decide +kernel
theorem dX6_judgeSingle_11 : decode cX6_judgeSingle 11 = .ok (.aload_n 0, 1) := by decide +kernel
theorem dX6_judgeSingle_12 : decode cX6_judgeSingle 12 = .ok (.getfield 15, 3) := by decide +kernel
theorem dX6_judgeSingle_15 : decode cX6_judgeSingle 15 = .ok (.iconst 0, 1) := by decide +kernel
theorem dX6_judgeSingle_16 : decode cX6_judgeSingle 16 = .ok (.iaload, 1) := by decide +kernel
theorem dX6_judgeSingle_17 : decode cX6_judgeSingle 17 = .ok (.i2l, 1) := by decide +kernel
theorem dX6_judgeSingle_18 : decode cX6_judgeSingle 18 = .ok (.invokevirtual 119, 3) := by decide +kernel
theorem dX6_judgeSingle_21 : decode cX6_judgeSingle 21 = .ok (.aload_n 0, 1) := by decide +kernel
theorem dX6_judgeSingle_22 : decode cX6_judgeSingle 22 = .ok (.getfield 52, 3) := by decide +kernel
theorem dX6_judgeSingle_25 : decode cX6_judgeSingle 25 = .ok (.ifCond .eq 7, 3) := by decide +kernel
theorem dX6_judgeSingle_28 : decode cX6_judgeSingle 28 = .ok (.aload_n 1, 1) := by decide +kernel
theorem dX6_judgeSingle_29 : decode cX6_judgeSingle 29 = .ok (.ifnonnull 5, 3) := by decide +kernel
theorem dX6_judgeSingle_32 : decode cX6_judgeSingle 32 = .ok (.iconst 0, 1) := by decide +kernel
theorem dX6_judgeSingle_33 : decode cX6_judgeSingle 33 = .ok (.ireturn, 1) := by decide +kernel
theorem dX6_judgeSingle_34 : decode cX6_judgeSingle 34 = .ok (.aload_n 0, 1) := by decide +kernel
theorem dX6_judgeSingle_35 : decode cX6_judgeSingle 35 = .ok (.aload_n 1, 1) := by decide +kernel
theorem dX6_judgeSingle_36 : decode cX6_judgeSingle 36 = .ok (.invokevirtual 123, 3) := by decide +kernel
theorem dX6_judgeSingle_39 : decode cX6_judgeSingle 39 = .ok (.putfield 49, 3) := by decide +kernel
theorem dX6_judgeSingle_42 : decode cX6_judgeSingle 42 = .ok (.aload_n 0, 1) := by decide +kernel
theorem dX6_judgeSingle_43 : decode cX6_judgeSingle 43 = .ok (.getfield 49, 3) := by decide +kernel
theorem dX6_judgeSingle_46 : decode cX6_judgeSingle 46 = .ok (.ifCond .eq 14, 3) := by decide +kernel
theorem dX6_judgeSingle_49 : decode cX6_judgeSingle 49 = .ok (.aload_n 0, 1) := by decide +kernel
theorem dX6_judgeSingle_50 : decode cX6_judgeSingle 50 = .ok (.getfield 55, 3) := by decide +kernel
theorem dX6_judgeSingle_53 : decode cX6_judgeSingle 53 = .ok (.iconst 1, 1) := by decide +kernel
theorem dX6_judgeSingle_54 : decode cX6_judgeSingle 54 = .ok (.if_icmp .le 6, 3) := by decide +kernel
theorem dX6_judgeSingle_57 : decode cX6_judgeSingle 57 = .ok (.bipush (-10), 2) := by decide +kernel
theorem dX6_judgeSingle_59 : decode cX6_judgeSingle 59 = .ok (.ireturn, 1) := by decide +kernel
theorem dX6_judgeSingle_60 : decode cX6_judgeSingle 60 = .ok (.iconst 0, 1) := by decide +kernel
theorem dX6_judgeSingle_61 : decode cX6_judgeSingle 61 = .ok (.istore_n 2, 1) := by decide +kernel
theorem dX6_judgeSingle_62 : decode cX6_judgeSingle 62 = .ok (.iload_n 2, 1) := by decide +kernel
theorem dX6_judgeSingle_63 : decode cX6_judgeSingle 63 = .ok (.iconst 5, 1) := by decide +kernel
theorem dX6_judgeSingle_64 : decode cX6_judgeSingle 64 = .ok (.if_icmp .ge 26, 3) := by decide +kernel
theorem dX6_judgeSingle_67 : decode cX6_judgeSingle 67 = .ok (.aload_n 0, 1) := by decide +kernel
theorem dX6_judgeSingle_68 : decode cX6_judgeSingle 68 = .ok (.getfield 24, 3) := by decide +kernel
theorem dX6_judgeSingle_71 : decode cX6_judgeSingle 71 = .ok (.iload_n 2, 1) := by decide +kernel
theorem dX6_judgeSingle_72 : decode cX6_judgeSingle 72 = .ok (.aload_n 1, 1) := by decide +kernel
theorem dX6_judgeSingle_73 : decode cX6_judgeSingle 73 = .ok (.getfield 128, 3) := by decide +kernel
theorem dX6_judgeSingle_76 : decode cX6_judgeSingle 76 = .ok (.iload_n 2, 1) := by decide +kernel
theorem dX6_judgeSingle_77 : decode cX6_judgeSingle 77 = .ok (.iaload, 1) := by decide +kernel
theorem dX6_judgeSingle_78 : decode cX6_judgeSingle 78 = .ok (.aload_n 0, 1) := by decide +kernel
theorem dX6_judgeSingle_79 : decode cX6_judgeSingle 79 = .ok (.getfield 55, 3) := by decide +kernel
theorem dX6_judgeSingle_82 : decode cX6_judgeSingle 82 = .ok (.imul, 1) := by decide +kernel
theorem dX6_judgeSingle_83 : decode cX6_judgeSingle 83 = .ok (.iastore, 1) := by decide +kernel
theorem dX6_judgeSingle_84 : decode cX6_judgeSingle 84 = .ok (.iinc 2 1, 3) := by decide +kernel
theorem dX6_judgeSingle_87 : decode cX6_judgeSingle 87 = .ok (.goto (-25), 3) := by decide +kernel
theorem dX6_judgeSingle_90 : decode cX6_judgeSingle 90 = .ok (.aload_n 0, 1) := by decide +kernel
theorem dX6_judgeSingle_91 : decode cX6_judgeSingle 91 = .ok (.getfield 24, 3) := by decide +kernel
theorem dX6_judgeSingle_94 : decode cX6_judgeSingle 94 = .ok (.bipush 18, 2) := by decide +kernel
theorem dX6_judgeSingle_96 : decode cX6_judgeSingle 96 = .ok (.invokestatic 131, 3) := by decide +kernel
theorem dX6_judgeSingle_99 : decode cX6_judgeSingle 99 = .ok (.ifCond .eq 6, 3) := by decide +kernel
theorem dX6_judgeSingle_102 : decode cX6_judgeSingle 102 = .ok (.bipush (-12), 2) := by decide +kernel
theorem dX6_judgeSingle_104 : decode cX6_judgeSingle 104 = .ok (.ireturn, 1) := by decide +kernel
theorem dX6_judgeSingle_105 : decode cX6_judgeSingle 105 = .ok (.iconst 0, 1) := by decide +kernel
theorem dX6_judgeSingle_106 : decode cX6_judgeSingle 106 = .ok (.istore_n 2, 1) := by decide +kernel
theorem dX6_judgeSingle_107 : decode cX6_judgeSingle 107 = .ok (.iload_n 2, 1) := by decide +kernel
theorem dX6_judgeSingle_108 : decode cX6_judgeSingle 108 = .ok (.aload_n 0, 1) := by decide +kernel
theorem dX6_judgeSingle_109 : decode cX6_judgeSingle 109 = .ok (.getfield 55, 3) := by decide +kernel
theorem dX6_judgeSingle_112 : decode cX6_judgeSingle 112 = .ok (.if_icmp .ge 26, 3) := by decide +kernel
theorem dX6_judgeSingle_115 : decode cX6_judgeSingle 115 = .ok (.aload_n 0, 1) := by decide +kernel
theorem dX6_judgeSingle_116 : decode cX6_judgeSingle 116 = .ok (.getfield 30, 3) := by decide +kernel
theorem dX6_judgeSingle_119 : decode cX6_judgeSingle 119 = .ok (.aload_n 1, 1) := by decide +kernel
theorem dX6_judgeSingle_120 : decode cX6_judgeSingle 120 = .ok (.getfield 135, 3) := by decide +kernel
theorem dX6_judgeSingle_123 : decode cX6_judgeSingle 123 = .ok (.invokevirtual 138, 3) := by decide +kernel
theorem dX6_judgeSingle_126 : decode cX6_judgeSingle 126 = .ok (.ifCond .ne 6, 3) := by decide +kernel
theorem dX6_judgeSingle_129 : decode cX6_judgeSingle 129 = .ok (.bipush (-15), 2) := by decide +kernel
theorem dX6_judgeSingle_131 : decode cX6_judgeSingle 131 = .ok (.ireturn, 1) := by decide +kernel
theorem dX6_judgeSingle_132 : decode cX6_judgeSingle 132 = .ok (.iinc 2 1, 3) := by decide +kernel
theorem dX6_judgeSingle_135 : decode cX6_judgeSingle 135 = .ok (.goto (-28), 3) := by decide +kernel
theorem dX6_judgeSingle_138 : decode cX6_judgeSingle 138 = .ok (.aload_n 0, 1) := by decide +kernel
theorem dX6_judgeSingle_139 : decode cX6_judgeSingle 139 = .ok (.getfield 30, 3) := by decide +kernel
theorem dX6_judgeSingle_142 : decode cX6_judgeSingle 142 = .ok (.aload_n 1, 1) := by decide +kernel
theorem dX6_judgeSingle_143 : decode cX6_judgeSingle 143 = .ok (.getfield 142, 3) := by decide +kernel
theorem dX6_judgeSingle_146 : decode cX6_judgeSingle 146 = .ok (.invokevirtual 145, 3) := by decide +kernel
theorem dX6_judgeSingle_149 : decode cX6_judgeSingle 149 = .ok (.ifCond .eq 7, 3) := by decide +kernel
theorem dX6_judgeSingle_152 : decode cX6_judgeSingle 152 = .ok (.iconst 0, 1) := by decide +kernel
theorem dX6_judgeSingle_153 : decode cX6_judgeSingle 153 = .ok (.goto 5, 3) := by decide +kernel
theorem dX6_judgeSingle_156 : decode cX6_judgeSingle 156 = .ok (.bipush (-15), 2) := by decide +kernel
theorem dX6_judgeSingle_158 : decode cX6_judgeSingle 158 = .ok (.ireturn, 1) := by decide +kernel
theorem dX6_judgeMixed_0 : decode cX6_judgeMixed 0 = .ok (.aload_n 0, 1) := by decide +kernel
theorem dX6_judgeMixed_1 : decode cX6_judgeMixed 1 = .ok (.aload_n 1, 1) := by decide +kernel
theorem dX6_judgeMixed_2 : decode cX6_judgeMixed 2 = .ok (.invokevirtual 148, 3) := by decide +kernel
theorem dX6_judgeMixed_5 : decode cX6_judgeMixed 5 = .ok (.istore_n 3, 1) := by decide +kernel
theorem dX6_judgeMixed_6 : decode cX6_judgeMixed 6 = .ok (.iload_n 3, 1) := by decide +kernel
theorem dX6_judgeMixed_7 : decode cX6_judgeMixed 7 = .ok (.ifCond .eq 5, 3) := by decide +kernel
theorem dX6_judgeMixed_10 : decode cX6_judgeMixed 10 = .ok (.iload_n 3, 1) := by decide +kernel
theorem dX6_judgeMixed_11 : decode cX6_judgeMixed 11 = .ok (.ireturn, 1) := by decide +kernel
theorem dX6_judgeMixed_12 : decode cX6_judgeMixed 12 = .ok (.aload_n 1, 1) := by decide +kernel
theorem dX6_judgeMixed_13 : decode cX6_judgeMixed 13 = .ok (.iconst 0, 1) := by decide +kernel
theorem dX6_judgeMixed_14 : decode cX6_judgeMixed 14 = .ok (.aaload, 1) := by decide +kernel
theorem dX6_judgeMixed_15 : decode cX6_judgeMixed 15 = .ok (.getfield 128, 3) := by decide +kernel
theorem dX6_judgeMixed_18 : decode cX6_judgeMixed 18 = .ok (.iconst 0, 1) := by decide +kernel
theorem dX6_judgeMixed_19 : decode cX6_judgeMixed 19 = .ok (.aload_n 0, 1) := by decide +kernel
theorem dX6_judgeMixed_20 : decode cX6_judgeMixed 20 = .ok (.getfield 24, 3) := by decide +kernel
theorem dX6_judgeMixed_23 : decode cX6_judgeMixed 23 = .ok (.iconst 0, 1) := by decide +kernel
theorem dX6_judgeMixed_24 : decode cX6_judgeMixed 24 = .ok (.iconst 5, 1) := by decide +kernel
theorem dX6_judgeMixed_25 : decode cX6_judgeMixed 25 = .ok (.invokestatic 152, 3) := by decide +kernel
theorem dX6_judgeMixed_28 : decode cX6_judgeMixed 28 = .ok (.aload_n 0, 1) := by decide +kernel
theorem dX6_judgeMixed_29 : decode cX6_judgeMixed 29 = .ok (.getfield 30, 3) := by decide +kernel
theorem dX6_judgeMixed_32 : decode cX6_judgeMixed 32 = .ok (.lconst 0, 1) := by decide +kernel
theorem dX6_judgeMixed_33 : decode cX6_judgeMixed 33 = .ok (.lconst 1, 1) := by decide +kernel
theorem dX6_judgeMixed_34 : decode cX6_judgeMixed 34 = .ok (.invokevirtual 119, 3) := by decide +kernel
theorem dX6_judgeMixed_37 : decode cX6_judgeMixed 37 = .ok (.iconst 0, 1) := by decide +kernel
theorem dX6_judgeMixed_38 : decode cX6_judgeMixed 38 = .ok (.istore 4, 2) := by decide +kernel
theorem dX6_judgeMixed_40 : decode cX6_judgeMixed 40 = .ok (.iload 4, 2) := by decide +kernel
theorem dX6_judgeMixed_42 : decode cX6_judgeMixed 42 = .ok (.aload_n 0, 1) := by decide +kernel
theorem dX6_judgeMixed_43 : decode cX6_judgeMixed 43 = .ok (.getfield 52, 3) := by decide +kernel
theorem dX6_judgeMixed_46 : decode cX6_judgeMixed 46 = .ok (.if_icmp .ge 63, 3) := by decide +kernel
theorem dX6_judgeMixed_49 : decode cX6_judgeMixed 49 = .ok (.iload 4, 2) := by decide +kernel
theorem dX6_judgeMixed_51 : decode cX6_judgeMixed 51 = .ok (.iconst 4, 1) := by decide +kernel
theorem dX6_judgeMixed_52 : decode cX6_judgeMixed 52 = .ok (.if_icmp .ge 57, 3) := by decide +kernel
theorem dX6_judgeMixed_55 : decode cX6_judgeMixed 55 = .ok (.aload_n 2, 1) := by decide +kernel
theorem dX6_judgeMixed_56 : decode cX6_judgeMixed 56 = .ok (.aload_n 0, 1) := by decide +kernel
theorem dX6_judgeMixed_57 : decode cX6_judgeMixed 57 = .ok (.getfield 11, 3) := by decide +kernel
theorem dX6_judgeMixed_60 : decode cX6_judgeMixed 60 = .ok (.iload 4, 2) := by decide +kernel
theorem dX6_judgeMixed_62 : decode cX6_judgeMixed 62 = .ok (.iaload, 1) := by decide +kernel
theorem dX6_judgeMixed_63 : decode cX6_judgeMixed 63 = .ok (.i2l, 1) := by decide +kernel
theorem dX6_judgeMixed_64 : decode cX6_judgeMixed 64 = .ok (.aload_n 0, 1) := by decide +kernel
theorem dX6_judgeMixed_65 : decode cX6_judgeMixed 65 = .ok (.getfield 15, 3) := by decide +kernel
theorem dX6_judgeMixed_68 : decode cX6_judgeMixed 68 = .ok (.iload 4, 2) := by decide +kernel
theorem dX6_judgeMixed_70 : decode cX6_judgeMixed 70 = .ok (.iaload, 1) := by decide +kernel
theorem dX6_judgeMixed_71 : decode cX6_judgeMixed 71 = .ok (.i2l, 1) := by decide +kernel
theorem dX6_judgeMixed_72 : decode cX6_judgeMixed 72 = .ok (.invokevirtual 119, 3) := by decide +kernel
theorem dX6_judgeMixed_75 : decode cX6_judgeMixed 75 = .ok (.aload_n 2, 1) := by decide +kernel
theorem dX6_judgeMixed_76 : decode cX6_judgeMixed 76 = .ok (.aload_n 1, 1) := by decide +kernel
theorem dX6_judgeMixed_77 : decode cX6_judgeMixed 77 = .ok (.iload 4, 2) := by decide +kernel
theorem dX6_judgeMixed_79 : decode cX6_judgeMixed 79 = .ok (.aaload, 1) := by decide +kernel
theorem dX6_judgeMixed_80 : decode cX6_judgeMixed 80 = .ok (.getfield 135, 3) := by decide +kernel
theorem dX6_judgeMixed_83 : decode cX6_judgeMixed 83 = .ok (.invokevirtual 138, 3) := by decide +kernel
theorem dX6_judgeMixed_86 : decode cX6_judgeMixed 86 = .ok (.ifCond .eq 14, 3) := by decide +kernel
theorem dX6_judgeMixed_89 : decode cX6_judgeMixed 89 = .ok (.aload_n 0, 1) := by decide +kernel
theorem dX6_judgeMixed_90 : decode cX6_judgeMixed 90 = .ok (.getfield 30, 3) := by decide +kernel
theorem dX6_judgeMixed_93 : decode cX6_judgeMixed 93 = .ok (.aload_n 2, 1) := by decide +kernel
theorem dX6_judgeMixed_94 : decode cX6_judgeMixed 94 = .ok (.invokevirtual 145, 3) := by decide +kernel
theorem dX6_judgeMixed_97 : decode cX6_judgeMixed 97 = .ok (.ifCond .ne 6, 3) := by decide +kernel
theorem dX6_judgeMixed_100 : decode cX6_judgeMixed 100 = .ok (.bipush (-15), 2) := by decide +kernel
theorem dX6_judgeMixed_102 : decode cX6_judgeMixed 102 = .ok (.ireturn, 1) := by decide +kernel
theorem dX6_judgeMixed_103 : decode cX6_judgeMixed 103 = .ok (.iinc 4 1, 3) := by decide +kernel
theorem dX6_judgeMixed_106 : decode cX6_judgeMixed 106 = .ok (.goto (-66), 3) := by decide +kernel
theorem dX6_judgeMixed_109 : decode cX6_judgeMixed 109 = .ok (.iconst 0, 1) := by decide +kernel
theorem dX6_judgeMixed_110 : decode cX6_judgeMixed 110 = .ok (.ireturn, 1) := by decide +kernel
theorem dX6_mixedRefusal_0 : decode cX6_mixedRefusal 0 = .ok (.iconst 0, 1) := by decide +kernel
theorem dX6_mixedRefusal_1 : decode cX6_mixedRefusal 1 = .ok (.istore_n 2, 1) := by decide +kernel
theorem dX6_mixedRefusal_2 : decode cX6_mixedRefusal 2 = .ok (.iload_n 2, 1) := by decide +kernel
theorem dX6_mixedRefusal_3 : decode cX6_mixedRefusal 3 = .ok (.aload_n 0, 1) := by decide +kernel
theorem dX6_mixedRefusal_4 : decode cX6_mixedRefusal 4 = .ok (.getfield 52, 3) := by decide +kernel
theorem dX6_mixedRefusal_7 : decode cX6_mixedRefusal 7 = .ok (.if_icmp .ge 26, 3) := by decide +kernel
theorem dX6_mixedRefusal_10 : decode cX6_mixedRefusal 10 = .ok (.iload_n 2, 1) := by decide +kernel
theorem dX6_mixedRefusal_11 : decode cX6_mixedRefusal 11 = .ok (.iconst 4, 1) := by decide +kernel
theorem dX6_mixedRefusal_12 : decode cX6_mixedRefusal 12 = .ok (.if_icmp .ge 21, 3) := by decide +kernel
theorem dX6_mixedRefusal_15 : decode cX6_mixedRefusal 15 = .ok (.aload_n 1, 1) := by decide +kernel
theorem dX6_mixedRefusal_16 : decode cX6_mixedRefusal 16 = .ok (.iload_n 2, 1) := by decide +kernel
theorem dX6_mixedRefusal_17 : decode cX6_mixedRefusal 17 = .ok (.aaload, 1) := by decide +kernel
theorem dX6_mixedRefusal_18 : decode cX6_mixedRefusal 18 = .ok (.invokevirtual 123, 3) := by decide +kernel
theorem dX6_mixedRefusal_21 : decode cX6_mixedRefusal 21 = .ok (.ifCond .eq 6, 3) := by decide +kernel
theorem dX6_mixedRefusal_24 : decode cX6_mixedRefusal 24 = .ok (.bipush (-10), 2) := by decide +kernel
theorem dX6_mixedRefusal_26 : decode cX6_mixedRefusal 26 = .ok (.ireturn, 1) := by decide +kernel
theorem dX6_mixedRefusal_27 : decode cX6_mixedRefusal 27 = .ok (.iinc 2 1, 3) := by decide +kernel
theorem dX6_mixedRefusal_30 : decode cX6_mixedRefusal 30 = .ok (.goto (-28), 3) := by decide +kernel
theorem dX6_mixedRefusal_33 : decode cX6_mixedRefusal 33 = .ok (.iconst 1, 1) := by decide +kernel
theorem dX6_mixedRefusal_34 : decode cX6_mixedRefusal 34 = .ok (.istore_n 2, 1) := by decide +kernel
theorem dX6_mixedRefusal_35 : decode cX6_mixedRefusal 35 = .ok (.iload_n 2, 1) := by decide +kernel
theorem dX6_mixedRefusal_36 : decode cX6_mixedRefusal 36 = .ok (.aload_n 0, 1) := by decide +kernel
theorem dX6_mixedRefusal_37 : decode cX6_mixedRefusal 37 = .ok (.getfield 52, 3) := by decide +kernel
theorem dX6_mixedRefusal_40 : decode cX6_mixedRefusal 40 = .ok (.if_icmp .ge 29, 3) := by decide +kernel
theorem dX6_mixedRefusal_43 : decode cX6_mixedRefusal 43 = .ok (.iload_n 2, 1) := by decide +kernel
theorem dX6_mixedRefusal_44 : decode cX6_mixedRefusal 44 = .ok (.iconst 4, 1) := by decide +kernel
theorem dX6_mixedRefusal_45 : decode cX6_mixedRefusal 45 = .ok (.if_icmp .ge 24, 3) := by decide +kernel
theorem dX6_mixedRefusal_48 : decode cX6_mixedRefusal 48 = .ok (.aload_n 1, 1) := by decide +kernel
theorem dX6_mixedRefusal_49 : decode cX6_mixedRefusal 49 = .ok (.iload_n 2, 1) := by decide +kernel
theorem dX6_mixedRefusal_50 : decode cX6_mixedRefusal 50 = .ok (.aaload, 1) := by decide +kernel
theorem dX6_mixedRefusal_51 : decode cX6_mixedRefusal 51 = .ok (.aload_n 1, 1) := by decide +kernel
theorem dX6_mixedRefusal_52 : decode cX6_mixedRefusal 52 = .ok (.iconst 0, 1) := by decide +kernel
theorem dX6_mixedRefusal_53 : decode cX6_mixedRefusal 53 = .ok (.aaload, 1) := by decide +kernel
theorem dX6_mixedRefusal_54 : decode cX6_mixedRefusal 54 = .ok (.invokevirtual 158, 3) := by decide +kernel
theorem dX6_mixedRefusal_57 : decode cX6_mixedRefusal 57 = .ok (.ifCond .ne 6, 3) := by decide +kernel
theorem dX6_mixedRefusal_60 : decode cX6_mixedRefusal 60 = .ok (.bipush (-13), 2) := by decide +kernel
theorem dX6_mixedRefusal_62 : decode cX6_mixedRefusal 62 = .ok (.ireturn, 1) := by decide +kernel
theorem dX6_mixedRefusal_63 : decode cX6_mixedRefusal 63 = .ok (.iinc 2 1, 3) := by decide +kernel
theorem dX6_mixedRefusal_66 : decode cX6_mixedRefusal 66 = .ok (.goto (-31), 3) := by decide +kernel
theorem dX6_mixedRefusal_69 : decode cX6_mixedRefusal 69 = .ok (.iconst 1, 1) := by decide +kernel
theorem dX6_mixedRefusal_70 : decode cX6_mixedRefusal 70 = .ok (.istore_n 2, 1) := by decide +kernel
theorem dX6_mixedRefusal_71 : decode cX6_mixedRefusal 71 = .ok (.iload_n 2, 1) := by decide +kernel
theorem dX6_mixedRefusal_72 : decode cX6_mixedRefusal 72 = .ok (.aload_n 0, 1) := by decide +kernel
theorem dX6_mixedRefusal_73 : decode cX6_mixedRefusal 73 = .ok (.getfield 52, 3) := by decide +kernel
theorem dX6_mixedRefusal_76 : decode cX6_mixedRefusal 76 = .ok (.if_icmp .ge 37, 3) := by decide +kernel
theorem dX6_mixedRefusal_79 : decode cX6_mixedRefusal 79 = .ok (.iload_n 2, 1) := by decide +kernel
theorem dX6_mixedRefusal_80 : decode cX6_mixedRefusal 80 = .ok (.iconst 4, 1) := by decide +kernel
theorem dX6_mixedRefusal_81 : decode cX6_mixedRefusal 81 = .ok (.if_icmp .ge 32, 3) := by decide +kernel
theorem dX6_mixedRefusal_84 : decode cX6_mixedRefusal 84 = .ok (.aload_n 1, 1) := by decide +kernel
theorem dX6_mixedRefusal_85 : decode cX6_mixedRefusal 85 = .ok (.iload_n 2, 1) := by decide +kernel
theorem dX6_mixedRefusal_86 : decode cX6_mixedRefusal 86 = .ok (.aaload, 1) := by decide +kernel
theorem dX6_mixedRefusal_87 : decode cX6_mixedRefusal 87 = .ok (.getfield 135, 3) := by decide +kernel
theorem dX6_mixedRefusal_90 : decode cX6_mixedRefusal 90 = .ok (.aload_n 1, 1) := by decide +kernel
theorem dX6_mixedRefusal_91 : decode cX6_mixedRefusal 91 = .ok (.iload_n 2, 1) := by decide +kernel
theorem dX6_mixedRefusal_92 : decode cX6_mixedRefusal 92 = .ok (.iconst 1, 1) := by decide +kernel
theorem dX6_mixedRefusal_93 : decode cX6_mixedRefusal 93 = .ok (.isub, 1) := by decide +kernel
theorem dX6_mixedRefusal_94 : decode cX6_mixedRefusal 94 = .ok (.aaload, 1) := by decide +kernel
theorem dX6_mixedRefusal_95 : decode cX6_mixedRefusal 95 = .ok (.getfield 135, 3) := by decide +kernel
theorem dX6_mixedRefusal_98 : decode cX6_mixedRefusal 98 = .ok (.invokevirtual 162, 3) := by decide +kernel
theorem dX6_mixedRefusal_101 : decode cX6_mixedRefusal 101 = .ok (.ifCond .lt 6, 3) := by decide +kernel
theorem dX6_mixedRefusal_104 : decode cX6_mixedRefusal 104 = .ok (.bipush (-14), 2) := by decide +kernel
theorem dX6_mixedRefusal_106 : decode cX6_mixedRefusal 106 = .ok (.ireturn, 1) := by decide +kernel
theorem dX6_mixedRefusal_107 : decode cX6_mixedRefusal 107 = .ok (.iinc 2 1, 3) := by decide +kernel
theorem dX6_mixedRefusal_110 : decode cX6_mixedRefusal 110 = .ok (.goto (-39), 3) := by decide +kernel
theorem dX6_mixedRefusal_113 : decode cX6_mixedRefusal 113 = .ok (.iconst 0, 1) := by decide +kernel
theorem dX6_mixedRefusal_114 : decode cX6_mixedRefusal 114 = .ok (.ireturn, 1) := by decide +kernel
theorem dX6_judgeProduct_0 : decode cX6_judgeProduct 0 = .ok (.aload_n 0, 1) := by decide +kernel
theorem dX6_judgeProduct_1 : decode cX6_judgeProduct 1 = .ok (.getfield 34, 3) := by decide +kernel
theorem dX6_judgeProduct_4 : decode cX6_judgeProduct 4 = .ok (.iconst 2, 1) := by decide +kernel
theorem dX6_judgeProduct_5 : decode cX6_judgeProduct 5 = .ok (.if_icmp .ne 7, 3) := by decide +kernel
theorem dX6_judgeProduct_8 : decode cX6_judgeProduct 8 = .ok (.iconst 1, 1) := by decide +kernel
theorem dX6_judgeProduct_9 : decode cX6_judgeProduct 9 = .ok (.goto 4, 3) := by decide +kernel
theorem dX6_judgeProduct_12 : decode cX6_judgeProduct 12 = .ok (.iconst 0, 1) := by decide +kernel
theorem dX6_judgeProduct_13 : decode cX6_judgeProduct 13 = .ok (.istore_n 1, 1) := by decide +kernel
theorem dX6_judgeProduct_14 : decode cX6_judgeProduct 14 = .ok (.aload_n 0, 1) := by decide +kernel
theorem dX6_judgeProduct_15 : decode cX6_judgeProduct 15 = .ok (.getfield 38, 3) := by decide +kernel
theorem dX6_judgeProduct_18 : decode cX6_judgeProduct 18 = .ok (.invokevirtual 166, 3) := by decide +kernel
theorem dX6_judgeProduct_21 : decode cX6_judgeProduct 21 = .ok (.ifCond .ne 13, 3) := by decide +kernel
theorem dX6_judgeProduct_24 : decode cX6_judgeProduct 24 = .ok (.aload_n 0, 1) := by decide +kernel
theorem dX6_judgeProduct_25 : decode cX6_judgeProduct 25 = .ok (.getfield 42, 3) := by decide +kernel
theorem dX6_judgeProduct_28 : decode cX6_judgeProduct 28 = .ok (.invokevirtual 166, 3) := by decide +kernel
theorem dX6_judgeProduct_31 : decode cX6_judgeProduct 31 = .ok (.ifCond .eq 6, 3) := by decide +kernel
theorem dX6_judgeProduct_34 : decode cX6_judgeProduct 34 = .ok (.bipush (-10), 2) := by decide +kernel
theorem dX6_judgeProduct_36 : decode cX6_judgeProduct 36 = .ok (.ireturn, 1) := by decide +kernel
theorem dX6_judgeProduct_37 : decode cX6_judgeProduct 37 = .ok (.iload_n 1, 1) := by decide +kernel
theorem dX6_judgeProduct_38 : decode cX6_judgeProduct 38 = .ok (.ifCond .eq 21, 3) := by decide +kernel
theorem dX6_judgeProduct_41 : decode cX6_judgeProduct 41 = .ok (.aload_n 0, 1) := by decide +kernel
theorem dX6_judgeProduct_42 : decode cX6_judgeProduct 42 = .ok (.getfield 42, 3) := by decide +kernel
theorem dX6_judgeProduct_45 : decode cX6_judgeProduct 45 = .ok (.getfield 30, 3) := by decide +kernel
theorem dX6_judgeProduct_48 : decode cX6_judgeProduct 48 = .ok (.getfield 169, 3) := by decide +kernel
theorem dX6_judgeProduct_51 : decode cX6_judgeProduct 51 = .ok (.lconst 0, 1) := by decide +kernel
theorem dX6_judgeProduct_52 : decode cX6_judgeProduct 52 = .ok (.lcmp, 1) := by decide +kernel
theorem dX6_judgeProduct_53 : decode cX6_judgeProduct 53 = .ok (.ifCond .ne 6, 3) := by decide +kernel
theorem dX6_judgeProduct_56 : decode cX6_judgeProduct 56 = .ok (.bipush (-9), 2) := by decide +kernel
theorem dX6_judgeProduct_58 : decode cX6_judgeProduct 58 = .ok (.ireturn, 1) := by decide +kernel
theorem dX6_judgeProduct_59 : decode cX6_judgeProduct 59 = .ok (.iconst 0, 1) := by decide +kernel
theorem dX6_judgeProduct_60 : decode cX6_judgeProduct 60 = .ok (.istore_n 2, 1) := by decide +kernel
theorem dX6_judgeProduct_61 : decode cX6_judgeProduct 61 = .ok (.iload_n 2, 1) := by decide +kernel
theorem dX6_judgeProduct_62 : decode cX6_judgeProduct 62 = .ok (.iconst 5, 1) := by decide +kernel
theorem dX6_judgeProduct_63 : decode cX6_judgeProduct 63 = .ok (.if_icmp .ge 51, 3) := by decide +kernel
theorem dX6_judgeProduct_66 : decode cX6_judgeProduct 66 = .ok (.aload_n 0, 1) := by decide +kernel
theorem dX6_judgeProduct_67 : decode cX6_judgeProduct 67 = .ok (.getfield 24, 3) := by decide +kernel
theorem dX6_judgeProduct_70 : decode cX6_judgeProduct 70 = .ok (.iload_n 2, 1) := by decide +kernel
theorem dX6_judgeProduct_71 : decode cX6_judgeProduct 71 = .ok (.aload_n 0, 1) := by decide +kernel
theorem dX6_judgeProduct_72 : decode cX6_judgeProduct 72 = .ok (.getfield 38, 3) := by decide +kernel
theorem dX6_judgeProduct_75 : decode cX6_judgeProduct 75 = .ok (.getfield 24, 3) := by decide +kernel
theorem dX6_judgeProduct_78 : decode cX6_judgeProduct 78 = .ok (.iload_n 2, 1) := by decide +kernel
theorem dX6_judgeProduct_79 : decode cX6_judgeProduct 79 = .ok (.iaload, 1) := by decide +kernel
theorem dX6_judgeProduct_80 : decode cX6_judgeProduct 80 = .ok (.iload_n 1, 1) := by decide +kernel
theorem dX6_judgeProduct_81 : decode cX6_judgeProduct 81 = .ok (.ifCond .eq 16, 3) := by decide +kernel
theorem dX6_judgeProduct_84 : decode cX6_judgeProduct 84 = .ok (.aload_n 0, 1) := by decide +kernel
theorem dX6_judgeProduct_85 : decode cX6_judgeProduct 85 = .ok (.getfield 42, 3) := by decide +kernel
theorem dX6_judgeProduct_88 : decode cX6_judgeProduct 88 = .ok (.getfield 24, 3) := by decide +kernel
theorem dX6_judgeProduct_91 : decode cX6_judgeProduct 91 = .ok (.iload_n 2, 1) := by decide +kernel
theorem dX6_judgeProduct_92 : decode cX6_judgeProduct 92 = .ok (.iaload, 1) := by decide +kernel
theorem dX6_judgeProduct_93 : decode cX6_judgeProduct 93 = .ok (.ineg, 1) := by decide +kernel
theorem dX6_judgeProduct_94 : decode cX6_judgeProduct 94 = .ok (.goto 12, 3) := by decide +kernel
theorem dX6_judgeProduct_97 : decode cX6_judgeProduct 97 = .ok (.aload_n 0, 1) := by decide +kernel
theorem dX6_judgeProduct_98 : decode cX6_judgeProduct 98 = .ok (.getfield 42, 3) := by decide +kernel
theorem dX6_judgeProduct_101 : decode cX6_judgeProduct 101 = .ok (.getfield 24, 3) := by decide +kernel
theorem dX6_judgeProduct_104 : decode cX6_judgeProduct 104 = .ok (.iload_n 2, 1) := by decide +kernel
theorem dX6_judgeProduct_105 : decode cX6_judgeProduct 105 = .ok (.iaload, 1) := by decide +kernel
theorem dX6_judgeProduct_106 : decode cX6_judgeProduct 106 = .ok (.iadd, 1) := by decide +kernel
theorem dX6_judgeProduct_107 : decode cX6_judgeProduct 107 = .ok (.iastore, 1) := by decide +kernel
theorem dX6_judgeProduct_108 : decode cX6_judgeProduct 108 = .ok (.iinc 2 1, 3) := by decide +kernel
theorem dX6_judgeProduct_111 : decode cX6_judgeProduct 111 = .ok (.goto (-50), 3) := by decide +kernel
theorem dX6_judgeProduct_114 : decode cX6_judgeProduct 114 = .ok (.aload_n 0, 1) := by decide +kernel
theorem dX6_judgeProduct_115 : decode cX6_judgeProduct 115 = .ok (.getfield 24, 3) := by decide +kernel
theorem dX6_judgeProduct_118 : decode cX6_judgeProduct 118 = .ok (.bipush 18, 2) := by decide +kernel
theorem dX6_judgeProduct_120 : decode cX6_judgeProduct 120 = .ok (.invokestatic 131, 3) := by decide +kernel
theorem dX6_judgeProduct_123 : decode cX6_judgeProduct 123 = .ok (.ifCond .eq 6, 3) := by decide +kernel
theorem dX6_judgeProduct_126 : decode cX6_judgeProduct 126 = .ok (.bipush (-12), 2) := by decide +kernel
theorem dX6_judgeProduct_128 : decode cX6_judgeProduct 128 = .ok (.ireturn, 1) := by decide +kernel
theorem dX6_judgeProduct_129 : decode cX6_judgeProduct 129 = .ok (.aload_n 0, 1) := by decide +kernel
theorem dX6_judgeProduct_130 : decode cX6_judgeProduct 130 = .ok (.getfield 30, 3) := by decide +kernel
theorem dX6_judgeProduct_133 : decode cX6_judgeProduct 133 = .ok (.aload_n 0, 1) := by decide +kernel
theorem dX6_judgeProduct_134 : decode cX6_judgeProduct 134 = .ok (.getfield 38, 3) := by decide +kernel
theorem dX6_judgeProduct_137 : decode cX6_judgeProduct 137 = .ok (.getfield 30, 3) := by decide +kernel
theorem dX6_judgeProduct_140 : decode cX6_judgeProduct 140 = .ok (.invokevirtual 172, 3) := by decide +kernel
theorem dX6_judgeProduct_143 : decode cX6_judgeProduct 143 = .ok (.iload_n 1, 1) := by decide +kernel
theorem dX6_judgeProduct_144 : decode cX6_judgeProduct 144 = .ok (.ifCond .eq 20, 3) := by decide +kernel
theorem dX6_judgeProduct_147 : decode cX6_judgeProduct 147 = .ok (.aload_n 0, 1) := by decide +kernel
theorem dX6_judgeProduct_148 : decode cX6_judgeProduct 148 = .ok (.getfield 30, 3) := by decide +kernel
theorem dX6_judgeProduct_151 : decode cX6_judgeProduct 151 = .ok (.aload_n 0, 1) := by decide +kernel
theorem dX6_judgeProduct_152 : decode cX6_judgeProduct 152 = .ok (.getfield 42, 3) := by decide +kernel
theorem dX6_judgeProduct_155 : decode cX6_judgeProduct 155 = .ok (.getfield 30, 3) := by decide +kernel
theorem dX6_judgeProduct_158 : decode cX6_judgeProduct 158 = .ok (.invokevirtual 176, 3) := by decide +kernel
theorem dX6_judgeProduct_161 : decode cX6_judgeProduct 161 = .ok (.goto 17, 3) := by decide +kernel
theorem dX6_judgeProduct_164 : decode cX6_judgeProduct 164 = .ok (.aload_n 0, 1) := by decide +kernel
theorem dX6_judgeProduct_165 : decode cX6_judgeProduct 165 = .ok (.getfield 30, 3) := by decide +kernel
theorem dX6_judgeProduct_168 : decode cX6_judgeProduct 168 = .ok (.aload_n 0, 1) := by decide +kernel
theorem dX6_judgeProduct_169 : decode cX6_judgeProduct 169 = .ok (.getfield 42, 3) := by decide +kernel
theorem dX6_judgeProduct_172 : decode cX6_judgeProduct 172 = .ok (.getfield 30, 3) := by decide +kernel
theorem dX6_judgeProduct_175 : decode cX6_judgeProduct 175 = .ok (.invokevirtual 138, 3) := by decide +kernel
theorem dX6_judgeProduct_178 : decode cX6_judgeProduct 178 = .ok (.istore_n 2, 1) := by decide +kernel
theorem dX6_judgeProduct_179 : decode cX6_judgeProduct 179 = .ok (.iload_n 2, 1) := by decide +kernel
theorem dX6_judgeProduct_180 : decode cX6_judgeProduct 180 = .ok (.ifCond .eq 7, 3) := by decide +kernel
theorem dX6_judgeProduct_183 : decode cX6_judgeProduct 183 = .ok (.iconst 0, 1) := by decide +kernel
theorem dX6_judgeProduct_184 : decode cX6_judgeProduct 184 = .ok (.goto 5, 3) := by decide +kernel
theorem dX6_judgeProduct_187 : decode cX6_judgeProduct 187 = .ok (.bipush (-15), 2) := by decide +kernel
theorem dX6_judgeProduct_189 : decode cX6_judgeProduct 189 = .ok (.ireturn, 1) := by decide +kernel
theorem dX6_judgeSum_0 : decode cX6_judgeSum 0 = .ok (.aload_n 0, 1) := by decide +kernel
theorem dX6_judgeSum_1 : decode cX6_judgeSum 1 = .ok (.getfield 38, 3) := by decide +kernel
theorem dX6_judgeSum_4 : decode cX6_judgeSum 4 = .ok (.getfield 24, 3) := by decide +kernel
theorem dX6_judgeSum_7 : decode cX6_judgeSum 7 = .ok (.aload_n 0, 1) := by decide +kernel
theorem dX6_judgeSum_8 : decode cX6_judgeSum 8 = .ok (.getfield 42, 3) := by decide +kernel
theorem dX6_judgeSum_11 : decode cX6_judgeSum 11 = .ok (.getfield 24, 3) := by decide +kernel
theorem dX6_judgeSum_14 : decode cX6_judgeSum 14 = .ok (.invokestatic 179, 3) := by decide +kernel
theorem dX6_judgeSum_17 : decode cX6_judgeSum 17 = .ok (.ifCond .ne 6, 3) := by decide +kernel
theorem dX6_judgeSum_20 : decode cX6_judgeSum 20 = .ok (.bipush (-13), 2) := by decide +kernel
theorem dX6_judgeSum_22 : decode cX6_judgeSum 22 = .ok (.ireturn, 1) := by decide +kernel
theorem dX6_judgeSum_23 : decode cX6_judgeSum 23 = .ok (.aload_n 0, 1) := by decide +kernel
theorem dX6_judgeSum_24 : decode cX6_judgeSum 24 = .ok (.getfield 38, 3) := by decide +kernel
theorem dX6_judgeSum_27 : decode cX6_judgeSum 27 = .ok (.getfield 24, 3) := by decide +kernel
theorem dX6_judgeSum_30 : decode cX6_judgeSum 30 = .ok (.iconst 0, 1) := by decide +kernel
theorem dX6_judgeSum_31 : decode cX6_judgeSum 31 = .ok (.aload_n 0, 1) := by decide +kernel
theorem dX6_judgeSum_32 : decode cX6_judgeSum 32 = .ok (.getfield 24, 3) := by decide +kernel
theorem dX6_judgeSum_35 : decode cX6_judgeSum 35 = .ok (.iconst 0, 1) := by decide +kernel
theorem dX6_judgeSum_36 : decode cX6_judgeSum 36 = .ok (.iconst 5, 1) := by decide +kernel
theorem dX6_judgeSum_37 : decode cX6_judgeSum 37 = .ok (.invokestatic 152, 3) := by decide +kernel
theorem dX6_judgeSum_40 : decode cX6_judgeSum 40 = .ok (.aload_n 0, 1) := by decide +kernel
theorem dX6_judgeSum_41 : decode cX6_judgeSum 41 = .ok (.getfield 30, 3) := by decide +kernel
theorem dX6_judgeSum_44 : decode cX6_judgeSum 44 = .ok (.aload_n 0, 1) := by decide +kernel
theorem dX6_judgeSum_45 : decode cX6_judgeSum 45 = .ok (.getfield 38, 3) := by decide +kernel
theorem dX6_judgeSum_48 : decode cX6_judgeSum 48 = .ok (.getfield 30, 3) := by decide +kernel
theorem dX6_judgeSum_51 : decode cX6_judgeSum 51 = .ok (.invokevirtual 172, 3) := by decide +kernel
theorem dX6_judgeSum_54 : decode cX6_judgeSum 54 = .ok (.aload_n 0, 1) := by decide +kernel
theorem dX6_judgeSum_55 : decode cX6_judgeSum 55 = .ok (.getfield 34, 3) := by decide +kernel
theorem dX6_judgeSum_58 : decode cX6_judgeSum 58 = .ok (.iconst 3, 1) := by decide +kernel
theorem dX6_judgeSum_59 : decode cX6_judgeSum 59 = .ok (.if_icmp .ne 20, 3) := by decide +kernel
theorem dX6_judgeSum_62 : decode cX6_judgeSum 62 = .ok (.aload_n 0, 1) := by decide +kernel
theorem dX6_judgeSum_63 : decode cX6_judgeSum 63 = .ok (.getfield 30, 3) := by decide +kernel
theorem dX6_judgeSum_66 : decode cX6_judgeSum 66 = .ok (.aload_n 0, 1) := by decide +kernel
theorem dX6_judgeSum_67 : decode cX6_judgeSum 67 = .ok (.getfield 42, 3) := by decide +kernel
theorem dX6_judgeSum_70 : decode cX6_judgeSum 70 = .ok (.getfield 30, 3) := by decide +kernel
theorem dX6_judgeSum_73 : decode cX6_judgeSum 73 = .ok (.invokevirtual 145, 3) := by decide +kernel
theorem dX6_judgeSum_76 : decode cX6_judgeSum 76 = .ok (.goto 17, 3) := by decide +kernel
theorem dX6_judgeSum_79 : decode cX6_judgeSum 79 = .ok (.aload_n 0, 1) := by decide +kernel
theorem dX6_judgeSum_80 : decode cX6_judgeSum 80 = .ok (.getfield 30, 3) := by decide +kernel
theorem dX6_judgeSum_83 : decode cX6_judgeSum 83 = .ok (.aload_n 0, 1) := by decide +kernel
theorem dX6_judgeSum_84 : decode cX6_judgeSum 84 = .ok (.getfield 42, 3) := by decide +kernel
theorem dX6_judgeSum_87 : decode cX6_judgeSum 87 = .ok (.getfield 30, 3) := by decide +kernel
theorem dX6_judgeSum_90 : decode cX6_judgeSum 90 = .ok (.invokevirtual 183, 3) := by decide +kernel
theorem dX6_judgeSum_93 : decode cX6_judgeSum 93 = .ok (.istore_n 1, 1) := by decide +kernel
theorem dX6_judgeSum_94 : decode cX6_judgeSum 94 = .ok (.iload_n 1, 1) := by decide +kernel
theorem dX6_judgeSum_95 : decode cX6_judgeSum 95 = .ok (.ifCond .eq 7, 3) := by decide +kernel
theorem dX6_judgeSum_98 : decode cX6_judgeSum 98 = .ok (.iconst 0, 1) := by decide +kernel
theorem dX6_judgeSum_99 : decode cX6_judgeSum 99 = .ok (.goto 5, 3) := by decide +kernel
theorem dX6_judgeSum_102 : decode cX6_judgeSum 102 = .ok (.bipush (-15), 2) := by decide +kernel
theorem dX6_judgeSum_104 : decode cX6_judgeSum 104 = .ok (.ireturn, 1) := by decide +kernel
theorem dX7_init_0 : decode cX7_init 0 = .ok (.aload_n 0, 1) := by decide +kernel
theorem dX7_init_1 : decode cX7_init 1 = .ok (.invokespecial 3, 3) := by decide +kernel
theorem dX7_init_4 : decode cX7_init 4 = .ok (.aload_n 0, 1) := by decide +kernel
theorem dX7_init_5 : decode cX7_init 5 = .ok (.bipush 60, 2) := by decide +kernel
theorem dX7_init_7 : decode cX7_init 7 = .ok (.newarray .byte, 2) := by decide +kernel
theorem dX7_init_9 : decode cX7_init 9 = .ok (.putfield 9, 3) := by decide +kernel
theorem dX7_init_12 : decode cX7_init 12 = .ok (.aload_n 0, 1) := by decide +kernel
theorem dX7_init_13 : decode cX7_init 13 = .ok (.iconst 0, 1) := by decide +kernel
theorem dX7_init_14 : decode cX7_init 14 = .ok (.putfield 15, 3) := by decide +kernel
theorem dX7_init_17 : decode cX7_init 17 = .ok (.aload_n 0, 1) := by decide +kernel
theorem dX7_init_18 : decode cX7_init 18 = .ok (.iconst 0, 1) := by decide +kernel
theorem dX7_init_19 : decode cX7_init 19 = .ok (.putfield 19, 3) := by decide +kernel
theorem dX7_init_22 : decode cX7_init 22 = .ok (.return_, 1) := by decide +kernel
theorem dX7_append_0 : decode cX7_append 0 = .ok (.aload_n 0, 1) := by decide +kernel
theorem dX7_append_1 : decode cX7_append 1 = .ok (.getfield 15, 3) := by decide +kernel
theorem dX7_append_4 : decode cX7_append 4 = .ok (.bipush 60, 2) := by decide +kernel
theorem dX7_append_6 : decode cX7_append 6 = .ok (.if_icmp .lt 5, 3) := by decide +kernel
theorem dX7_append_9 : decode cX7_append 9 = .ok (.iconst 0, 1) := by decide +kernel
theorem dX7_append_10 : decode cX7_append 10 = .ok (.ireturn, 1) := by decide +kernel
theorem dX7_append_11 : decode cX7_append 11 = .ok (.aload_n 0, 1) := by decide +kernel
theorem dX7_append_12 : decode cX7_append 12 = .ok (.getfield 9, 3) := by decide +kernel
theorem dX7_append_15 : decode cX7_append 15 = .ok (.aload_n 0, 1) := by decide +kernel
theorem dX7_append_16 : decode cX7_append 16 = .ok (.getfield 15, 3) := by decide +kernel
theorem dX7_append_19 : decode cX7_append 19 = .ok (.iload_n 1, 1) := by decide +kernel
theorem dX7_append_20 : decode cX7_append 20 = .ok (.i2b, 1) := by decide +kernel
theorem dX7_append_21 : decode cX7_append 21 = .ok (.bastore, 1) := by decide +kernel
theorem dX7_append_22 : decode cX7_append 22 = .ok (.aload_n 0, 1) := by decide +kernel
theorem dX7_append_23 : decode cX7_append 23 = .ok (.dup, 1) := by decide +kernel
theorem dX7_append_24 : decode cX7_append 24 = .ok (.getfield 15, 3) := by decide +kernel
theorem dX7_append_27 : decode cX7_append 27 = .ok (.iconst 1, 1) := by decide +kernel
theorem dX7_append_28 : decode cX7_append 28 = .ok (.iadd, 1) := by decide +kernel
theorem dX7_append_29 : decode cX7_append 29 = .ok (.putfield 15, 3) := by decide +kernel
theorem dX7_append_32 : decode cX7_append 32 = .ok (.iconst 1, 1) := by decide +kernel
theorem dX7_append_33 : decode cX7_append 33 = .ok (.ireturn, 1) := by decide +kernel
theorem dX7_clear_0 : decode cX7_clear 0 = .ok (.aload_n 0, 1) := by decide +kernel
theorem dX7_clear_1 : decode cX7_clear 1 = .ok (.iconst 0, 1) := by decide +kernel
theorem dX7_clear_2 : decode cX7_clear 2 = .ok (.putfield 15, 3) := by decide +kernel
theorem dX7_clear_5 : decode cX7_clear 5 = .ok (.aload_n 0, 1) := by decide +kernel
theorem dX7_clear_6 : decode cX7_clear 6 = .ok (.iconst 0, 1) := by decide +kernel
theorem dX7_clear_7 : decode cX7_clear 7 = .ok (.putfield 19, 3) := by decide +kernel
theorem dX7_clear_10 : decode cX7_clear 10 = .ok (.return_, 1) := by decide +kernel
theorem dX7_look_0 : decode cX7_look 0 = .ok (.aload_n 0, 1) := by decide +kernel
theorem dX7_look_1 : decode cX7_look 1 = .ok (.getfield 19, 3) := by decide +kernel
theorem dX7_look_4 : decode cX7_look 4 = .ok (.iload_n 1, 1) := by decide +kernel
theorem dX7_look_5 : decode cX7_look 5 = .ok (.iadd, 1) := by decide +kernel
theorem dX7_look_6 : decode cX7_look 6 = .ok (.istore_n 2, 1) := by decide +kernel
theorem dX7_look_7 : decode cX7_look 7 = .ok (.iload_n 2, 1) := by decide +kernel
theorem dX7_look_8 : decode cX7_look 8 = .ok (.ifCond .lt 11, 3) := by decide +kernel
theorem dX7_look_11 : decode cX7_look 11 = .ok (.iload_n 2, 1) := by decide +kernel
theorem dX7_look_12 : decode cX7_look 12 = .ok (.aload_n 0, 1) := by decide +kernel
theorem dX7_look_13 : decode cX7_look 13 = .ok (.getfield 15, 3) := by decide +kernel
theorem dX7_look_16 : decode cX7_look 16 = .ok (.if_icmp .lt 7, 3) := by decide +kernel
theorem dX7_look_19 : decode cX7_look 19 = .ok (.iconst 0, 1) := by decide +kernel
theorem dX7_look_20 : decode cX7_look 20 = .ok (.goto 9, 3) := by decide +kernel
theorem dX7_look_23 : decode cX7_look 23 = .ok (.aload_n 0, 1) := by decide +kernel
theorem dX7_look_24 : decode cX7_look 24 = .ok (.getfield 9, 3) := by decide +kernel
theorem dX7_look_27 : decode cX7_look 27 = .ok (.iload_n 2, 1) := by decide +kernel
theorem dX7_look_28 : decode cX7_look 28 = .ok (.baload, 1) := by decide +kernel
theorem dX7_look_29 : decode cX7_look 29 = .ok (.ireturn, 1) := by decide +kernel
theorem dX7_holds_0 : decode cX7_holds 0 = .ok (.iload_n 3, 1) := by decide +kernel
theorem dX7_holds_1 : decode cX7_holds 1 = .ok (.ifCond .lt 19, 3) := by decide +kernel
theorem dX7_holds_4 : decode cX7_holds 4 = .ok (.iload_n 3, 1) := by decide +kernel
theorem dX7_holds_5 : decode cX7_holds 5 = .ok (.iload_n 2, 1) := by decide +kernel
theorem dX7_holds_6 : decode cX7_holds 6 = .ok (.iadd, 1) := by decide +kernel
theorem dX7_holds_7 : decode cX7_holds 7 = .ok (.aload_n 0, 1) := by decide +kernel
theorem dX7_holds_8 : decode cX7_holds 8 = .ok (.getfield 15, 3) := by decide +kernel
theorem dX7_holds_11 : decode cX7_holds 11 = .ok (.if_icmp .gt 9, 3) := by decide +kernel
theorem dX7_holds_14 : decode cX7_holds 14 = .ok (.iload_n 2, 1) := by decide +kernel
theorem dX7_holds_15 : decode cX7_holds 15 = .ok (.aload_n 1, 1) := by decide +kernel
theorem dX7_holds_16 : decode cX7_holds 16 = .ok (.arraylength, 1) := by decide +kernel
theorem dX7_holds_17 : decode cX7_holds 17 = .ok (.if_icmp .le 5, 3) := by decide +kernel
theorem dX7_holds_20 : decode cX7_holds 20 = .ok (.iconst 0, 1) := by decide +kernel
theorem dX7_holds_21 : decode cX7_holds 21 = .ok (.ireturn, 1) := by decide +kernel
theorem dX7_holds_22 : decode cX7_holds 22 = .ok (.iconst 0, 1) := by decide +kernel
theorem dX7_holds_23 : decode cX7_holds 23 = .ok (.istore 4, 2) := by decide +kernel
theorem dX7_holds_25 : decode cX7_holds 25 = .ok (.iload 4, 2) := by decide +kernel
theorem dX7_holds_27 : decode cX7_holds 27 = .ok (.iload_n 2, 1) := by decide +kernel
theorem dX7_holds_28 : decode cX7_holds 28 = .ok (.if_icmp .ge 27, 3) := by decide +kernel
theorem dX7_holds_31 : decode cX7_holds 31 = .ok (.aload_n 0, 1) := by decide +kernel
theorem dX7_holds_32 : decode cX7_holds 32 = .ok (.getfield 9, 3) := by decide +kernel
theorem dX7_holds_35 : decode cX7_holds 35 = .ok (.iload_n 3, 1) := by decide +kernel
theorem dX7_holds_36 : decode cX7_holds 36 = .ok (.iload 4, 2) := by decide +kernel
theorem dX7_holds_38 : decode cX7_holds 38 = .ok (.iadd, 1) := by decide +kernel
theorem dX7_holds_39 : decode cX7_holds 39 = .ok (.baload, 1) := by decide +kernel
theorem dX7_holds_40 : decode cX7_holds 40 = .ok (.aload_n 1, 1) := by decide +kernel
theorem dX7_holds_41 : decode cX7_holds 41 = .ok (.iload 4, 2) := by decide +kernel
theorem dX7_holds_43 : decode cX7_holds 43 = .ok (.baload, 1) := by decide +kernel
theorem dX7_holds_44 : decode cX7_holds 44 = .ok (.if_icmp .eq 5, 3) := by decide +kernel
theorem dX7_holds_47 : decode cX7_holds 47 = .ok (.iconst 0, 1) := by decide +kernel
theorem dX7_holds_48 : decode cX7_holds 48 = .ok (.ireturn, 1) := by decide +kernel
theorem dX7_holds_49 : decode cX7_holds 49 = .ok (.iinc 4 1, 3) := by decide +kernel
theorem dX7_holds_52 : decode cX7_holds 52 = .ok (.goto (-27), 3) := by decide +kernel
theorem dX7_holds_55 : decode cX7_holds 55 = .ok (.iconst 1, 1) := by decide +kernel
theorem dX7_holds_56 : decode cX7_holds 56 = .ok (.ireturn, 1) := by decide +kernel
theorem dX7_isAtEnd_0 : decode cX7_isAtEnd 0 = .ok (.aload_n 0, 1) := by decide +kernel
theorem dX7_isAtEnd_1 : decode cX7_isAtEnd 1 = .ok (.getfield 19, 3) := by decide +kernel
theorem dX7_isAtEnd_4 : decode cX7_isAtEnd 4 = .ok (.aload_n 0, 1) := by decide +kernel
theorem dX7_isAtEnd_5 : decode cX7_isAtEnd 5 = .ok (.getfield 15, 3) := by decide +kernel
theorem dX7_isAtEnd_8 : decode cX7_isAtEnd 8 = .ok (.if_icmp .lt 7, 3) := by decide +kernel
theorem dX7_isAtEnd_11 : decode cX7_isAtEnd 11 = .ok (.iconst 1, 1) := by decide +kernel
theorem dX7_isAtEnd_12 : decode cX7_isAtEnd 12 = .ok (.goto 4, 3) := by decide +kernel
theorem dX7_isAtEnd_15 : decode cX7_isAtEnd 15 = .ok (.iconst 0, 1) := by decide +kernel
theorem dX7_isAtEnd_16 : decode cX7_isAtEnd 16 = .ok (.ireturn, 1) := by decide +kernel
theorem dX7_takes_0 : decode cX7_takes 0 = .ok (.aload_n 0, 1) := by decide +kernel
theorem dX7_takes_1 : decode cX7_takes 1 = .ok (.iconst 0, 1) := by decide +kernel
theorem dX7_takes_2 : decode cX7_takes 2 = .ok (.invokevirtual 22, 3) := by decide +kernel
theorem dX7_takes_5 : decode cX7_takes 5 = .ok (.iload_n 1, 1) := by decide +kernel
theorem dX7_takes_6 : decode cX7_takes 6 = .ok (.if_icmp .eq 5, 3) := by decide +kernel
theorem dX7_takes_9 : decode cX7_takes 9 = .ok (.iconst 0, 1) := by decide +kernel
theorem dX7_takes_10 : decode cX7_takes 10 = .ok (.ireturn, 1) := by decide +kernel
theorem dX7_takes_11 : decode cX7_takes 11 = .ok (.aload_n 0, 1) := by decide +kernel
theorem dX7_takes_12 : decode cX7_takes 12 = .ok (.dup, 1) := by decide +kernel
theorem dX7_takes_13 : decode cX7_takes 13 = .ok (.getfield 19, 3) := by decide +kernel
theorem dX7_takes_16 : decode cX7_takes 16 = .ok (.iconst 1, 1) := by decide +kernel
theorem dX7_takes_17 : decode cX7_takes 17 = .ok (.iadd, 1) := by decide +kernel
theorem dX7_takes_18 : decode cX7_takes 18 = .ok (.putfield 19, 3) := by decide +kernel
theorem dX7_takes_21 : decode cX7_takes 21 = .ok (.iconst 1, 1) := by decide +kernel
theorem dX7_takes_22 : decode cX7_takes 22 = .ok (.ireturn, 1) := by decide +kernel
theorem dX7_isFigure_0 : decode cX7_isFigure 0 = .ok (.aload_n 0, 1) := by decide +kernel
theorem dX7_isFigure_1 : decode cX7_isFigure 1 = .ok (.iload_n 1, 1) := by decide +kernel
theorem dX7_isFigure_2 : decode cX7_isFigure 2 = .ok (.invokevirtual 22, 3) := by decide +kernel
theorem dX7_isFigure_5 : decode cX7_isFigure 5 = .ok (.istore_n 2, 1) := by decide +kernel
theorem dX7_isFigure_6 : decode cX7_isFigure 6 = .ok (.iload_n 2, 1) := by decide +kernel
theorem dX7_isFigure_7 : decode cX7_isFigure 7 = .ok (.bipush 48, 2) := by decide +kernel
theorem dX7_isFigure_9 : decode cX7_isFigure 9 = .ok (.if_icmp .lt 13, 3) := by decide +kernel
theorem dX7_isFigure_12 : decode cX7_isFigure 12 = .ok (.iload_n 2, 1) := by decide +kernel
theorem dX7_isFigure_13 : decode cX7_isFigure 13 = .ok (.bipush 57, 2) := by decide +kernel
theorem dX7_isFigure_15 : decode cX7_isFigure 15 = .ok (.if_icmp .gt 7, 3) := by decide +kernel
theorem dX7_isFigure_18 : decode cX7_isFigure 18 = .ok (.iconst 1, 1) := by decide +kernel
theorem dX7_isFigure_19 : decode cX7_isFigure 19 = .ok (.goto 4, 3) := by decide +kernel
theorem dX7_isFigure_22 : decode cX7_isFigure 22 = .ok (.iconst 0, 1) := by decide +kernel
theorem dX7_isFigure_23 : decode cX7_isFigure 23 = .ok (.ireturn, 1) := by decide +kernel
theorem dX7_isLetter_0 : decode cX7_isLetter 0 = .ok (.aload_n 0, 1) := by decide +kernel
theorem dX7_isLetter_1 : decode cX7_isLetter 1 = .ok (.iload_n 1, 1) := by decide +kernel
theorem dX7_isLetter_2 : decode cX7_isLetter 2 = .ok (.invokevirtual 22, 3) := by decide +kernel
theorem dX7_isLetter_5 : decode cX7_isLetter 5 = .ok (.istore_n 2, 1) := by decide +kernel
theorem dX7_isLetter_6 : decode cX7_isLetter 6 = .ok (.iload_n 2, 1) := by decide +kernel
theorem dX7_isLetter_7 : decode cX7_isLetter 7 = .ok (.bipush 97, 2) := by decide +kernel
theorem dX7_isLetter_9 : decode cX7_isLetter 9 = .ok (.if_icmp .lt 13, 3) := by decide +kernel
theorem dX7_isLetter_12 : decode cX7_isLetter 12 = .ok (.iload_n 2, 1) := by decide +kernel
theorem dX7_isLetter_13 : decode cX7_isLetter 13 = .ok (.bipush 122, 2) := by decide +kernel
theorem dX7_isLetter_15 : decode cX7_isLetter 15 = .ok (.if_icmp .gt 7, 3) := by decide +kernel
theorem dX7_isLetter_18 : decode cX7_isLetter 18 = .ok (.iconst 1, 1) := by decide +kernel
theorem dX7_isLetter_19 : decode cX7_isLetter 19 = .ok (.goto 4, 3) := by decide +kernel
theorem dX7_isLetter_22 : decode cX7_isLetter 22 = .ok (.iconst 0, 1) := by decide +kernel
theorem dX7_isLetter_23 : decode cX7_isLetter 23 = .ok (.ireturn, 1) := by decide +kernel
theorem dX7_takeName_0 : decode cX7_takeName 0 = .ok (.iconst 0, 1) := by decide +kernel
theorem dX7_takeName_1 : decode cX7_takeName 1 = .ok (.istore_n 1, 1) := by decide +kernel
theorem dX7_takeName_2 : decode cX7_takeName 2 = .ok (.iload_n 1, 1) := by decide +kernel
theorem dX7_takeName_3 : decode cX7_takeName 3 = .ok (.iconst 4, 1) := by decide +kernel
theorem dX7_takeName_4 : decode cX7_takeName 4 = .ok (.if_icmp .ge 27, 3) := by decide +kernel
theorem dX7_takeName_7 : decode cX7_takeName 7 = .ok (.aload_n 0, 1) := by decide +kernel
theorem dX7_takeName_8 : decode cX7_takeName 8 = .ok (.iconst 0, 1) := by decide +kernel
theorem dX7_takeName_9 : decode cX7_takeName 9 = .ok (.invokevirtual 26, 3) := by decide +kernel
theorem dX7_takeName_12 : decode cX7_takeName 12 = .ok (.ifCond .eq 19, 3) := by decide +kernel
theorem dX7_takeName_15 : decode cX7_takeName 15 = .ok (.iinc 1 1, 3) := by decide +kernel
theorem dX7_takeName_18 : decode cX7_takeName 18 = .ok (.aload_n 0, 1) := by decide +kernel
theorem dX7_takeName_19 : decode cX7_takeName 19 = .ok (.dup, 1) := by decide +kernel
theorem dX7_takeName_20 : decode cX7_takeName 20 = .ok (.getfield 19, 3) := by decide +kernel
theorem dX7_takeName_23 : decode cX7_takeName 23 = .ok (.iconst 1, 1) := by decide +kernel
theorem dX7_takeName_24 : decode cX7_takeName 24 = .ok (.iadd, 1) := by decide +kernel
theorem dX7_takeName_25 : decode cX7_takeName 25 = .ok (.putfield 19, 3) := by decide +kernel
theorem dX7_takeName_28 : decode cX7_takeName 28 = .ok (.goto (-26), 3) := by decide +kernel
theorem dX7_takeName_31 : decode cX7_takeName 31 = .ok (.iload_n 1, 1) := by decide +kernel
theorem dX7_takeName_32 : decode cX7_takeName 32 = .ok (.ireturn, 1) := by decide +kernel
theorem dX7_takeNumber_0 : decode cX7_takeNumber 0 = .ok (.aload_n 0, 1) := by decide +kernel
theorem dX7_takeNumber_1 : decode cX7_takeNumber 1 = .ok (.iconst 0, 1) := by decide +kernel
theorem dX7_takeNumber_2 : decode cX7_takeNumber 2 = .ok (.invokevirtual 30, 3) := by decide +kernel
theorem dX7_takeNumber_5 : decode cX7_takeNumber 5 = .ok (.ifCond .ne 5, 3) := by decide +kernel
theorem dX7_takeNumber_8 : decode cX7_takeNumber 8 = .ok (.iconst (-1), 1) := by decide +kernel
theorem dX7_takeNumber_9 : decode cX7_takeNumber 9 = .ok (.ireturn, 1) := by decide +kernel
theorem dX7_takeNumber_10 : decode cX7_takeNumber 10 = .ok (.iconst 0, 1) := by decide +kernel
theorem dX7_takeNumber_11 : decode cX7_takeNumber 11 = .ok (.istore_n 1, 1) := by decide +kernel
theorem dX7_takeNumber_12 : decode cX7_takeNumber 12 = .ok (.iconst 0, 1) := by decide +kernel
theorem dX7_takeNumber_13 : decode cX7_takeNumber 13 = .ok (.istore_n 2, 1) := by decide +kernel
theorem dX7_takeNumber_14 : decode cX7_takeNumber 14 = .ok (.iload_n 2, 1) := by decide +kernel
theorem dX7_takeNumber_15 : decode cX7_takeNumber 15 = .ok (.bipush 6, 2) := by decide +kernel
theorem dX7_takeNumber_17 : decode cX7_takeNumber 17 = .ok (.if_icmp .ge 27, 3) := by decide +kernel
theorem dX7_takeNumber_20 : decode cX7_takeNumber 20 = .ok (.aload_n 0, 1) := by decide +kernel
theorem dX7_takeNumber_21 : decode cX7_takeNumber 21 = .ok (.iconst 0, 1) := by decide +kernel
theorem dX7_takeNumber_22 : decode cX7_takeNumber 22 = .ok (.invokevirtual 30, 3) := by decide +kernel
theorem dX7_takeNumber_25 : decode cX7_takeNumber 25 = .ok (.ifCond .eq 19, 3) := by decide +kernel
theorem dX7_takeNumber_28 : decode cX7_takeNumber 28 = .ok (.iload_n 1, 1) := by decide +kernel
theorem dX7_takeNumber_29 : decode cX7_takeNumber 29 = .ok (.bipush 10, 2) := by decide +kernel
theorem dX7_takeNumber_31 : decode cX7_takeNumber 31 = .ok (.imul, 1) := by decide +kernel
theorem dX7_takeNumber_32 : decode cX7_takeNumber 32 = .ok (.aload_n 0, 1) := by decide +kernel
theorem dX7_takeNumber_33 : decode cX7_takeNumber 33 = .ok (.invokevirtual 33, 3) := by decide +kernel
theorem dX7_takeNumber_36 : decode cX7_takeNumber 36 = .ok (.iadd, 1) := by decide +kernel
theorem dX7_takeNumber_37 : decode cX7_takeNumber 37 = .ok (.istore_n 1, 1) := by decide +kernel
theorem dX7_takeNumber_38 : decode cX7_takeNumber 38 = .ok (.iinc 2 1, 3) := by decide +kernel
theorem dX7_takeNumber_41 : decode cX7_takeNumber 41 = .ok (.goto (-27), 3) := by decide +kernel
theorem dX7_takeNumber_44 : decode cX7_takeNumber 44 = .ok (.iload_n 1, 1) := by decide +kernel
theorem dX7_takeNumber_45 : decode cX7_takeNumber 45 = .ok (.ireturn, 1) := by decide +kernel
theorem dX7_takeFigure_0 : decode cX7_takeFigure 0 = .ok (.aload_n 0, 1) := by decide +kernel
theorem dX7_takeFigure_1 : decode cX7_takeFigure 1 = .ok (.dup, 1) := by decide +kernel
theorem dX7_takeFigure_2 : decode cX7_takeFigure 2 = .ok (.getfield 19, 3) := by decide +kernel
theorem dX7_takeFigure_5 : decode cX7_takeFigure 5 = .ok (.iconst 1, 1) := by decide +kernel
theorem dX7_takeFigure_6 : decode cX7_takeFigure 6 = .ok (.iadd, 1) := by decide +kernel
theorem dX7_takeFigure_7 : decode cX7_takeFigure 7 = .ok (.putfield 19, 3) := by decide +kernel
theorem dX7_takeFigure_10 : decode cX7_takeFigure 10 = .ok (.aload_n 0, 1) := by decide +kernel
theorem dX7_takeFigure_11 : decode cX7_takeFigure 11 = .ok (.iconst (-1), 1) := by decide +kernel
theorem dX7_takeFigure_12 : decode cX7_takeFigure 12 = .ok (.invokevirtual 22, 3) := by decide +kernel
theorem dX7_takeFigure_15 : decode cX7_takeFigure 15 = .ok (.bipush 48, 2) := by decide +kernel
theorem dX7_takeFigure_17 : decode cX7_takeFigure 17 = .ok (.isub, 1) := by decide +kernel
theorem dX7_takeFigure_18 : decode cX7_takeFigure 18 = .ok (.ireturn, 1) := by decide +kernel
theorem dX7_isPower_0 : decode cX7_isPower 0 = .ok (.aload_n 0, 1) := by decide +kernel
theorem dX7_isPower_1 : decode cX7_isPower 1 = .ok (.iconst 0, 1) := by decide +kernel
theorem dX7_isPower_2 : decode cX7_isPower 2 = .ok (.invokevirtual 22, 3) := by decide +kernel
theorem dX7_isPower_5 : decode cX7_isPower 5 = .ok (.bipush 49, 2) := by decide +kernel
theorem dX7_isPower_7 : decode cX7_isPower 7 = .ok (.if_icmp .lt 17, 3) := by decide +kernel
theorem dX7_isPower_10 : decode cX7_isPower 10 = .ok (.aload_n 0, 1) := by decide +kernel
theorem dX7_isPower_11 : decode cX7_isPower 11 = .ok (.iconst 0, 1) := by decide +kernel
theorem dX7_isPower_12 : decode cX7_isPower 12 = .ok (.invokevirtual 22, 3) := by decide +kernel
theorem dX7_isPower_15 : decode cX7_isPower 15 = .ok (.bipush 52, 2) := by decide +kernel
theorem dX7_isPower_17 : decode cX7_isPower 17 = .ok (.if_icmp .gt 7, 3) := by decide +kernel
theorem dX7_isPower_20 : decode cX7_isPower 20 = .ok (.iconst 1, 1) := by decide +kernel
theorem dX7_isPower_21 : decode cX7_isPower 21 = .ok (.goto 4, 3) := by decide +kernel
theorem dX7_isPower_24 : decode cX7_isPower 24 = .ok (.iconst 0, 1) := by decide +kernel
theorem dX7_isPower_25 : decode cX7_isPower 25 = .ok (.ireturn, 1) := by decide +kernel
theorem dX7_takePower_0 : decode cX7_takePower 0 = .ok (.aload_n 0, 1) := by decide +kernel
theorem dX7_takePower_1 : decode cX7_takePower 1 = .ok (.invokevirtual 37, 3) := by decide +kernel
theorem dX7_takePower_4 : decode cX7_takePower 4 = .ok (.ifCond .eq 10, 3) := by decide +kernel
theorem dX7_takePower_7 : decode cX7_takePower 7 = .ok (.aload_n 0, 1) := by decide +kernel
theorem dX7_takePower_8 : decode cX7_takePower 8 = .ok (.invokevirtual 33, 3) := by decide +kernel
theorem dX7_takePower_11 : decode cX7_takePower 11 = .ok (.goto 4, 3) := by decide +kernel
theorem dX7_takePower_14 : decode cX7_takePower 14 = .ok (.iconst 1, 1) := by decide +kernel
theorem dX7_takePower_15 : decode cX7_takePower 15 = .ok (.ireturn, 1) := by decide +kernel
theorem dX8_init_0 : decode cX8_init 0 = .ok (.aload_n 0, 1) := by decide +kernel
theorem dX8_init_1 : decode cX8_init 1 = .ok (.invokespecial 3, 3) := by decide +kernel
theorem dX8_init_4 : decode cX8_init 4 = .ok (.aload_n 0, 1) := by decide +kernel
theorem dX8_init_5 : decode cX8_init 5 = .ok (.iconst (-1), 1) := by decide +kernel
theorem dX8_init_6 : decode cX8_init 6 = .ok (.putfield 9, 3) := by decide +kernel
theorem dX8_init_9 : decode cX8_init 9 = .ok (.aload_n 0, 1) := by decide +kernel
theorem dX8_init_10 : decode cX8_init 10 = .ok (.iconst 0, 1) := by decide +kernel
theorem dX8_init_11 : decode cX8_init 11 = .ok (.putfield 15, 3) := by decide +kernel
theorem dX8_init_14 : decode cX8_init 14 = .ok (.aload_n 0, 1) := by decide +kernel
theorem dX8_init_15 : decode cX8_init 15 = .ok (.bipush 30, 2) := by decide +kernel
theorem dX8_init_17 : decode cX8_init 17 = .ok (.newarray .double, 2) := by decide +kernel
theorem dX8_init_19 : decode cX8_init 19 = .ok (.putfield 18, 3) := by decide +kernel
theorem dX8_init_22 : decode cX8_init 22 = .ok (.aload_n 0, 1) := by decide +kernel
theorem dX8_init_23 : decode cX8_init 23 = .ok (.bipush 30, 2) := by decide +kernel
theorem dX8_init_25 : decode cX8_init 25 = .ok (.newarray .boolean, 2) := by decide +kernel
theorem dX8_init_27 : decode cX8_init 27 = .ok (.putfield 22, 3) := by decide +kernel
theorem dX8_init_30 : decode cX8_init 30 = .ok (.return_, 1) := by decide +kernel
theorem dX8_isNothing_0 : decode cX8_isNothing 0 = .ok (.aload_n 0, 1) := by decide +kernel
theorem dX8_isNothing_1 : decode cX8_isNothing 1 = .ok (.getfield 9, 3) := by decide +kernel
theorem dX8_isNothing_4 : decode cX8_isNothing 4 = .ok (.ifCond .ge 7, 3) := by decide +kernel
theorem dX8_isNothing_7 : decode cX8_isNothing 7 = .ok (.iconst 1, 1) := by decide +kernel
theorem dX8_isNothing_8 : decode cX8_isNothing 8 = .ok (.goto 4, 3) := by decide +kernel
theorem dX8_isNothing_11 : decode cX8_isNothing 11 = .ok (.iconst 0, 1) := by decide +kernel
theorem dX8_isNothing_12 : decode cX8_isNothing 12 = .ok (.ireturn, 1) := by decide +kernel
theorem dX8_become_0 : decode cX8_become 0 = .ok (.aload_n 0, 1) := by decide +kernel
theorem dX8_become_1 : decode cX8_become 1 = .ok (.iload_n 1, 1) := by decide +kernel
theorem dX8_become_2 : decode cX8_become 2 = .ok (.putfield 9, 3) := by decide +kernel
theorem dX8_become_5 : decode cX8_become 5 = .ok (.aload_n 0, 1) := by decide +kernel
theorem dX8_become_6 : decode cX8_become 6 = .ok (.iload_n 2, 1) := by decide +kernel
theorem dX8_become_7 : decode cX8_become 7 = .ok (.putfield 15, 3) := by decide +kernel
theorem dX8_become_10 : decode cX8_become 10 = .ok (.iconst 0, 1) := by decide +kernel
theorem dX8_become_11 : decode cX8_become 11 = .ok (.istore_n 3, 1) := by decide +kernel
theorem dX8_become_12 : decode cX8_become 12 = .ok (.iload_n 3, 1) := by decide +kernel
theorem dX8_become_13 : decode cX8_become 13 = .ok (.bipush 30, 2) := by decide +kernel
theorem dX8_become_15 : decode cX8_become 15 = .ok (.if_icmp .ge 15, 3) := by decide +kernel
theorem dX8_become_18 : decode cX8_become 18 = .ok (.aload_n 0, 1) := by decide +kernel
theorem dX8_become_19 : decode cX8_become 19 = .ok (.iload_n 3, 1) := by decide +kernel
theorem dX8_become_20 : decode cX8_become 20 = .ok (.dconst 0, 1) := by decide +kernel
theorem dX8_become_21 : decode cX8_become 21 = .ok (.invokevirtual 26, 3) := by decide +kernel
theorem dX8_become_24 : decode cX8_become 24 = .ok (.iinc 3 1, 3) := by decide +kernel
theorem dX8_become_27 : decode cX8_become 27 = .ok (.goto (-15), 3) := by decide +kernel
theorem dX8_become_30 : decode cX8_become 30 = .ok (.return_, 1) := by decide +kernel
theorem dX8_store_0 : decode cX8_store 0 = .ok (.aload_n 0, 1) := by decide +kernel
theorem dX8_store_1 : decode cX8_store 1 = .ok (.getfield 18, 3) := by decide +kernel
theorem dX8_store_4 : decode cX8_store 4 = .ok (.iload_n 1, 1) := by decide +kernel
theorem dX8_store_5 : decode cX8_store 5 = .ok (.dload_n 2, 1) := by decide +kernel
theorem dX8_store_6 : decode cX8_store 6 = .ok (.dastore, 1) := by decide +kernel
theorem dX8_store_7 : decode cX8_store 7 = .ok (.aload_n 0, 1) := by decide +kernel
theorem dX8_store_8 : decode cX8_store 8 = .ok (.getfield 22, 3) := by decide +kernel
theorem dX8_store_11 : decode cX8_store 11 = .ok (.iload_n 1, 1) := by decide +kernel
theorem dX8_store_12 : decode cX8_store 12 = .ok (.iconst 0, 1) := by decide +kernel
theorem dX8_store_13 : decode cX8_store 13 = .ok (.bastore, 1) := by decide +kernel
theorem dX8_store_14 : decode cX8_store 14 = .ok (.return_, 1) := by decide +kernel
theorem dX8_storeBits_0 : decode cX8_storeBits 0 = .ok (.aload_n 0, 1) := by decide +kernel
theorem dX8_storeBits_1 : decode cX8_storeBits 1 = .ok (.getfield 9, 3) := by decide +kernel
theorem dX8_storeBits_4 : decode cX8_storeBits 4 = .ok (.ifCond .ne 11, 3) := by decide +kernel
theorem dX8_storeBits_7 : decode cX8_storeBits 7 = .ok (.lload_n 2, 1) := by decide +kernel
theorem dX8_storeBits_8 : decode cX8_storeBits 8 = .ok (.ldc2_w 30, 3) := by decide +kernel
theorem dX8_storeBits_11 : decode cX8_storeBits 11 = .ok (.land, 1) := by decide +kernel
theorem dX8_storeBits_12 : decode cX8_storeBits 12 = .ok (.goto 4, 3) := by decide +kernel
theorem dX8_storeBits_15 : decode cX8_storeBits 15 = .ok (.lload_n 2, 1) := by decide +kernel
theorem dX8_storeBits_16 : decode cX8_storeBits 16 = .ok (.lstore 5, 2) := by decide +kernel
theorem dX8_storeBits_18 : decode cX8_storeBits 18 = .ok (.aload_n 0, 1) := by decide +kernel
theorem dX8_storeBits_19 : decode cX8_storeBits 19 = .ok (.getfield 22, 3) := by decide +kernel
theorem dX8_storeBits_22 : decode cX8_storeBits 22 = .ok (.iload_n 1, 1) := by decide +kernel
theorem dX8_storeBits_23 : decode cX8_storeBits 23 = .ok (.aload_n 0, 1) := by decide +kernel
theorem dX8_storeBits_24 : decode cX8_storeBits 24 = .ok (.getfield 9, 3) := by decide +kernel
theorem dX8_storeBits_27 : decode cX8_storeBits 27 = .ok (.ifCond .ne 13, 3) := by decide +kernel
theorem dX8_storeBits_30 : decode cX8_storeBits 30 = .ok (.aload 4, 2) := by decide +kernel
theorem dX8_storeBits_32 : decode cX8_storeBits 32 = .ok (.lload 5, 2) := by decide +kernel
theorem dX8_storeBits_34 : decode cX8_storeBits 34 = .ok (.invokevirtual 32, 3) := by decide +kernel
theorem dX8_storeBits_37 : decode cX8_storeBits 37 = .ok (.goto 10, 3) := by decide +kernel
theorem dX8_storeBits_40 : decode cX8_storeBits 40 = .ok (.aload 4, 2) := by decide +kernel
theorem dX8_storeBits_42 : decode cX8_storeBits 42 = .ok (.lload 5, 2) := by decide +kernel
theorem dX8_storeBits_44 : decode cX8_storeBits 44 = .ok (.invokevirtual 38, 3) := by decide +kernel
theorem dX8_storeBits_47 : decode cX8_storeBits 47 = .ok (.bastore, 1) := by decide +kernel
theorem dX8_storeBits_48 : decode cX8_storeBits 48 = .ok (.aload_n 0, 1) := by decide +kernel
theorem dX8_storeBits_49 : decode cX8_storeBits 49 = .ok (.getfield 18, 3) := by decide +kernel
theorem dX8_storeBits_52 : decode cX8_storeBits 52 = .ok (.iload_n 1, 1) := by decide +kernel
theorem dX8_storeBits_53 : decode cX8_storeBits 53 = .ok (.aload_n 0, 1) := by decide +kernel
theorem dX8_storeBits_54 : decode cX8_storeBits 54 = .ok (.getfield 22, 3) := by decide +kernel
theorem dX8_storeBits_57 : decode cX8_storeBits 57 = .ok (.iload_n 1, 1) := by decide +kernel
theorem dX8_storeBits_58 : decode cX8_storeBits 58 = .ok (.baload, 1) := by decide +kernel
theorem dX8_storeBits_59 : decode cX8_storeBits 59 = .ok (.ifCond .eq 7, 3) := by decide +kernel
theorem dX8_storeBits_62 : decode cX8_storeBits 62 = .ok (.dconst 0, 1) := by decide +kernel
theorem dX8_storeBits_63 : decode cX8_storeBits 63 = .ok (.goto 27, 3) := by decide +kernel
theorem dX8_storeBits_66 : decode cX8_storeBits 66 = .ok (.aload_n 0, 1) := by decide +kernel
theorem dX8_storeBits_67 : decode cX8_storeBits 67 = .ok (.getfield 9, 3) := by decide +kernel
theorem dX8_storeBits_70 : decode cX8_storeBits 70 = .ok (.ifCond .ne 13, 3) := by decide +kernel
theorem dX8_storeBits_73 : decode cX8_storeBits 73 = .ok (.aload 4, 2) := by decide +kernel
theorem dX8_storeBits_75 : decode cX8_storeBits 75 = .ok (.lload 5, 2) := by decide +kernel
theorem dX8_storeBits_77 : decode cX8_storeBits 77 = .ok (.invokevirtual 41, 3) := by decide +kernel
theorem dX8_storeBits_80 : decode cX8_storeBits 80 = .ok (.goto 10, 3) := by decide +kernel
theorem dX8_storeBits_83 : decode cX8_storeBits 83 = .ok (.aload 4, 2) := by decide +kernel
theorem dX8_storeBits_85 : decode cX8_storeBits 85 = .ok (.lload 5, 2) := by decide +kernel
theorem dX8_storeBits_87 : decode cX8_storeBits 87 = .ok (.invokevirtual 45, 3) := by decide +kernel
theorem dX8_storeBits_90 : decode cX8_storeBits 90 = .ok (.dastore, 1) := by decide +kernel
theorem dX8_storeBits_91 : decode cX8_storeBits 91 = .ok (.return_, 1) := by decide +kernel
theorem dX8_number_0 : decode cX8_number 0 = .ok (.aload_n 0, 1) := by decide +kernel
theorem dX8_number_1 : decode cX8_number 1 = .ok (.getfield 22, 3) := by decide +kernel
theorem dX8_number_4 : decode cX8_number 4 = .ok (.iload_n 1, 1) := by decide +kernel
theorem dX8_number_5 : decode cX8_number 5 = .ok (.baload, 1) := by decide +kernel
theorem dX8_number_6 : decode cX8_number 6 = .ok (.ifCond .eq 7, 3) := by decide +kernel
theorem dX8_number_9 : decode cX8_number 9 = .ok (.dconst 0, 1) := by decide +kernel
theorem dX8_number_10 : decode cX8_number 10 = .ok (.goto 9, 3) := by decide +kernel
theorem dX8_number_13 : decode cX8_number 13 = .ok (.aload_n 0, 1) := by decide +kernel
theorem dX8_number_14 : decode cX8_number 14 = .ok (.getfield 18, 3) := by decide +kernel
theorem dX8_number_17 : decode cX8_number 17 = .ok (.iload_n 1, 1) := by decide +kernel
theorem dX8_number_18 : decode cX8_number 18 = .ok (.daload, 1) := by decide +kernel
theorem dX8_number_19 : decode cX8_number 19 = .ok (.dreturn, 1) := by decide +kernel
theorem dX8_bitsOf_0 : decode cX8_bitsOf 0 = .ok (.aload_n 0, 1) := by decide +kernel
theorem dX8_bitsOf_1 : decode cX8_bitsOf 1 = .ok (.getfield 9, 3) := by decide +kernel
theorem dX8_bitsOf_4 : decode cX8_bitsOf 4 = .ok (.ifCond .ne 21, 3) := by decide +kernel
theorem dX8_bitsOf_7 : decode cX8_bitsOf 7 = .ok (.iload_n 3, 1) := by decide +kernel
theorem dX8_bitsOf_8 : decode cX8_bitsOf 8 = .ok (.ifCond .eq 9, 3) := by decide +kernel
theorem dX8_bitsOf_11 : decode cX8_bitsOf 11 = .ok (.ldc2_w 48, 3) := by decide +kernel
theorem dX8_bitsOf_14 : decode cX8_bitsOf 14 = .ok (.goto 10, 3) := by decide +kernel
theorem dX8_bitsOf_17 : decode cX8_bitsOf 17 = .ok (.aload 4, 2) := by decide +kernel
theorem dX8_bitsOf_19 : decode cX8_bitsOf 19 = .ok (.dload_n 1, 1) := by decide +kernel
theorem dX8_bitsOf_20 : decode cX8_bitsOf 20 = .ok (.d2f, 1) := by decide +kernel
theorem dX8_bitsOf_21 : decode cX8_bitsOf 21 = .ok (.invokevirtual 50, 3) := by decide +kernel
theorem dX8_bitsOf_24 : decode cX8_bitsOf 24 = .ok (.lreturn, 1) := by decide +kernel
theorem dX8_bitsOf_25 : decode cX8_bitsOf 25 = .ok (.iload_n 3, 1) := by decide +kernel
theorem dX8_bitsOf_26 : decode cX8_bitsOf 26 = .ok (.ifCond .eq 9, 3) := by decide +kernel
theorem dX8_bitsOf_29 : decode cX8_bitsOf 29 = .ok (.ldc2_w 54, 3) := by decide +kernel
theorem dX8_bitsOf_32 : decode cX8_bitsOf 32 = .ok (.goto 9, 3) := by decide +kernel
theorem dX8_bitsOf_35 : decode cX8_bitsOf 35 = .ok (.aload 4, 2) := by decide +kernel
theorem dX8_bitsOf_37 : decode cX8_bitsOf 37 = .ok (.dload_n 1, 1) := by decide +kernel
theorem dX8_bitsOf_38 : decode cX8_bitsOf 38 = .ok (.invokevirtual 56, 3) := by decide +kernel
theorem dX8_bitsOf_41 : decode cX8_bitsOf 41 = .ok (.lreturn, 1) := by decide +kernel
theorem dX8_copy_0 : decode cX8_copy 0 = .ok (.aload_n 0, 1) := by decide +kernel
theorem dX8_copy_1 : decode cX8_copy 1 = .ok (.aload_n 1, 1) := by decide +kernel
theorem dX8_copy_2 : decode cX8_copy 2 = .ok (.getfield 9, 3) := by decide +kernel
theorem dX8_copy_5 : decode cX8_copy 5 = .ok (.putfield 9, 3) := by decide +kernel
theorem dX8_copy_8 : decode cX8_copy 8 = .ok (.aload_n 0, 1) := by decide +kernel
theorem dX8_copy_9 : decode cX8_copy 9 = .ok (.aload_n 1, 1) := by decide +kernel
theorem dX8_copy_10 : decode cX8_copy 10 = .ok (.getfield 15, 3) := by decide +kernel
theorem dX8_copy_13 : decode cX8_copy 13 = .ok (.putfield 15, 3) := by decide +kernel
theorem dX8_copy_16 : decode cX8_copy 16 = .ok (.aload_n 1, 1) := by decide +kernel
theorem dX8_copy_17 : decode cX8_copy 17 = .ok (.getfield 18, 3) := by decide +kernel
theorem dX8_copy_20 : decode cX8_copy 20 = .ok (.iconst 0, 1) := by decide +kernel
theorem dX8_copy_21 : decode cX8_copy 21 = .ok (.aload_n 0, 1) := by decide +kernel
theorem dX8_copy_22 : decode cX8_copy 22 = .ok (.getfield 18, 3) := by decide +kernel
theorem dX8_copy_25 : decode cX8_copy 25 = .ok (.iconst 0, 1) := by decide +kernel
theorem dX8_copy_26 : decode cX8_copy 26 = .ok (.bipush 30, 2) := by decide +kernel
theorem dX8_copy_28 : decode cX8_copy 28 = .ok (.invokestatic 60, 3) := by decide +kernel
theorem dX8_copy_31 : decode cX8_copy 31 = .ok (.iconst 0, 1) := by decide +kernel
theorem dX8_copy_32 : decode cX8_copy 32 = .ok (.istore_n 2, 1) := by decide +kernel
theorem dX8_copy_33 : decode cX8_copy 33 = .ok (.iload_n 2, 1) := by decide +kernel
theorem dX8_copy_34 : decode cX8_copy 34 = .ok (.bipush 30, 2) := by decide +kernel
theorem dX8_copy_36 : decode cX8_copy 36 = .ok (.if_icmp .ge 21, 3) := by decide +kernel
theorem dX8_copy_39 : decode cX8_copy 39 = .ok (.aload_n 0, 1) := by decide +kernel
theorem dX8_copy_40 : decode cX8_copy 40 = .ok (.getfield 22, 3) := by decide +kernel
theorem dX8_copy_43 : decode cX8_copy 43 = .ok (.iload_n 2, 1) := by decide +kernel
theorem dX8_copy_44 : decode cX8_copy 44 = .ok (.aload_n 1, 1) := by decide +kernel
theorem dX8_copy_45 : decode cX8_copy 45 = .ok (.getfield 22, 3) := by decide +kernel
theorem dX8_copy_48 : decode cX8_copy 48 = .ok (.iload_n 2, 1) := by decide +kernel
theorem dX8_copy_49 : decode cX8_copy 49 = .ok (.baload, 1) := by decide +kernel
theorem dX8_copy_50 : decode cX8_copy 50 = .ok (.bastore, 1) := by decide +kernel
theorem dX8_copy_51 : decode cX8_copy 51 = .ok (.iinc 2 1, 3) := by decide +kernel
theorem dX8_copy_54 : decode cX8_copy 54 = .ok (.goto (-21), 3) := by decide +kernel
theorem dX8_copy_57 : decode cX8_copy 57 = .ok (.return_, 1) := by decide +kernel
theorem dX8_convert_0 : decode cX8_convert 0 = .ok (.iconst 0, 1) := by decide +kernel
theorem dX8_convert_1 : decode cX8_convert 1 = .ok (.istore_n 3, 1) := by decide +kernel
theorem dX8_convert_2 : decode cX8_convert 2 = .ok (.iload_n 3, 1) := by decide +kernel
theorem dX8_convert_3 : decode cX8_convert 3 = .ok (.aload_n 0, 1) := by decide +kernel
theorem dX8_convert_4 : decode cX8_convert 4 = .ok (.getfield 15, 3) := by decide +kernel
theorem dX8_convert_7 : decode cX8_convert 7 = .ok (.if_icmp .ge 64, 3) := by decide +kernel
theorem dX8_convert_10 : decode cX8_convert 10 = .ok (.iload_n 3, 1) := by decide +kernel
theorem dX8_convert_11 : decode cX8_convert 11 = .ok (.bipush 30, 2) := by decide +kernel
theorem dX8_convert_13 : decode cX8_convert 13 = .ok (.if_icmp .ge 58, 3) := by decide +kernel
theorem dX8_convert_16 : decode cX8_convert 16 = .ok (.aload_n 0, 1) := by decide +kernel
theorem dX8_convert_17 : decode cX8_convert 17 = .ok (.getfield 22, 3) := by decide +kernel
theorem dX8_convert_20 : decode cX8_convert 20 = .ok (.iload_n 3, 1) := by decide +kernel
theorem dX8_convert_21 : decode cX8_convert 21 = .ok (.baload, 1) := by decide +kernel
theorem dX8_convert_22 : decode cX8_convert 22 = .ok (.ifCond .ne 43, 3) := by decide +kernel
theorem dX8_convert_25 : decode cX8_convert 25 = .ok (.aload_n 0, 1) := by decide +kernel
theorem dX8_convert_26 : decode cX8_convert 26 = .ok (.getfield 18, 3) := by decide +kernel
theorem dX8_convert_29 : decode cX8_convert 29 = .ok (.iload_n 3, 1) := by decide +kernel
theorem dX8_convert_30 : decode cX8_convert 30 = .ok (.aload_n 0, 1) := by decide +kernel
theorem dX8_convert_31 : decode cX8_convert 31 = .ok (.getfield 9, 3) := by decide +kernel
theorem dX8_convert_34 : decode cX8_convert 34 = .ok (.ifCond .ne 19, 3) := by decide +kernel
theorem dX8_convert_37 : decode cX8_convert 37 = .ok (.aload_n 0, 1) := by decide +kernel
theorem dX8_convert_38 : decode cX8_convert 38 = .ok (.getfield 18, 3) := by decide +kernel
theorem dX8_convert_41 : decode cX8_convert 41 = .ok (.iload_n 3, 1) := by decide +kernel
theorem dX8_convert_42 : decode cX8_convert 42 = .ok (.daload, 1) := by decide +kernel
theorem dX8_convert_43 : decode cX8_convert 43 = .ok (.d2f, 1) := by decide +kernel
theorem dX8_convert_44 : decode cX8_convert 44 = .ok (.aload_n 1, 1) := by decide +kernel
theorem dX8_convert_45 : decode cX8_convert 45 = .ok (.aload_n 2, 1) := by decide +kernel
theorem dX8_convert_46 : decode cX8_convert 46 = .ok (.invokestatic 66, 3) := by decide +kernel
theorem dX8_convert_49 : decode cX8_convert 49 = .ok (.f2d, 1) := by decide +kernel
theorem dX8_convert_50 : decode cX8_convert 50 = .ok (.goto 14, 3) := by decide +kernel
theorem dX8_convert_53 : decode cX8_convert 53 = .ok (.aload_n 0, 1) := by decide +kernel
theorem dX8_convert_54 : decode cX8_convert 54 = .ok (.getfield 18, 3) := by decide +kernel
theorem dX8_convert_57 : decode cX8_convert 57 = .ok (.iload_n 3, 1) := by decide +kernel
theorem dX8_convert_58 : decode cX8_convert 58 = .ok (.daload, 1) := by decide +kernel
theorem dX8_convert_59 : decode cX8_convert 59 = .ok (.aload_n 1, 1) := by decide +kernel
theorem dX8_convert_60 : decode cX8_convert 60 = .ok (.aload_n 2, 1) := by decide +kernel
theorem dX8_convert_61 : decode cX8_convert 61 = .ok (.invokestatic 70, 3) := by decide +kernel
theorem dX8_convert_64 : decode cX8_convert 64 = .ok (.dastore, 1) := by decide +kernel
theorem dX8_convert_65 : decode cX8_convert 65 = .ok (.iinc 3 1, 3) := by decide +kernel
theorem dX8_convert_68 : decode cX8_convert 68 = .ok (.goto (-66), 3) := by decide +kernel
theorem dX8_convert_71 : decode cX8_convert 71 = .ok (.return_, 1) := by decide +kernel
theorem dX8_inFloats_0 : decode cX8_inFloats 0 = .ok (.fload_n 0, 1) := by decide +kernel
theorem dX8_inFloats_1 : decode cX8_inFloats 1 = .ok (.aload_n 1, 1) := by decide +kernel
theorem dX8_inFloats_2 : decode cX8_inFloats 2 = .ok (.getfield 74, 3) := by decide +kernel
theorem dX8_inFloats_5 : decode cX8_inFloats 5 = .ok (.getfield 80, 3) := by decide +kernel
theorem dX8_inFloats_8 : decode cX8_inFloats 8 = .ok (.l2f, 1) := by decide +kernel
theorem dX8_inFloats_9 : decode cX8_inFloats 9 = .ok (.fmul, 1) := by decide +kernel
theorem dX8_inFloats_10 : decode cX8_inFloats 10 = .ok (.fstore_n 3, 1) := by decide +kernel
theorem dX8_inFloats_11 : decode cX8_inFloats 11 = .ok (.fload_n 3, 1) := by decide +kernel
theorem dX8_inFloats_12 : decode cX8_inFloats 12 = .ok (.aload_n 1, 1) := by decide +kernel
theorem dX8_inFloats_13 : decode cX8_inFloats 13 = .ok (.getfield 74, 3) := by decide +kernel
theorem dX8_inFloats_16 : decode cX8_inFloats 16 = .ok (.getfield 86, 3) := by decide +kernel
theorem dX8_inFloats_19 : decode cX8_inFloats 19 = .ok (.l2f, 1) := by decide +kernel
theorem dX8_inFloats_20 : decode cX8_inFloats 20 = .ok (.fdiv, 1) := by decide +kernel
theorem dX8_inFloats_21 : decode cX8_inFloats 21 = .ok (.fstore_n 3, 1) := by decide +kernel
theorem dX8_inFloats_22 : decode cX8_inFloats 22 = .ok (.fload_n 3, 1) := by decide +kernel
theorem dX8_inFloats_23 : decode cX8_inFloats 23 = .ok (.aload_n 1, 1) := by decide +kernel
theorem dX8_inFloats_24 : decode cX8_inFloats 24 = .ok (.getfield 89, 3) := by decide +kernel
theorem dX8_inFloats_27 : decode cX8_inFloats 27 = .ok (.getfield 80, 3) := by decide +kernel
theorem dX8_inFloats_30 : decode cX8_inFloats 30 = .ok (.l2f, 1) := by decide +kernel
theorem dX8_inFloats_31 : decode cX8_inFloats 31 = .ok (.aload_n 1, 1) := by decide +kernel
theorem dX8_inFloats_32 : decode cX8_inFloats 32 = .ok (.getfield 89, 3) := by decide +kernel
theorem dX8_inFloats_35 : decode cX8_inFloats 35 = .ok (.getfield 86, 3) := by decide +kernel
theorem dX8_inFloats_38 : decode cX8_inFloats 38 = .ok (.l2f, 1) := by decide +kernel
theorem dX8_inFloats_39 : decode cX8_inFloats 39 = .ok (.fdiv, 1) := by decide +kernel
theorem dX8_inFloats_40 : decode cX8_inFloats 40 = .ok (.fadd, 1) := by decide +kernel
theorem dX8_inFloats_41 : decode cX8_inFloats 41 = .ok (.fstore_n 3, 1) := by decide +kernel
theorem dX8_inFloats_42 : decode cX8_inFloats 42 = .ok (.fload_n 3, 1) := by decide +kernel
theorem dX8_inFloats_43 : decode cX8_inFloats 43 = .ok (.aload_n 2, 1) := by decide +kernel
theorem dX8_inFloats_44 : decode cX8_inFloats 44 = .ok (.getfield 89, 3) := by decide +kernel
theorem dX8_inFloats_47 : decode cX8_inFloats 47 = .ok (.getfield 80, 3) := by decide +kernel
theorem dX8_inFloats_50 : decode cX8_inFloats 50 = .ok (.l2f, 1) := by decide +kernel
theorem dX8_inFloats_51 : decode cX8_inFloats 51 = .ok (.aload_n 2, 1) := by decide +kernel
theorem dX8_inFloats_52 : decode cX8_inFloats 52 = .ok (.getfield 89, 3) := by decide +kernel
theorem dX8_inFloats_55 : decode cX8_inFloats 55 = .ok (.getfield 86, 3) := by decide +kernel
theorem dX8_inFloats_58 : decode cX8_inFloats 58 = .ok (.l2f, 1) := by decide +kernel
theorem dX8_inFloats_59 : decode cX8_inFloats 59 = .ok (.fdiv, 1) := by decide +kernel
theorem dX8_inFloats_60 : decode cX8_inFloats 60 = .ok (.fsub, 1) := by decide +kernel
theorem dX8_inFloats_61 : decode cX8_inFloats 61 = .ok (.fstore_n 3, 1) := by decide +kernel
theorem dX8_inFloats_62 : decode cX8_inFloats 62 = .ok (.fload_n 3, 1) := by decide +kernel
theorem dX8_inFloats_63 : decode cX8_inFloats 63 = .ok (.aload_n 2, 1) := by decide +kernel
theorem dX8_inFloats_64 : decode cX8_inFloats 64 = .ok (.getfield 74, 3) := by decide +kernel
theorem dX8_inFloats_67 : decode cX8_inFloats 67 = .ok (.getfield 86, 3) := by decide +kernel
theorem dX8_inFloats_70 : decode cX8_inFloats 70 = .ok (.l2f, 1) := by decide +kernel
theorem dX8_inFloats_71 : decode cX8_inFloats 71 = .ok (.fmul, 1) := by decide +kernel
theorem dX8_inFloats_72 : decode cX8_inFloats 72 = .ok (.fstore_n 3, 1) := by decide +kernel
theorem dX8_inFloats_73 : decode cX8_inFloats 73 = .ok (.fload_n 3, 1) := by decide +kernel
theorem dX8_inFloats_74 : decode cX8_inFloats 74 = .ok (.aload_n 2, 1) := by decide +kernel
theorem dX8_inFloats_75 : decode cX8_inFloats 75 = .ok (.getfield 74, 3) := by decide +kernel
theorem dX8_inFloats_78 : decode cX8_inFloats 78 = .ok (.getfield 80, 3) := by decide +kernel
theorem dX8_inFloats_81 : decode cX8_inFloats 81 = .ok (.l2f, 1) := by decide +kernel
theorem dX8_inFloats_82 : decode cX8_inFloats 82 = .ok (.fdiv, 1) := by decide +kernel
theorem dX8_inFloats_83 : decode cX8_inFloats 83 = .ok (.freturn, 1) := by decide +kernel
theorem dX8_inDoubles_0 : decode cX8_inDoubles 0 = .ok (.dload_n 0, 1) := by decide +kernel
theorem dX8_inDoubles_1 : decode cX8_inDoubles 1 = .ok (.aload_n 2, 1) := by decide +kernel
theorem dX8_inDoubles_2 : decode cX8_inDoubles 2 = .ok (.getfield 74, 3) := by decide +kernel
theorem dX8_inDoubles_5 : decode cX8_inDoubles 5 = .ok (.getfield 80, 3) := by decide +kernel
theorem dX8_inDoubles_8 : decode cX8_inDoubles 8 = .ok (.l2d, 1) := by decide +kernel
theorem dX8_inDoubles_9 : decode cX8_inDoubles 9 = .ok (.dmul, 1) := by decide +kernel
theorem dX8_inDoubles_10 : decode cX8_inDoubles 10 = .ok (.dstore 4, 2) := by decide +kernel
theorem dX8_inDoubles_12 : decode cX8_inDoubles 12 = .ok (.dload 4, 2) := by decide +kernel
theorem dX8_inDoubles_14 : decode cX8_inDoubles 14 = .ok (.aload_n 2, 1) := by decide +kernel
theorem dX8_inDoubles_15 : decode cX8_inDoubles 15 = .ok (.getfield 74, 3) := by decide +kernel
theorem dX8_inDoubles_18 : decode cX8_inDoubles 18 = .ok (.getfield 86, 3) := by decide +kernel
theorem dX8_inDoubles_21 : decode cX8_inDoubles 21 = .ok (.l2d, 1) := by decide +kernel
theorem dX8_inDoubles_22 : decode cX8_inDoubles 22 = .ok (.ddiv, 1) := by decide +kernel
theorem dX8_inDoubles_23 : decode cX8_inDoubles 23 = .ok (.dstore 4, 2) := by decide +kernel
theorem dX8_inDoubles_25 : decode cX8_inDoubles 25 = .ok (.dload 4, 2) := by decide +kernel
theorem dX8_inDoubles_27 : decode cX8_inDoubles 27 = .ok (.aload_n 2, 1) := by decide +kernel
theorem dX8_inDoubles_28 : decode cX8_inDoubles 28 = .ok (.getfield 89, 3) := by decide +kernel
theorem dX8_inDoubles_31 : decode cX8_inDoubles 31 = .ok (.getfield 80, 3) := by decide +kernel
theorem dX8_inDoubles_34 : decode cX8_inDoubles 34 = .ok (.l2d, 1) := by decide +kernel
theorem dX8_inDoubles_35 : decode cX8_inDoubles 35 = .ok (.aload_n 2, 1) := by decide +kernel
theorem dX8_inDoubles_36 : decode cX8_inDoubles 36 = .ok (.getfield 89, 3) := by decide +kernel
theorem dX8_inDoubles_39 : decode cX8_inDoubles 39 = .ok (.getfield 86, 3) := by decide +kernel
theorem dX8_inDoubles_42 : decode cX8_inDoubles 42 = .ok (.l2d, 1) := by decide +kernel
theorem dX8_inDoubles_43 : decode cX8_inDoubles 43 = .ok (.ddiv, 1) := by decide +kernel
theorem dX8_inDoubles_44 : decode cX8_inDoubles 44 = .ok (.dadd, 1) := by decide +kernel
theorem dX8_inDoubles_45 : decode cX8_inDoubles 45 = .ok (.dstore 4, 2) := by decide +kernel
theorem dX8_inDoubles_47 : decode cX8_inDoubles 47 = .ok (.dload 4, 2) := by decide +kernel
theorem dX8_inDoubles_49 : decode cX8_inDoubles 49 = .ok (.aload_n 3, 1) := by decide +kernel
theorem dX8_inDoubles_50 : decode cX8_inDoubles 50 = .ok (.getfield 89, 3) := by decide +kernel
theorem dX8_inDoubles_53 : decode cX8_inDoubles 53 = .ok (.getfield 80, 3) := by decide +kernel
theorem dX8_inDoubles_56 : decode cX8_inDoubles 56 = .ok (.l2d, 1) := by decide +kernel
theorem dX8_inDoubles_57 : decode cX8_inDoubles 57 = .ok (.aload_n 3, 1) := by decide +kernel
theorem dX8_inDoubles_58 : decode cX8_inDoubles 58 = .ok (.getfield 89, 3) := by decide +kernel
theorem dX8_inDoubles_61 : decode cX8_inDoubles 61 = .ok (.getfield 86, 3) := by decide +kernel
theorem dX8_inDoubles_64 : decode cX8_inDoubles 64 = .ok (.l2d, 1) := by decide +kernel
theorem dX8_inDoubles_65 : decode cX8_inDoubles 65 = .ok (.ddiv, 1) := by decide +kernel
theorem dX8_inDoubles_66 : decode cX8_inDoubles 66 = .ok (.dsub, 1) := by decide +kernel
theorem dX8_inDoubles_67 : decode cX8_inDoubles 67 = .ok (.dstore 4, 2) := by decide +kernel
theorem dX8_inDoubles_69 : decode cX8_inDoubles 69 = .ok (.dload 4, 2) := by decide +kernel
theorem dX8_inDoubles_71 : decode cX8_inDoubles 71 = .ok (.aload_n 3, 1) := by decide +kernel
theorem dX8_inDoubles_72 : decode cX8_inDoubles 72 = .ok (.getfield 74, 3) := by decide +kernel
theorem dX8_inDoubles_75 : decode cX8_inDoubles 75 = .ok (.getfield 86, 3) := by decide +kernel
theorem dX8_inDoubles_78 : decode cX8_inDoubles 78 = .ok (.l2d, 1) := by decide +kernel
theorem dX8_inDoubles_79 : decode cX8_inDoubles 79 = .ok (.dmul, 1) := by decide +kernel
theorem dX8_inDoubles_80 : decode cX8_inDoubles 80 = .ok (.dstore 4, 2) := by decide +kernel
theorem dX8_inDoubles_82 : decode cX8_inDoubles 82 = .ok (.dload 4, 2) := by decide +kernel
theorem dX8_inDoubles_84 : decode cX8_inDoubles 84 = .ok (.aload_n 3, 1) := by decide +kernel
theorem dX8_inDoubles_85 : decode cX8_inDoubles 85 = .ok (.getfield 74, 3) := by decide +kernel
theorem dX8_inDoubles_88 : decode cX8_inDoubles 88 = .ok (.getfield 80, 3) := by decide +kernel
theorem dX8_inDoubles_91 : decode cX8_inDoubles 91 = .ok (.l2d, 1) := by decide +kernel
theorem dX8_inDoubles_92 : decode cX8_inDoubles 92 = .ok (.ddiv, 1) := by decide +kernel
theorem dX8_inDoubles_93 : decode cX8_inDoubles 93 = .ok (.dreturn, 1) := by decide +kernel
theorem dX8_sumBits_0 : decode cX8_sumBits 0 = .ok (.dconst 0, 1) := by decide +kernel
theorem dX8_sumBits_1 : decode cX8_sumBits 1 = .ok (.dstore_n 2, 1) := by decide +kernel
theorem dX8_sumBits_2 : decode cX8_sumBits 2 = .ok (.iconst 0, 1) := by decide +kernel
theorem dX8_sumBits_3 : decode cX8_sumBits 3 = .ok (.istore 4, 2) := by decide +kernel
theorem dX8_sumBits_5 : decode cX8_sumBits 5 = .ok (.iload 4, 2) := by decide +kernel
theorem dX8_sumBits_7 : decode cX8_sumBits 7 = .ok (.aload_n 0, 1) := by decide +kernel
theorem dX8_sumBits_8 : decode cX8_sumBits 8 = .ok (.getfield 15, 3) := by decide +kernel
theorem dX8_sumBits_11 : decode cX8_sumBits 11 = .ok (.if_icmp .ge 87, 3) := by decide +kernel
theorem dX8_sumBits_14 : decode cX8_sumBits 14 = .ok (.iload 4, 2) := by decide +kernel
theorem dX8_sumBits_16 : decode cX8_sumBits 16 = .ok (.bipush 30, 2) := by decide +kernel
theorem dX8_sumBits_18 : decode cX8_sumBits 18 = .ok (.if_icmp .ge 80, 3) := by decide +kernel
theorem dX8_sumBits_21 : decode cX8_sumBits 21 = .ok (.aload_n 0, 1) := by decide +kernel
theorem dX8_sumBits_22 : decode cX8_sumBits 22 = .ok (.getfield 22, 3) := by decide +kernel
theorem dX8_sumBits_25 : decode cX8_sumBits 25 = .ok (.iload 4, 2) := by decide +kernel
theorem dX8_sumBits_27 : decode cX8_sumBits 27 = .ok (.baload, 1) := by decide +kernel
theorem dX8_sumBits_28 : decode cX8_sumBits 28 = .ok (.ifCond .ne 24, 3) := by decide +kernel
theorem dX8_sumBits_31 : decode cX8_sumBits 31 = .ok (.aload_n 1, 1) := by decide +kernel
theorem dX8_sumBits_32 : decode cX8_sumBits 32 = .ok (.dload_n 2, 1) := by decide +kernel
theorem dX8_sumBits_33 : decode cX8_sumBits 33 = .ok (.invokevirtual 92, 3) := by decide +kernel
theorem dX8_sumBits_36 : decode cX8_sumBits 36 = .ok (.ifCond .eq 24, 3) := by decide +kernel
theorem dX8_sumBits_39 : decode cX8_sumBits 39 = .ok (.aload_n 0, 1) := by decide +kernel
theorem dX8_sumBits_40 : decode cX8_sumBits 40 = .ok (.getfield 18, 3) := by decide +kernel
theorem dX8_sumBits_43 : decode cX8_sumBits 43 = .ok (.iload 4, 2) := by decide +kernel
theorem dX8_sumBits_45 : decode cX8_sumBits 45 = .ok (.daload, 1) := by decide +kernel
theorem dX8_sumBits_46 : decode cX8_sumBits 46 = .ok (.dload_n 2, 1) := by decide +kernel
theorem dX8_sumBits_47 : decode cX8_sumBits 47 = .ok (.dneg, 1) := by decide +kernel
theorem dX8_sumBits_48 : decode cX8_sumBits 48 = .ok (.dcmp .l, 1) := by decide +kernel
theorem dX8_sumBits_49 : decode cX8_sumBits 49 = .ok (.ifCond .ne 11, 3) := by decide +kernel
theorem dX8_sumBits_52 : decode cX8_sumBits 52 = .ok (.aload_n 0, 1) := by decide +kernel
theorem dX8_sumBits_53 : decode cX8_sumBits 53 = .ok (.dconst 0, 1) := by decide +kernel
theorem dX8_sumBits_54 : decode cX8_sumBits 54 = .ok (.iconst 1, 1) := by decide +kernel
theorem dX8_sumBits_55 : decode cX8_sumBits 55 = .ok (.aload_n 1, 1) := by decide +kernel
theorem dX8_sumBits_56 : decode cX8_sumBits 56 = .ok (.invokevirtual 96, 3) := by decide +kernel
theorem dX8_sumBits_59 : decode cX8_sumBits 59 = .ok (.lreturn, 1) := by decide +kernel
theorem dX8_sumBits_60 : decode cX8_sumBits 60 = .ok (.aload_n 0, 1) := by decide +kernel
theorem dX8_sumBits_61 : decode cX8_sumBits 61 = .ok (.getfield 9, 3) := by decide +kernel
theorem dX8_sumBits_64 : decode cX8_sumBits 64 = .ok (.ifCond .ne 18, 3) := by decide +kernel
theorem dX8_sumBits_67 : decode cX8_sumBits 67 = .ok (.dload_n 2, 1) := by decide +kernel
theorem dX8_sumBits_68 : decode cX8_sumBits 68 = .ok (.d2f, 1) := by decide +kernel
theorem dX8_sumBits_69 : decode cX8_sumBits 69 = .ok (.aload_n 0, 1) := by decide +kernel
theorem dX8_sumBits_70 : decode cX8_sumBits 70 = .ok (.getfield 18, 3) := by decide +kernel
theorem dX8_sumBits_73 : decode cX8_sumBits 73 = .ok (.iload 4, 2) := by decide +kernel
theorem dX8_sumBits_75 : decode cX8_sumBits 75 = .ok (.daload, 1) := by decide +kernel
theorem dX8_sumBits_76 : decode cX8_sumBits 76 = .ok (.d2f, 1) := by decide +kernel
theorem dX8_sumBits_77 : decode cX8_sumBits 77 = .ok (.fadd, 1) := by decide +kernel
theorem dX8_sumBits_78 : decode cX8_sumBits 78 = .ok (.f2d, 1) := by decide +kernel
theorem dX8_sumBits_79 : decode cX8_sumBits 79 = .ok (.goto 12, 3) := by decide +kernel
theorem dX8_sumBits_82 : decode cX8_sumBits 82 = .ok (.dload_n 2, 1) := by decide +kernel
theorem dX8_sumBits_83 : decode cX8_sumBits 83 = .ok (.aload_n 0, 1) := by decide +kernel
theorem dX8_sumBits_84 : decode cX8_sumBits 84 = .ok (.getfield 18, 3) := by decide +kernel
theorem dX8_sumBits_87 : decode cX8_sumBits 87 = .ok (.iload 4, 2) := by decide +kernel
theorem dX8_sumBits_89 : decode cX8_sumBits 89 = .ok (.daload, 1) := by decide +kernel
theorem dX8_sumBits_90 : decode cX8_sumBits 90 = .ok (.dadd, 1) := by decide +kernel
theorem dX8_sumBits_91 : decode cX8_sumBits 91 = .ok (.dstore_n 2, 1) := by decide +kernel
theorem dX8_sumBits_92 : decode cX8_sumBits 92 = .ok (.iinc 4 1, 3) := by decide +kernel
theorem dX8_sumBits_95 : decode cX8_sumBits 95 = .ok (.goto (-90), 3) := by decide +kernel
theorem dX8_sumBits_98 : decode cX8_sumBits 98 = .ok (.aload_n 0, 1) := by decide +kernel
theorem dX8_sumBits_99 : decode cX8_sumBits 99 = .ok (.dload_n 2, 1) := by decide +kernel
theorem dX8_sumBits_100 : decode cX8_sumBits 100 = .ok (.iconst 0, 1) := by decide +kernel
theorem dX8_sumBits_101 : decode cX8_sumBits 101 = .ok (.aload_n 1, 1) := by decide +kernel
theorem dX8_sumBits_102 : decode cX8_sumBits 102 = .ok (.invokevirtual 96, 3) := by decide +kernel
theorem dX8_sumBits_105 : decode cX8_sumBits 105 = .ok (.lreturn, 1) := by decide +kernel
theorem dX9_init_0 : decode cX9_init 0 = .ok (.aload_n 0, 1) := by decide +kernel
theorem dX9_init_1 : decode cX9_init 1 = .ok (.invokespecial 3, 3) := by decide +kernel
theorem dX9_init_4 : decode cX9_init 4 = .ok (.aload_n 0, 1) := by decide +kernel
theorem dX9_init_5 : decode cX9_init 5 = .ok (.iconst 4, 1) := by decide +kernel
theorem dX9_init_6 : decode cX9_init 6 = .ok (.newarray .byte, 2) := by decide +kernel
theorem dX9_init_8 : decode cX9_init 8 = .ok (.putfield 11, 3) := by decide +kernel
theorem dX9_init_11 : decode cX9_init 11 = .ok (.aload_n 0, 1) := by decide +kernel
theorem dX9_init_12 : decode cX9_init 12 = .ok (.iconst 0, 1) := by decide +kernel
theorem dX9_init_13 : decode cX9_init 13 = .ok (.putfield 17, 3) := by decide +kernel
theorem dX9_init_16 : decode cX9_init 16 = .ok (.aload_n 0, 1) := by decide +kernel
theorem dX9_init_17 : decode cX9_init 17 = .ok (.iconst 5, 1) := by decide +kernel
theorem dX9_init_18 : decode cX9_init 18 = .ok (.newarray .int, 2) := by decide +kernel
theorem dX9_init_20 : decode cX9_init 20 = .ok (.putfield 21, 3) := by decide +kernel
theorem dX9_init_23 : decode cX9_init 23 = .ok (.aload_n 0, 1) := by decide +kernel
theorem dX9_init_24 : decode cX9_init 24 = .ok (.new 25, 3) := by decide +kernel
theorem dX9_init_27 : decode cX9_init 27 = .ok (.dup, 1) := by decide +kernel
theorem dX9_init_28 : decode cX9_init 28 = .ok (.invokespecial 27, 3) := by decide +kernel
theorem dX9_init_31 : decode cX9_init 31 = .ok (.putfield 28, 3) := by decide +kernel
theorem dX9_init_34 : decode cX9_init 34 = .ok (.aload_n 0, 1) := by decide +kernel
theorem dX9_init_35 : decode cX9_init 35 = .ok (.new 25, 3) := by decide +kernel
theorem dX9_init_38 : decode cX9_init 38 = .ok (.dup, 1) := by decide +kernel
theorem dX9_init_39 : decode cX9_init 39 = .ok (.invokespecial 27, 3) := by decide +kernel
theorem dX9_init_42 : decode cX9_init 42 = .ok (.putfield 32, 3) := by decide +kernel
theorem dX9_init_45 : decode cX9_init 45 = .ok (.return_, 1) := by decide +kernel
theorem dX9_hasOffset_0 : decode cX9_hasOffset 0 = .ok (.aload_n 0, 1) := by decide +kernel
theorem dX9_hasOffset_1 : decode cX9_hasOffset 1 = .ok (.getfield 32, 3) := by decide +kernel
theorem dX9_hasOffset_4 : decode cX9_hasOffset 4 = .ok (.getfield 35, 3) := by decide +kernel
theorem dX9_hasOffset_7 : decode cX9_hasOffset 7 = .ok (.lconst 0, 1) := by decide +kernel
theorem dX9_hasOffset_8 : decode cX9_hasOffset 8 = .ok (.lcmp, 1) := by decide +kernel
theorem dX9_hasOffset_9 : decode cX9_hasOffset 9 = .ok (.ifCond .eq 7, 3) := by decide +kernel
theorem dX9_hasOffset_12 : decode cX9_hasOffset 12 = .ok (.iconst 1, 1) := by decide +kernel
theorem dX9_hasOffset_13 : decode cX9_hasOffset 13 = .ok (.goto 4, 3) := by decide +kernel
theorem dX9_hasOffset_16 : decode cX9_hasOffset 16 = .ok (.iconst 0, 1) := by decide +kernel
theorem dX9_hasOffset_17 : decode cX9_hasOffset 17 = .ok (.ireturn, 1) := by decide +kernel
theorem dX9_isLike_0 : decode cX9_isLike 0 = .ok (.aload_n 0, 1) := by decide +kernel
theorem dX9_isLike_1 : decode cX9_isLike 1 = .ok (.getfield 21, 3) := by decide +kernel
theorem dX9_isLike_4 : decode cX9_isLike 4 = .ok (.aload_n 1, 1) := by decide +kernel
theorem dX9_isLike_5 : decode cX9_isLike 5 = .ok (.getfield 21, 3) := by decide +kernel
theorem dX9_isLike_8 : decode cX9_isLike 8 = .ok (.invokestatic 39, 3) := by decide +kernel
theorem dX9_isLike_11 : decode cX9_isLike 11 = .ok (.ireturn, 1) := by decide +kernel
theorem dX9_isNamed_0 : decode cX9_isNamed 0 = .ok (.iload_n 3, 1) := by decide +kernel
theorem dX9_isNamed_1 : decode cX9_isNamed 1 = .ok (.aload_n 0, 1) := by decide +kernel
theorem dX9_isNamed_2 : decode cX9_isNamed 2 = .ok (.getfield 17, 3) := by decide +kernel
theorem dX9_isNamed_5 : decode cX9_isNamed 5 = .ok (.if_icmp .ne 23, 3) := by decide +kernel
theorem dX9_isNamed_8 : decode cX9_isNamed 8 = .ok (.aload_n 1, 1) := by decide +kernel
theorem dX9_isNamed_9 : decode cX9_isNamed 9 = .ok (.aload_n 0, 1) := by decide +kernel
theorem dX9_isNamed_10 : decode cX9_isNamed 10 = .ok (.getfield 11, 3) := by decide +kernel
theorem dX9_isNamed_13 : decode cX9_isNamed 13 = .ok (.aload_n 0, 1) := by decide +kernel
theorem dX9_isNamed_14 : decode cX9_isNamed 14 = .ok (.getfield 17, 3) := by decide +kernel
theorem dX9_isNamed_17 : decode cX9_isNamed 17 = .ok (.iload_n 2, 1) := by decide +kernel
theorem dX9_isNamed_18 : decode cX9_isNamed 18 = .ok (.invokevirtual 43, 3) := by decide +kernel
theorem dX9_isNamed_21 : decode cX9_isNamed 21 = .ok (.ifCond .eq 7, 3) := by decide +kernel
theorem dX9_isNamed_24 : decode cX9_isNamed 24 = .ok (.iconst 1, 1) := by decide +kernel
theorem dX9_isNamed_25 : decode cX9_isNamed 25 = .ok (.goto 4, 3) := by decide +kernel
theorem dX9_isNamed_28 : decode cX9_isNamed 28 = .ok (.iconst 0, 1) := by decide +kernel
theorem dX9_isNamed_29 : decode cX9_isNamed 29 = .ok (.ireturn, 1) := by decide +kernel
theorem dX9_takeName_0 : decode cX9_takeName 0 = .ok (.aload_n 0, 1) := by decide +kernel
theorem dX9_takeName_1 : decode cX9_takeName 1 = .ok (.iload_n 2, 1) := by decide +kernel
theorem dX9_takeName_2 : decode cX9_takeName 2 = .ok (.iconst 4, 1) := by decide +kernel
theorem dX9_takeName_3 : decode cX9_takeName 3 = .ok (.invokestatic 47, 3) := by decide +kernel
theorem dX9_takeName_6 : decode cX9_takeName 6 = .ok (.putfield 17, 3) := by decide +kernel
theorem dX9_takeName_9 : decode cX9_takeName 9 = .ok (.aload_n 1, 1) := by decide +kernel
theorem dX9_takeName_10 : decode cX9_takeName 10 = .ok (.getfield 53, 3) := by decide +kernel
theorem dX9_takeName_13 : decode cX9_takeName 13 = .ok (.iconst 0, 1) := by decide +kernel
theorem dX9_takeName_14 : decode cX9_takeName 14 = .ok (.aload_n 0, 1) := by decide +kernel
theorem dX9_takeName_15 : decode cX9_takeName 15 = .ok (.getfield 11, 3) := by decide +kernel
theorem dX9_takeName_18 : decode cX9_takeName 18 = .ok (.iconst 0, 1) := by decide +kernel
theorem dX9_takeName_19 : decode cX9_takeName 19 = .ok (.aload_n 0, 1) := by decide +kernel
theorem dX9_takeName_20 : decode cX9_takeName 20 = .ok (.getfield 17, 3) := by decide +kernel
theorem dX9_takeName_23 : decode cX9_takeName 23 = .ok (.invokestatic 56, 3) := by decide +kernel
theorem dX9_takeName_26 : decode cX9_takeName 26 = .ok (.return_, 1) := by decide +kernel
theorem dX9_copy_0 : decode cX9_copy 0 = .ok (.aload_n 0, 1) := by decide +kernel
theorem dX9_copy_1 : decode cX9_copy 1 = .ok (.aload_n 1, 1) := by decide +kernel
theorem dX9_copy_2 : decode cX9_copy 2 = .ok (.getfield 17, 3) := by decide +kernel
theorem dX9_copy_5 : decode cX9_copy 5 = .ok (.putfield 17, 3) := by decide +kernel
theorem dX9_copy_8 : decode cX9_copy 8 = .ok (.aload_n 1, 1) := by decide +kernel
theorem dX9_copy_9 : decode cX9_copy 9 = .ok (.getfield 11, 3) := by decide +kernel
theorem dX9_copy_12 : decode cX9_copy 12 = .ok (.iconst 0, 1) := by decide +kernel
theorem dX9_copy_13 : decode cX9_copy 13 = .ok (.aload_n 0, 1) := by decide +kernel
theorem dX9_copy_14 : decode cX9_copy 14 = .ok (.getfield 11, 3) := by decide +kernel
theorem dX9_copy_17 : decode cX9_copy 17 = .ok (.iconst 0, 1) := by decide +kernel
theorem dX9_copy_18 : decode cX9_copy 18 = .ok (.iconst 4, 1) := by decide +kernel
theorem dX9_copy_19 : decode cX9_copy 19 = .ok (.invokestatic 56, 3) := by decide +kernel
theorem dX9_copy_22 : decode cX9_copy 22 = .ok (.aload_n 1, 1) := by decide +kernel
theorem dX9_copy_23 : decode cX9_copy 23 = .ok (.getfield 21, 3) := by decide +kernel
theorem dX9_copy_26 : decode cX9_copy 26 = .ok (.iconst 0, 1) := by decide +kernel
theorem dX9_copy_27 : decode cX9_copy 27 = .ok (.aload_n 0, 1) := by decide +kernel
theorem dX9_copy_28 : decode cX9_copy 28 = .ok (.getfield 21, 3) := by decide +kernel
theorem dX9_copy_31 : decode cX9_copy 31 = .ok (.iconst 0, 1) := by decide +kernel
theorem dX9_copy_32 : decode cX9_copy 32 = .ok (.iconst 5, 1) := by decide +kernel
theorem dX9_copy_33 : decode cX9_copy 33 = .ok (.invokestatic 56, 3) := by decide +kernel
theorem dX9_copy_36 : decode cX9_copy 36 = .ok (.aload_n 0, 1) := by decide +kernel
theorem dX9_copy_37 : decode cX9_copy 37 = .ok (.getfield 28, 3) := by decide +kernel
theorem dX9_copy_40 : decode cX9_copy 40 = .ok (.aload_n 1, 1) := by decide +kernel
theorem dX9_copy_41 : decode cX9_copy 41 = .ok (.getfield 28, 3) := by decide +kernel
theorem dX9_copy_44 : decode cX9_copy 44 = .ok (.invokevirtual 62, 3) := by decide +kernel
theorem dX9_copy_47 : decode cX9_copy 47 = .ok (.aload_n 0, 1) := by decide +kernel
theorem dX9_copy_48 : decode cX9_copy 48 = .ok (.getfield 32, 3) := by decide +kernel
theorem dX9_copy_51 : decode cX9_copy 51 = .ok (.aload_n 1, 1) := by decide +kernel
theorem dX9_copy_52 : decode cX9_copy 52 = .ok (.getfield 32, 3) := by decide +kernel
theorem dX9_copy_55 : decode cX9_copy 55 = .ok (.invokevirtual 62, 3) := by decide +kernel
theorem dX9_copy_58 : decode cX9_copy 58 = .ok (.return_, 1) := by decide +kernel
theorem dX10_init_0 : decode cX10_init 0 = .ok (.aload_n 0, 1) := by decide +kernel
theorem dX10_init_1 : decode cX10_init 1 = .ok (.invokespecial 3, 3) := by decide +kernel
theorem dX10_init_4 : decode cX10_init 4 = .ok (.aload_n 0, 1) := by decide +kernel
theorem dX10_init_5 : decode cX10_init 5 = .ok (.bipush 20, 2) := by decide +kernel
theorem dX10_init_7 : decode cX10_init 7 = .ok (.anewarray 9, 3) := by decide +kernel
theorem dX10_init_10 : decode cX10_init 10 = .ok (.putfield 11, 3) := by decide +kernel
theorem dX10_init_13 : decode cX10_init 13 = .ok (.aload_n 0, 1) := by decide +kernel
theorem dX10_init_14 : decode cX10_init 14 = .ok (.iconst 0, 1) := by decide +kernel
theorem dX10_init_15 : decode cX10_init 15 = .ok (.putfield 17, 3) := by decide +kernel
theorem dX10_init_18 : decode cX10_init 18 = .ok (.iconst 0, 1) := by decide +kernel
theorem dX10_init_19 : decode cX10_init 19 = .ok (.istore_n 1, 1) := by decide +kernel
theorem dX10_init_20 : decode cX10_init 20 = .ok (.iload_n 1, 1) := by decide +kernel
theorem dX10_init_21 : decode cX10_init 21 = .ok (.bipush 20, 2) := by decide +kernel
theorem dX10_init_23 : decode cX10_init 23 = .ok (.if_icmp .ge 22, 3) := by decide +kernel
theorem dX10_init_26 : decode cX10_init 26 = .ok (.aload_n 0, 1) := by decide +kernel
theorem dX10_init_27 : decode cX10_init 27 = .ok (.getfield 11, 3) := by decide +kernel
theorem dX10_init_30 : decode cX10_init 30 = .ok (.iload_n 1, 1) := by decide +kernel
theorem dX10_init_31 : decode cX10_init 31 = .ok (.new 9, 3) := by decide +kernel
theorem dX10_init_34 : decode cX10_init 34 = .ok (.dup, 1) := by decide +kernel
theorem dX10_init_35 : decode cX10_init 35 = .ok (.invokespecial 21, 3) := by decide +kernel
theorem dX10_init_38 : decode cX10_init 38 = .ok (.aastore, 1) := by decide +kernel
theorem dX10_init_39 : decode cX10_init 39 = .ok (.iinc 1 1, 3) := by decide +kernel
theorem dX10_init_42 : decode cX10_init 42 = .ok (.goto (-22), 3) := by decide +kernel
theorem dX10_init_45 : decode cX10_init 45 = .ok (.return_, 1) := by decide +kernel
theorem dX10_addBases_0 : decode cX10_addBases 0 = .ok (.iconst 0, 1) := by decide +kernel
theorem dX10_addBases_1 : decode cX10_addBases 1 = .ok (.istore_n 1, 1) := by decide +kernel
theorem dX10_addBases_2 : decode cX10_addBases 2 = .ok (.iload_n 1, 1) := by decide +kernel
theorem dX10_addBases_3 : decode cX10_addBases 3 = .ok (.iconst 5, 1) := by decide +kernel
theorem dX10_addBases_4 : decode cX10_addBases 4 = .ok (.if_icmp .ge 50, 3) := by decide +kernel
theorem dX10_addBases_7 : decode cX10_addBases 7 = .ok (.aload_n 0, 1) := by decide +kernel
theorem dX10_addBases_8 : decode cX10_addBases 8 = .ok (.getfield 11, 3) := by decide +kernel
theorem dX10_addBases_11 : decode cX10_addBases 11 = .ok (.iload_n 1, 1) := by decide +kernel
theorem dX10_addBases_12 : decode cX10_addBases 12 = .ok (.aaload, 1) := by decide +kernel
theorem dX10_addBases_13 : decode cX10_addBases 13 = .ok (.astore_n 2, 1) := by decide +kernel
theorem dX10_addBases_14 : decode cX10_addBases 14 = .ok (.aload_n 2, 1) := by decide +kernel
theorem dX10_addBases_15 : decode cX10_addBases 15 = .ok (.getfield 22, 3) := by decide +kernel
theorem dX10_addBases_18 : decode cX10_addBases 18 = .ok (.iconst 0, 1) := by decide +kernel
theorem dX10_addBases_19 : decode cX10_addBases 19 = .ok (.ldc 26, 2) := by decide +kernel
theorem dX10_addBases_21 : decode cX10_addBases 21 = .ok (.iload_n 1, 1) := by decide +kernel
theorem dX10_addBases_22 : decode cX10_addBases 22 = .ok (.invokevirtual 28, 3) := by decide +kernel
theorem dX10_addBases_25 : decode cX10_addBases 25 = .ok (.i2b, 1) := by decide +kernel
theorem dX10_addBases_26 : decode cX10_addBases 26 = .ok (.bastore, 1) := by decide +kernel
theorem dX10_addBases_27 : decode cX10_addBases 27 = .ok (.aload_n 2, 1) := by decide +kernel
theorem dX10_addBases_28 : decode cX10_addBases 28 = .ok (.iconst 1, 1) := by decide +kernel
theorem dX10_addBases_29 : decode cX10_addBases 29 = .ok (.putfield 34, 3) := by decide +kernel
theorem dX10_addBases_32 : decode cX10_addBases 32 = .ok (.aload_n 2, 1) := by decide +kernel
theorem dX10_addBases_33 : decode cX10_addBases 33 = .ok (.getfield 37, 3) := by decide +kernel
theorem dX10_addBases_36 : decode cX10_addBases 36 = .ok (.iload_n 1, 1) := by decide +kernel
theorem dX10_addBases_37 : decode cX10_addBases 37 = .ok (.iconst 1, 1) := by decide +kernel
theorem dX10_addBases_38 : decode cX10_addBases 38 = .ok (.iastore, 1) := by decide +kernel
theorem dX10_addBases_39 : decode cX10_addBases 39 = .ok (.aload_n 2, 1) := by decide +kernel
theorem dX10_addBases_40 : decode cX10_addBases 40 = .ok (.getfield 41, 3) := by decide +kernel
theorem dX10_addBases_43 : decode cX10_addBases 43 = .ok (.lconst 1, 1) := by decide +kernel
theorem dX10_addBases_44 : decode cX10_addBases 44 = .ok (.lconst 1, 1) := by decide +kernel
theorem dX10_addBases_45 : decode cX10_addBases 45 = .ok (.invokevirtual 45, 3) := by decide +kernel
theorem dX10_addBases_48 : decode cX10_addBases 48 = .ok (.iinc 1 1, 3) := by decide +kernel
theorem dX10_addBases_51 : decode cX10_addBases 51 = .ok (.goto (-49), 3) := by decide +kernel
theorem dX10_addBases_54 : decode cX10_addBases 54 = .ok (.aload_n 0, 1) := by decide +kernel
theorem dX10_addBases_55 : decode cX10_addBases 55 = .ok (.iconst 5, 1) := by decide +kernel
theorem dX10_addBases_56 : decode cX10_addBases 56 = .ok (.putfield 17, 3) := by decide +kernel
theorem dX10_addBases_59 : decode cX10_addBases 59 = .ok (.return_, 1) := by decide +kernel
theorem dX10_at_0 : decode cX10_at 0 = .ok (.iload_n 1, 1) := by decide +kernel
theorem dX10_at_1 : decode cX10_at 1 = .ok (.ifCond .lt 17, 3) := by decide +kernel
theorem dX10_at_4 : decode cX10_at 4 = .ok (.iload_n 1, 1) := by decide +kernel
theorem dX10_at_5 : decode cX10_at 5 = .ok (.aload_n 0, 1) := by decide +kernel
theorem dX10_at_6 : decode cX10_at 6 = .ok (.getfield 17, 3) := by decide +kernel
theorem dX10_at_9 : decode cX10_at 9 = .ok (.if_icmp .ge 9, 3) := by decide +kernel
theorem dX10_at_12 : decode cX10_at 12 = .ok (.iload_n 1, 1) := by decide +kernel
theorem dX10_at_13 : decode cX10_at 13 = .ok (.bipush 20, 2) := by decide +kernel
theorem dX10_at_15 : decode cX10_at 15 = .ok (.if_icmp .lt 7, 3) := by decide +kernel
theorem dX10_at_18 : decode cX10_at 18 = .ok (.aconst_null, 1) := by decide +kernel
theorem dX10_at_19 : decode cX10_at 19 = .ok (.goto 9, 3) := by decide +kernel
theorem dX10_at_22 : decode cX10_at 22 = .ok (.aload_n 0, 1) := by decide +kernel
theorem dX10_at_23 : decode cX10_at 23 = .ok (.getfield 11, 3) := by decide +kernel
theorem dX10_at_26 : decode cX10_at 26 = .ok (.iload_n 1, 1) := by decide +kernel
theorem dX10_at_27 : decode cX10_at 27 = .ok (.aaload, 1) := by decide +kernel
theorem dX10_at_28 : decode cX10_at 28 = .ok (.areturn, 1) := by decide +kernel
theorem dX10_numberOf_0 : decode cX10_numberOf 0 = .ok (.iconst 0, 1) := by decide +kernel
theorem dX10_numberOf_1 : decode cX10_numberOf 1 = .ok (.istore 4, 2) := by decide +kernel
theorem dX10_numberOf_3 : decode cX10_numberOf 3 = .ok (.iload 4, 2) := by decide +kernel
theorem dX10_numberOf_5 : decode cX10_numberOf 5 = .ok (.aload_n 0, 1) := by decide +kernel
theorem dX10_numberOf_6 : decode cX10_numberOf 6 = .ok (.getfield 17, 3) := by decide +kernel
theorem dX10_numberOf_9 : decode cX10_numberOf 9 = .ok (.if_icmp .ge 35, 3) := by decide +kernel
theorem dX10_numberOf_12 : decode cX10_numberOf 12 = .ok (.iload 4, 2) := by decide +kernel
theorem dX10_numberOf_14 : decode cX10_numberOf 14 = .ok (.bipush 20, 2) := by decide +kernel
theorem dX10_numberOf_16 : decode cX10_numberOf 16 = .ok (.if_icmp .ge 28, 3) := by decide +kernel
theorem dX10_numberOf_19 : decode cX10_numberOf 19 = .ok (.aload_n 0, 1) := by decide +kernel
theorem dX10_numberOf_20 : decode cX10_numberOf 20 = .ok (.getfield 11, 3) := by decide +kernel
theorem dX10_numberOf_23 : decode cX10_numberOf 23 = .ok (.iload 4, 2) := by decide +kernel
theorem dX10_numberOf_25 : decode cX10_numberOf 25 = .ok (.aaload, 1) := by decide +kernel
theorem dX10_numberOf_26 : decode cX10_numberOf 26 = .ok (.aload_n 1, 1) := by decide +kernel
theorem dX10_numberOf_27 : decode cX10_numberOf 27 = .ok (.iload_n 2, 1) := by decide +kernel
theorem dX10_numberOf_28 : decode cX10_numberOf 28 = .ok (.iload_n 3, 1) := by decide +kernel
theorem dX10_numberOf_29 : decode cX10_numberOf 29 = .ok (.invokevirtual 51, 3) := by decide +kernel
theorem dX10_numberOf_32 : decode cX10_numberOf 32 = .ok (.ifCond .eq 6, 3) := by decide +kernel
theorem dX10_numberOf_35 : decode cX10_numberOf 35 = .ok (.iload 4, 2) := by decide +kernel
theorem dX10_numberOf_37 : decode cX10_numberOf 37 = .ok (.ireturn, 1) := by decide +kernel
theorem dX10_numberOf_38 : decode cX10_numberOf 38 = .ok (.iinc 4 1, 3) := by decide +kernel
theorem dX10_numberOf_41 : decode cX10_numberOf 41 = .ok (.goto (-38), 3) := by decide +kernel
theorem dX10_numberOf_44 : decode cX10_numberOf 44 = .ok (.iconst (-1), 1) := by decide +kernel
theorem dX10_numberOf_45 : decode cX10_numberOf 45 = .ok (.ireturn, 1) := by decide +kernel
theorem dX10_append_0 : decode cX10_append 0 = .ok (.aload_n 0, 1) := by decide +kernel
theorem dX10_append_1 : decode cX10_append 1 = .ok (.getfield 17, 3) := by decide +kernel
theorem dX10_append_4 : decode cX10_append 4 = .ok (.bipush 20, 2) := by decide +kernel
theorem dX10_append_6 : decode cX10_append 6 = .ok (.if_icmp .lt 6, 3) := by decide +kernel
theorem dX10_append_9 : decode cX10_append 9 = .ok (.bipush (-4), 2) := by decide +kernel
theorem dX10_append_11 : decode cX10_append 11 = .ok (.ireturn, 1) := by decide +kernel
theorem dX10_append_12 : decode cX10_append 12 = .ok (.aload_n 0, 1) := by decide +kernel
theorem dX10_append_13 : decode cX10_append 13 = .ok (.getfield 11, 3) := by decide +kernel
theorem dX10_append_16 : decode cX10_append 16 = .ok (.aload_n 0, 1) := by decide +kernel
theorem dX10_append_17 : decode cX10_append 17 = .ok (.getfield 17, 3) := by decide +kernel
theorem dX10_append_20 : decode cX10_append 20 = .ok (.aaload, 1) := by decide +kernel
theorem dX10_append_21 : decode cX10_append 21 = .ok (.aload_n 1, 1) := by decide +kernel
theorem dX10_append_22 : decode cX10_append 22 = .ok (.invokevirtual 55, 3) := by decide +kernel
theorem dX10_append_25 : decode cX10_append 25 = .ok (.aload_n 0, 1) := by decide +kernel
theorem dX10_append_26 : decode cX10_append 26 = .ok (.dup, 1) := by decide +kernel
theorem dX10_append_27 : decode cX10_append 27 = .ok (.getfield 17, 3) := by decide +kernel
theorem dX10_append_30 : decode cX10_append 30 = .ok (.iconst 1, 1) := by decide +kernel
theorem dX10_append_31 : decode cX10_append 31 = .ok (.iadd, 1) := by decide +kernel
theorem dX10_append_32 : decode cX10_append 32 = .ok (.putfield 17, 3) := by decide +kernel
theorem dX10_append_35 : decode cX10_append 35 = .ok (.aload_n 0, 1) := by decide +kernel
theorem dX10_append_36 : decode cX10_append 36 = .ok (.getfield 17, 3) := by decide +kernel
theorem dX10_append_39 : decode cX10_append 39 = .ok (.iconst 1, 1) := by decide +kernel
theorem dX10_append_40 : decode cX10_append 40 = .ok (.isub, 1) := by decide +kernel
theorem dX10_append_41 : decode cX10_append 41 = .ok (.ireturn, 1) := by decide +kernel
theorem dX10_nearestBelow_0 : decode cX10_nearestBelow 0 = .ok (.bipush (-5), 2) := by decide +kernel
theorem dX10_nearestBelow_2 : decode cX10_nearestBelow 2 = .ok (.istore_n 3, 1) := by decide +kernel
theorem dX10_nearestBelow_3 : decode cX10_nearestBelow 3 = .ok (.iconst 0, 1) := by decide +kernel
theorem dX10_nearestBelow_4 : decode cX10_nearestBelow 4 = .ok (.istore 4, 2) := by decide +kernel
theorem dX10_nearestBelow_6 : decode cX10_nearestBelow 6 = .ok (.iload 4, 2) := by decide +kernel
theorem dX10_nearestBelow_8 : decode cX10_nearestBelow 8 = .ok (.aload_n 0, 1) := by decide +kernel
theorem dX10_nearestBelow_9 : decode cX10_nearestBelow 9 = .ok (.getfield 17, 3) := by decide +kernel
theorem dX10_nearestBelow_12 : decode cX10_nearestBelow 12 = .ok (.if_icmp .ge 73, 3) := by decide +kernel
theorem dX10_nearestBelow_15 : decode cX10_nearestBelow 15 = .ok (.iload 4, 2) := by decide +kernel
theorem dX10_nearestBelow_17 : decode cX10_nearestBelow 17 = .ok (.bipush 20, 2) := by decide +kernel
theorem dX10_nearestBelow_19 : decode cX10_nearestBelow 19 = .ok (.if_icmp .ge 66, 3) := by decide +kernel
theorem dX10_nearestBelow_22 : decode cX10_nearestBelow 22 = .ok (.aload_n 0, 1) := by decide +kernel
theorem dX10_nearestBelow_23 : decode cX10_nearestBelow 23 = .ok (.getfield 11, 3) := by decide +kernel
theorem dX10_nearestBelow_26 : decode cX10_nearestBelow 26 = .ok (.iload 4, 2) := by decide +kernel
theorem dX10_nearestBelow_28 : decode cX10_nearestBelow 28 = .ok (.aaload, 1) := by decide +kernel
theorem dX10_nearestBelow_29 : decode cX10_nearestBelow 29 = .ok (.astore 5, 2) := by decide +kernel
theorem dX10_nearestBelow_31 : decode cX10_nearestBelow 31 = .ok (.aload 5, 2) := by decide +kernel
theorem dX10_nearestBelow_33 : decode cX10_nearestBelow 33 = .ok (.aload_n 1, 1) := by decide +kernel
theorem dX10_nearestBelow_34 : decode cX10_nearestBelow 34 = .ok (.invokevirtual 59, 3) := by decide +kernel
theorem dX10_nearestBelow_37 : decode cX10_nearestBelow 37 = .ok (.ifCond .eq 42, 3) := by decide +kernel
theorem dX10_nearestBelow_40 : decode cX10_nearestBelow 40 = .ok (.aload 5, 2) := by decide +kernel
theorem dX10_nearestBelow_42 : decode cX10_nearestBelow 42 = .ok (.getfield 41, 3) := by decide +kernel
theorem dX10_nearestBelow_45 : decode cX10_nearestBelow 45 = .ok (.aload_n 2, 1) := by decide +kernel
theorem dX10_nearestBelow_46 : decode cX10_nearestBelow 46 = .ok (.invokevirtual 63, 3) := by decide +kernel
theorem dX10_nearestBelow_49 : decode cX10_nearestBelow 49 = .ok (.ifCond .gt 30, 3) := by decide +kernel
theorem dX10_nearestBelow_52 : decode cX10_nearestBelow 52 = .ok (.iload_n 3, 1) := by decide +kernel
theorem dX10_nearestBelow_53 : decode cX10_nearestBelow 53 = .ok (.ifCond .lt 23, 3) := by decide +kernel
theorem dX10_nearestBelow_56 : decode cX10_nearestBelow 56 = .ok (.aload 5, 2) := by decide +kernel
theorem dX10_nearestBelow_58 : decode cX10_nearestBelow 58 = .ok (.getfield 41, 3) := by decide +kernel
theorem dX10_nearestBelow_61 : decode cX10_nearestBelow 61 = .ok (.aload_n 0, 1) := by decide +kernel
theorem dX10_nearestBelow_62 : decode cX10_nearestBelow 62 = .ok (.getfield 11, 3) := by decide +kernel
theorem dX10_nearestBelow_65 : decode cX10_nearestBelow 65 = .ok (.iload_n 3, 1) := by decide +kernel
theorem dX10_nearestBelow_66 : decode cX10_nearestBelow 66 = .ok (.aaload, 1) := by decide +kernel
theorem dX10_nearestBelow_67 : decode cX10_nearestBelow 67 = .ok (.getfield 41, 3) := by decide +kernel
theorem dX10_nearestBelow_70 : decode cX10_nearestBelow 70 = .ok (.invokevirtual 63, 3) := by decide +kernel
theorem dX10_nearestBelow_73 : decode cX10_nearestBelow 73 = .ok (.ifCond .le 6, 3) := by decide +kernel
theorem dX10_nearestBelow_76 : decode cX10_nearestBelow 76 = .ok (.iload 4, 2) := by decide +kernel
theorem dX10_nearestBelow_78 : decode cX10_nearestBelow 78 = .ok (.istore_n 3, 1) := by decide +kernel
theorem dX10_nearestBelow_79 : decode cX10_nearestBelow 79 = .ok (.iinc 4 1, 3) := by decide +kernel
theorem dX10_nearestBelow_82 : decode cX10_nearestBelow 82 = .ok (.goto (-76), 3) := by decide +kernel
theorem dX10_nearestBelow_85 : decode cX10_nearestBelow 85 = .ok (.iload_n 3, 1) := by decide +kernel
theorem dX10_nearestBelow_86 : decode cX10_nearestBelow 86 = .ok (.ireturn, 1) := by decide +kernel
theorem dX10_copy_0 : decode cX10_copy 0 = .ok (.aload_n 0, 1) := by decide +kernel
theorem dX10_copy_1 : decode cX10_copy 1 = .ok (.aload_n 1, 1) := by decide +kernel
theorem dX10_copy_2 : decode cX10_copy 2 = .ok (.getfield 17, 3) := by decide +kernel
theorem dX10_copy_5 : decode cX10_copy 5 = .ok (.putfield 17, 3) := by decide +kernel
theorem dX10_copy_8 : decode cX10_copy 8 = .ok (.iconst 0, 1) := by decide +kernel
theorem dX10_copy_9 : decode cX10_copy 9 = .ok (.istore_n 2, 1) := by decide +kernel
theorem dX10_copy_10 : decode cX10_copy 10 = .ok (.iload_n 2, 1) := by decide +kernel
theorem dX10_copy_11 : decode cX10_copy 11 = .ok (.aload_n 0, 1) := by decide +kernel
theorem dX10_copy_12 : decode cX10_copy 12 = .ok (.getfield 17, 3) := by decide +kernel
theorem dX10_copy_15 : decode cX10_copy 15 = .ok (.if_icmp .ge 30, 3) := by decide +kernel
theorem dX10_copy_18 : decode cX10_copy 18 = .ok (.iload_n 2, 1) := by decide +kernel
theorem dX10_copy_19 : decode cX10_copy 19 = .ok (.bipush 20, 2) := by decide +kernel
theorem dX10_copy_21 : decode cX10_copy 21 = .ok (.if_icmp .ge 24, 3) := by decide +kernel
theorem dX10_copy_24 : decode cX10_copy 24 = .ok (.aload_n 0, 1) := by decide +kernel
theorem dX10_copy_25 : decode cX10_copy 25 = .ok (.getfield 11, 3) := by decide +kernel
theorem dX10_copy_28 : decode cX10_copy 28 = .ok (.iload_n 2, 1) := by decide +kernel
theorem dX10_copy_29 : decode cX10_copy 29 = .ok (.aaload, 1) := by decide +kernel
theorem dX10_copy_30 : decode cX10_copy 30 = .ok (.aload_n 1, 1) := by decide +kernel
theorem dX10_copy_31 : decode cX10_copy 31 = .ok (.getfield 11, 3) := by decide +kernel
theorem dX10_copy_34 : decode cX10_copy 34 = .ok (.iload_n 2, 1) := by decide +kernel
theorem dX10_copy_35 : decode cX10_copy 35 = .ok (.aaload, 1) := by decide +kernel
theorem dX10_copy_36 : decode cX10_copy 36 = .ok (.invokevirtual 55, 3) := by decide +kernel
theorem dX10_copy_39 : decode cX10_copy 39 = .ok (.iinc 2 1, 3) := by decide +kernel
theorem dX10_copy_42 : decode cX10_copy 42 = .ok (.goto (-32), 3) := by decide +kernel
theorem dX10_copy_45 : decode cX10_copy 45 = .ok (.return_, 1) := by decide +kernel
theorem dX11_init_0 : decode cX11_init 0 = .ok (.aload_n 0, 1) := by decide +kernel
theorem dX11_init_1 : decode cX11_init 1 = .ok (.invokespecial 3, 3) := by decide +kernel
theorem dX11_init_4 : decode cX11_init 4 = .ok (.aload_n 0, 1) := by decide +kernel
theorem dX11_init_5 : decode cX11_init 5 = .ok (.new 9, 3) := by decide +kernel
theorem dX11_init_8 : decode cX11_init 8 = .ok (.dup, 1) := by decide +kernel
theorem dX11_init_9 : decode cX11_init 9 = .ok (.invokespecial 11, 3) := by decide +kernel
theorem dX11_init_12 : decode cX11_init 12 = .ok (.putfield 12, 3) := by decide +kernel
theorem dX11_init_15 : decode cX11_init 15 = .ok (.aload_n 0, 1) := by decide +kernel
theorem dX11_init_16 : decode cX11_init 16 = .ok (.new 18, 3) := by decide +kernel
theorem dX11_init_19 : decode cX11_init 19 = .ok (.dup, 1) := by decide +kernel
theorem dX11_init_20 : decode cX11_init 20 = .ok (.invokespecial 20, 3) := by decide +kernel
theorem dX11_init_23 : decode cX11_init 23 = .ok (.putfield 21, 3) := by decide +kernel
theorem dX11_init_26 : decode cX11_init 26 = .ok (.aload_n 0, 1) := by decide +kernel
theorem dX11_init_27 : decode cX11_init 27 = .ok (.new 25, 3) := by decide +kernel
theorem dX11_init_30 : decode cX11_init 30 = .ok (.dup, 1) := by decide +kernel
theorem dX11_init_31 : decode cX11_init 31 = .ok (.invokespecial 27, 3) := by decide +kernel
theorem dX11_init_34 : decode cX11_init 34 = .ok (.putfield 28, 3) := by decide +kernel
theorem dX11_init_37 : decode cX11_init 37 = .ok (.aload_n 0, 1) := by decide +kernel
theorem dX11_init_38 : decode cX11_init 38 = .ok (.new 18, 3) := by decide +kernel
theorem dX11_init_41 : decode cX11_init 41 = .ok (.dup, 1) := by decide +kernel
theorem dX11_init_42 : decode cX11_init 42 = .ok (.invokespecial 20, 3) := by decide +kernel
theorem dX11_init_45 : decode cX11_init 45 = .ok (.putfield 32, 3) := by decide +kernel
theorem dX11_init_48 : decode cX11_init 48 = .ok (.aload_n 0, 1) := by decide +kernel
theorem dX11_init_49 : decode cX11_init 49 = .ok (.new 25, 3) := by decide +kernel
theorem dX11_init_52 : decode cX11_init 52 = .ok (.dup, 1) := by decide +kernel
theorem dX11_init_53 : decode cX11_init 53 = .ok (.invokespecial 27, 3) := by decide +kernel
theorem dX11_init_56 : decode cX11_init 56 = .ok (.putfield 35, 3) := by decide +kernel
theorem dX11_init_59 : decode cX11_init 59 = .ok (.aload_n 0, 1) := by decide +kernel
theorem dX11_init_60 : decode cX11_init 60 = .ok (.new 38, 3) := by decide +kernel
theorem dX11_init_63 : decode cX11_init 63 = .ok (.dup, 1) := by decide +kernel
theorem dX11_init_64 : decode cX11_init 64 = .ok (.invokespecial 40, 3) := by decide +kernel
theorem dX11_init_67 : decode cX11_init 67 = .ok (.putfield 41, 3) := by decide +kernel
theorem dX11_init_70 : decode cX11_init 70 = .ok (.aload_n 0, 1) := by decide +kernel
theorem dX11_init_71 : decode cX11_init 71 = .ok (.new 45, 3) := by decide +kernel
theorem dX11_init_74 : decode cX11_init 74 = .ok (.dup, 1) := by decide +kernel
theorem dX11_init_75 : decode cX11_init 75 = .ok (.invokespecial 47, 3) := by decide +kernel
theorem dX11_init_78 : decode cX11_init 78 = .ok (.putfield 48, 3) := by decide +kernel
theorem dX11_init_81 : decode cX11_init 81 = .ok (.aload_n 0, 1) := by decide +kernel
