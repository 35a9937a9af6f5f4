theorem dX0_init_0 : decode cX0_init 0 = .ok (.aload_n 0, 1) := by decide +kernel
theorem dX0_init_1 : decode cX0_init 1 = .ok (.invokespecial 3, 3) := by decide +kernel
theorem dX0_init_4 : decode cX0_init 4 = .ok (.aload_n 0, 1) := by decide +kernel
theorem dX0_init_5 : decode cX0_init 5 = .ok (.sipush 720, 3) := by decide +kernel
theorem dX0_init_8 : decode cX0_init 8 = .ok (.newarray .int, 2) := by decide +kernel
theorem dX0_init_10 : decode cX0_init 10 = .ok (.putfield 9, 3) := by decide +kernel
theorem dX0_init_13 : decode cX0_init 13 = .ok (.return_, 1) := by decide +kernel
theorem dX0_add_0 : decode cX0_add 0 = .ok (.aload_n 0, 1) := by decide +kernel
theorem dX0_add_1 : decode cX0_add 1 = .ok (.getfield 15, 3) := by decide +kernel
theorem dX0_add_4 : decode cX0_add 4 = .ok (.ifCond .lt 12, 3) := by decide +kernel
theorem dX0_add_7 : decode cX0_add 7 = .ok (.aload_n 0, 1) := by decide +kernel
theorem dX0_add_8 : decode cX0_add 8 = .ok (.getfield 15, 3) := by decide +kernel
theorem dX0_add_11 : decode cX0_add 11 = .ok (.bipush 60, 2) := by decide +kernel
theorem dX0_add_13 : decode cX0_add 13 = .ok (.if_icmp .lt 5, 3) := by decide +kernel
theorem dX0_add_16 : decode cX0_add 16 = .ok (.iconst 0, 1) := by decide +kernel
theorem dX0_add_17 : decode cX0_add 17 = .ok (.ireturn, 1) := by decide +kernel
theorem dX0_add_18 : decode cX0_add 18 = .ok (.iconst 0, 1) := by decide +kernel
theorem dX0_add_19 : decode cX0_add 19 = .ok (.istore 4, 2) := by decide +kernel
theorem dX0_add_21 : decode cX0_add 21 = .ok (.iload 4, 2) := by decide +kernel
theorem dX0_add_23 : decode cX0_add 23 = .ok (.bipush 8, 2) := by decide +kernel
theorem dX0_add_25 : decode cX0_add 25 = .ok (.if_icmp .ge 25, 3) := by decide +kernel
theorem dX0_add_28 : decode cX0_add 28 = .ok (.aload_n 0, 1) := by decide +kernel
theorem dX0_add_29 : decode cX0_add 29 = .ok (.aload_n 0, 1) := by decide +kernel
theorem dX0_add_30 : decode cX0_add 30 = .ok (.getfield 15, 3) := by decide +kernel
theorem dX0_add_33 : decode cX0_add 33 = .ok (.iload 4, 2) := by decide +kernel
theorem dX0_add_35 : decode cX0_add 35 = .ok (.aload_n 1, 1) := by decide +kernel
theorem dX0_add_36 : decode cX0_add 36 = .ok (.iload 4, 2) := by decide +kernel
theorem dX0_add_38 : decode cX0_add 38 = .ok (.invokevirtual 25, 3) := by decide +kernel
theorem dX0_add_41 : decode cX0_add 41 = .ok (.invokevirtual 31, 3) := by decide +kernel
theorem dX0_add_44 : decode cX0_add 44 = .ok (.iinc 4 1, 3) := by decide +kernel
theorem dX0_add_47 : decode cX0_add 47 = .ok (.goto (-26), 3) := by decide +kernel
theorem dX0_add_50 : decode cX0_add 50 = .ok (.aload_n 0, 1) := by decide +kernel
theorem dX0_add_51 : decode cX0_add 51 = .ok (.aload_n 0, 1) := by decide +kernel
theorem dX0_add_52 : decode cX0_add 52 = .ok (.getfield 15, 3) := by decide +kernel
theorem dX0_add_55 : decode cX0_add 55 = .ok (.bipush 8, 2) := by decide +kernel
theorem dX0_add_57 : decode cX0_add 57 = .ok (.aload_n 1, 1) := by decide +kernel
theorem dX0_add_58 : decode cX0_add 58 = .ok (.getfield 35, 3) := by decide +kernel
theorem dX0_add_61 : decode cX0_add 61 = .ok (.invokevirtual 31, 3) := by decide +kernel
theorem dX0_add_64 : decode cX0_add 64 = .ok (.aload_n 0, 1) := by decide +kernel
theorem dX0_add_65 : decode cX0_add 65 = .ok (.aload_n 0, 1) := by decide +kernel
theorem dX0_add_66 : decode cX0_add 66 = .ok (.getfield 15, 3) := by decide +kernel
theorem dX0_add_69 : decode cX0_add 69 = .ok (.bipush 9, 2) := by decide +kernel
theorem dX0_add_71 : decode cX0_add 71 = .ok (.aload_n 1, 1) := by decide +kernel
theorem dX0_add_72 : decode cX0_add 72 = .ok (.getfield 38, 3) := by decide +kernel
theorem dX0_add_75 : decode cX0_add 75 = .ok (.invokevirtual 31, 3) := by decide +kernel
theorem dX0_add_78 : decode cX0_add 78 = .ok (.aload_n 0, 1) := by decide +kernel
theorem dX0_add_79 : decode cX0_add 79 = .ok (.aload_n 0, 1) := by decide +kernel
theorem dX0_add_80 : decode cX0_add 80 = .ok (.getfield 15, 3) := by decide +kernel
theorem dX0_add_83 : decode cX0_add 83 = .ok (.bipush 10, 2) := by decide +kernel
theorem dX0_add_85 : decode cX0_add 85 = .ok (.iload_n 2, 1) := by decide +kernel
theorem dX0_add_86 : decode cX0_add 86 = .ok (.invokevirtual 31, 3) := by decide +kernel
theorem dX0_add_89 : decode cX0_add 89 = .ok (.aload_n 0, 1) := by decide +kernel
theorem dX0_add_90 : decode cX0_add 90 = .ok (.aload_n 0, 1) := by decide +kernel
theorem dX0_add_91 : decode cX0_add 91 = .ok (.getfield 15, 3) := by decide +kernel
theorem dX0_add_94 : decode cX0_add 94 = .ok (.bipush 11, 2) := by decide +kernel
theorem dX0_add_96 : decode cX0_add 96 = .ok (.iload_n 3, 1) := by decide +kernel
theorem dX0_add_97 : decode cX0_add 97 = .ok (.invokevirtual 31, 3) := by decide +kernel
theorem dX0_add_100 : decode cX0_add 100 = .ok (.aload_n 0, 1) := by decide +kernel
theorem dX0_add_101 : decode cX0_add 101 = .ok (.dup, 1) := by decide +kernel
theorem dX0_add_102 : decode cX0_add 102 = .ok (.getfield 15, 3) := by decide +kernel
theorem dX0_add_105 : decode cX0_add 105 = .ok (.iconst 1, 1) := by decide +kernel
theorem dX0_add_106 : decode cX0_add 106 = .ok (.iadd, 1) := by decide +kernel
theorem dX0_add_107 : decode cX0_add 107 = .ok (.putfield 15, 3) := by decide +kernel
theorem dX0_add_110 : decode cX0_add 110 = .ok (.iconst 1, 1) := by decide +kernel
theorem dX0_add_111 : decode cX0_add 111 = .ok (.ireturn, 1) := by decide +kernel
theorem dX0_setField_0 : decode cX0_setField 0 = .ok (.iload_n 1, 1) := by decide +kernel
theorem dX0_setField_1 : decode cX0_setField 1 = .ok (.bipush 12, 2) := by decide +kernel
theorem dX0_setField_3 : decode cX0_setField 3 = .ok (.imul, 1) := by decide +kernel
theorem dX0_setField_4 : decode cX0_setField 4 = .ok (.iload_n 2, 1) := by decide +kernel
theorem dX0_setField_5 : decode cX0_setField 5 = .ok (.iadd, 1) := by decide +kernel
theorem dX0_setField_6 : decode cX0_setField 6 = .ok (.istore 4, 2) := by decide +kernel
theorem dX0_setField_8 : decode cX0_setField 8 = .ok (.iload 4, 2) := by decide +kernel
theorem dX0_setField_10 : decode cX0_setField 10 = .ok (.ifCond .lt 21, 3) := by decide +kernel
theorem dX0_setField_13 : decode cX0_setField 13 = .ok (.iload 4, 2) := by decide +kernel
theorem dX0_setField_15 : decode cX0_setField 15 = .ok (.aload_n 0, 1) := by decide +kernel
theorem dX0_setField_16 : decode cX0_setField 16 = .ok (.getfield 9, 3) := by decide +kernel
theorem dX0_setField_19 : decode cX0_setField 19 = .ok (.arraylength, 1) := by decide +kernel
theorem dX0_setField_20 : decode cX0_setField 20 = .ok (.if_icmp .ge 11, 3) := by decide +kernel
theorem dX0_setField_23 : decode cX0_setField 23 = .ok (.aload_n 0, 1) := by decide +kernel
theorem dX0_setField_24 : decode cX0_setField 24 = .ok (.getfield 9, 3) := by decide +kernel
theorem dX0_setField_27 : decode cX0_setField 27 = .ok (.iload 4, 2) := by decide +kernel
theorem dX0_setField_29 : decode cX0_setField 29 = .ok (.iload_n 3, 1) := by decide +kernel
theorem dX0_setField_30 : decode cX0_setField 30 = .ok (.iastore, 1) := by decide +kernel
theorem dX0_setField_31 : decode cX0_setField 31 = .ok (.return_, 1) := by decide +kernel
theorem dX0_field_0 : decode cX0_field 0 = .ok (.iload_n 1, 1) := by decide +kernel
theorem dX0_field_1 : decode cX0_field 1 = .ok (.bipush 12, 2) := by decide +kernel
theorem dX0_field_3 : decode cX0_field 3 = .ok (.imul, 1) := by decide +kernel
theorem dX0_field_4 : decode cX0_field 4 = .ok (.iload_n 2, 1) := by decide +kernel
theorem dX0_field_5 : decode cX0_field 5 = .ok (.iadd, 1) := by decide +kernel
theorem dX0_field_6 : decode cX0_field 6 = .ok (.istore_n 3, 1) := by decide +kernel
theorem dX0_field_7 : decode cX0_field 7 = .ok (.iload_n 3, 1) := by decide +kernel
theorem dX0_field_8 : decode cX0_field 8 = .ok (.ifCond .lt 21, 3) := by decide +kernel
theorem dX0_field_11 : decode cX0_field 11 = .ok (.iload_n 3, 1) := by decide +kernel
theorem dX0_field_12 : decode cX0_field 12 = .ok (.aload_n 0, 1) := by decide +kernel
theorem dX0_field_13 : decode cX0_field 13 = .ok (.getfield 9, 3) := by decide +kernel
theorem dX0_field_16 : decode cX0_field 16 = .ok (.arraylength, 1) := by decide +kernel
theorem dX0_field_17 : decode cX0_field 17 = .ok (.if_icmp .ge 12, 3) := by decide +kernel
theorem dX0_field_20 : decode cX0_field 20 = .ok (.aload_n 0, 1) := by decide +kernel
theorem dX0_field_21 : decode cX0_field 21 = .ok (.getfield 9, 3) := by decide +kernel
theorem dX0_field_24 : decode cX0_field 24 = .ok (.iload_n 3, 1) := by decide +kernel
theorem dX0_field_25 : decode cX0_field 25 = .ok (.iaload, 1) := by decide +kernel
theorem dX0_field_26 : decode cX0_field 26 = .ok (.goto 4, 3) := by decide +kernel
theorem dX0_field_29 : decode cX0_field 29 = .ok (.iconst 0, 1) := by decide +kernel
theorem dX0_field_30 : decode cX0_field 30 = .ok (.ireturn, 1) := by decide +kernel
theorem dX0_ranked_0 : decode cX0_ranked 0 = .ok (.iconst 0, 1) := by decide +kernel
theorem dX0_ranked_1 : decode cX0_ranked 1 = .ok (.istore_n 2, 1) := by decide +kernel
theorem dX0_ranked_2 : decode cX0_ranked 2 = .ok (.iload_n 2, 1) := by decide +kernel
theorem dX0_ranked_3 : decode cX0_ranked 3 = .ok (.aload_n 0, 1) := by decide +kernel
theorem dX0_ranked_4 : decode cX0_ranked 4 = .ok (.getfield 15, 3) := by decide +kernel
theorem dX0_ranked_7 : decode cX0_ranked 7 = .ok (.if_icmp .ge 20, 3) := by decide +kernel
theorem dX0_ranked_10 : decode cX0_ranked 10 = .ok (.aload_n 0, 1) := by decide +kernel
theorem dX0_ranked_11 : decode cX0_ranked 11 = .ok (.iload_n 2, 1) := by decide +kernel
theorem dX0_ranked_12 : decode cX0_ranked 12 = .ok (.invokevirtual 41, 3) := by decide +kernel
theorem dX0_ranked_15 : decode cX0_ranked 15 = .ok (.iload_n 1, 1) := by decide +kernel
theorem dX0_ranked_16 : decode cX0_ranked 16 = .ok (.if_icmp .ne 5, 3) := by decide +kernel
theorem dX0_ranked_19 : decode cX0_ranked 19 = .ok (.iload_n 2, 1) := by decide +kernel
theorem dX0_ranked_20 : decode cX0_ranked 20 = .ok (.ireturn, 1) := by decide +kernel
theorem dX0_ranked_21 : decode cX0_ranked 21 = .ok (.iinc 2 1, 3) := by decide +kernel
theorem dX0_ranked_24 : decode cX0_ranked 24 = .ok (.goto (-22), 3) := by decide +kernel
theorem dX0_ranked_27 : decode cX0_ranked 27 = .ok (.iconst (-1), 1) := by decide +kernel
theorem dX0_ranked_28 : decode cX0_ranked 28 = .ok (.ireturn, 1) := by decide +kernel
theorem dX0_rankOf_0 : decode cX0_rankOf 0 = .ok (.aload_n 0, 1) := by decide +kernel
theorem dX0_rankOf_1 : decode cX0_rankOf 1 = .ok (.iload_n 1, 1) := by decide +kernel
theorem dX0_rankOf_2 : decode cX0_rankOf 2 = .ok (.bipush 10, 2) := by decide +kernel
theorem dX0_rankOf_4 : decode cX0_rankOf 4 = .ok (.invokevirtual 44, 3) := by decide +kernel
theorem dX0_rankOf_7 : decode cX0_rankOf 7 = .ok (.istore_n 2, 1) := by decide +kernel
theorem dX0_rankOf_8 : decode cX0_rankOf 8 = .ok (.iconst 0, 1) := by decide +kernel
theorem dX0_rankOf_9 : decode cX0_rankOf 9 = .ok (.istore_n 3, 1) := by decide +kernel
theorem dX0_rankOf_10 : decode cX0_rankOf 10 = .ok (.iconst 0, 1) := by decide +kernel
theorem dX0_rankOf_11 : decode cX0_rankOf 11 = .ok (.istore 4, 2) := by decide +kernel
theorem dX0_rankOf_13 : decode cX0_rankOf 13 = .ok (.iload 4, 2) := by decide +kernel
theorem dX0_rankOf_15 : decode cX0_rankOf 15 = .ok (.aload_n 0, 1) := by decide +kernel
theorem dX0_rankOf_16 : decode cX0_rankOf 16 = .ok (.getfield 15, 3) := by decide +kernel
theorem dX0_rankOf_19 : decode cX0_rankOf 19 = .ok (.if_icmp .ge 45, 3) := by decide +kernel
theorem dX0_rankOf_22 : decode cX0_rankOf 22 = .ok (.aload_n 0, 1) := by decide +kernel
theorem dX0_rankOf_23 : decode cX0_rankOf 23 = .ok (.iload 4, 2) := by decide +kernel
theorem dX0_rankOf_25 : decode cX0_rankOf 25 = .ok (.bipush 10, 2) := by decide +kernel
theorem dX0_rankOf_27 : decode cX0_rankOf 27 = .ok (.invokevirtual 44, 3) := by decide +kernel
theorem dX0_rankOf_30 : decode cX0_rankOf 30 = .ok (.istore 5, 2) := by decide +kernel
theorem dX0_rankOf_32 : decode cX0_rankOf 32 = .ok (.iload_n 3, 1) := by decide +kernel
theorem dX0_rankOf_33 : decode cX0_rankOf 33 = .ok (.iload 5, 2) := by decide +kernel
theorem dX0_rankOf_35 : decode cX0_rankOf 35 = .ok (.iload_n 2, 1) := by decide +kernel
theorem dX0_rankOf_36 : decode cX0_rankOf 36 = .ok (.if_icmp .lt 15, 3) := by decide +kernel
theorem dX0_rankOf_39 : decode cX0_rankOf 39 = .ok (.iload 5, 2) := by decide +kernel
theorem dX0_rankOf_41 : decode cX0_rankOf 41 = .ok (.iload_n 2, 1) := by decide +kernel
theorem dX0_rankOf_42 : decode cX0_rankOf 42 = .ok (.if_icmp .ne 13, 3) := by decide +kernel
theorem dX0_rankOf_45 : decode cX0_rankOf 45 = .ok (.iload 4, 2) := by decide +kernel
theorem dX0_rankOf_47 : decode cX0_rankOf 47 = .ok (.iload_n 1, 1) := by decide +kernel
theorem dX0_rankOf_48 : decode cX0_rankOf 48 = .ok (.if_icmp .ge 7, 3) := by decide +kernel
theorem dX0_rankOf_51 : decode cX0_rankOf 51 = .ok (.iconst 1, 1) := by decide +kernel
theorem dX0_rankOf_52 : decode cX0_rankOf 52 = .ok (.goto 4, 3) := by decide +kernel
theorem dX0_rankOf_55 : decode cX0_rankOf 55 = .ok (.iconst 0, 1) := by decide +kernel
theorem dX0_rankOf_56 : decode cX0_rankOf 56 = .ok (.iadd, 1) := by decide +kernel
theorem dX0_rankOf_57 : decode cX0_rankOf 57 = .ok (.istore_n 3, 1) := by decide +kernel
theorem dX0_rankOf_58 : decode cX0_rankOf 58 = .ok (.iinc 4 1, 3) := by decide +kernel
theorem dX0_rankOf_61 : decode cX0_rankOf 61 = .ok (.goto (-48), 3) := by decide +kernel
theorem dX0_rankOf_64 : decode cX0_rankOf 64 = .ok (.iload_n 3, 1) := by decide +kernel
theorem dX0_rankOf_65 : decode cX0_rankOf 65 = .ok (.ireturn, 1) := by decide +kernel
theorem dX0_sharedWith_0 : decode cX0_sharedWith 0 = .ok (.iconst 0, 1) := by decide +kernel
theorem dX0_sharedWith_1 : decode cX0_sharedWith 1 = .ok (.istore_n 2, 1) := by decide +kernel
theorem dX0_sharedWith_2 : decode cX0_sharedWith 2 = .ok (.iconst 0, 1) := by decide +kernel
theorem dX0_sharedWith_3 : decode cX0_sharedWith 3 = .ok (.istore_n 3, 1) := by decide +kernel
theorem dX0_sharedWith_4 : decode cX0_sharedWith 4 = .ok (.iload_n 3, 1) := by decide +kernel
theorem dX0_sharedWith_5 : decode cX0_sharedWith 5 = .ok (.aload_n 0, 1) := by decide +kernel
theorem dX0_sharedWith_6 : decode cX0_sharedWith 6 = .ok (.getfield 15, 3) := by decide +kernel
theorem dX0_sharedWith_9 : decode cX0_sharedWith 9 = .ok (.if_icmp .ge 30, 3) := by decide +kernel
theorem dX0_sharedWith_12 : decode cX0_sharedWith 12 = .ok (.iload_n 2, 1) := by decide +kernel
theorem dX0_sharedWith_13 : decode cX0_sharedWith 13 = .ok (.aload_n 1, 1) := by decide +kernel
theorem dX0_sharedWith_14 : decode cX0_sharedWith 14 = .ok (.aload_n 0, 1) := by decide +kernel
theorem dX0_sharedWith_15 : decode cX0_sharedWith 15 = .ok (.iload_n 3, 1) := by decide +kernel
theorem dX0_sharedWith_16 : decode cX0_sharedWith 16 = .ok (.aload_n 1, 1) := by decide +kernel
theorem dX0_sharedWith_17 : decode cX0_sharedWith 17 = .ok (.getfield 15, 3) := by decide +kernel
theorem dX0_sharedWith_20 : decode cX0_sharedWith 20 = .ok (.invokevirtual 48, 3) := by decide +kernel
theorem dX0_sharedWith_23 : decode cX0_sharedWith 23 = .ok (.ifCond .eq 7, 3) := by decide +kernel
theorem dX0_sharedWith_26 : decode cX0_sharedWith 26 = .ok (.iconst 1, 1) := by decide +kernel
theorem dX0_sharedWith_27 : decode cX0_sharedWith 27 = .ok (.goto 4, 3) := by decide +kernel
theorem dX0_sharedWith_30 : decode cX0_sharedWith 30 = .ok (.iconst 0, 1) := by decide +kernel
theorem dX0_sharedWith_31 : decode cX0_sharedWith 31 = .ok (.iadd, 1) := by decide +kernel
theorem dX0_sharedWith_32 : decode cX0_sharedWith 32 = .ok (.istore_n 2, 1) := by decide +kernel
theorem dX0_sharedWith_33 : decode cX0_sharedWith 33 = .ok (.iinc 3 1, 3) := by decide +kernel
theorem dX0_sharedWith_36 : decode cX0_sharedWith 36 = .ok (.goto (-32), 3) := by decide +kernel
theorem dX0_sharedWith_39 : decode cX0_sharedWith 39 = .ok (.iload_n 2, 1) := by decide +kernel
theorem dX0_sharedWith_40 : decode cX0_sharedWith 40 = .ok (.ireturn, 1) := by decide +kernel
theorem dX0_different_0 : decode cX0_different 0 = .ok (.iconst 0, 1) := by decide +kernel
theorem dX0_different_1 : decode cX0_different 1 = .ok (.istore_n 1, 1) := by decide +kernel
theorem dX0_different_2 : decode cX0_different 2 = .ok (.iconst 0, 1) := by decide +kernel
theorem dX0_different_3 : decode cX0_different 3 = .ok (.istore_n 2, 1) := by decide +kernel
theorem dX0_different_4 : decode cX0_different 4 = .ok (.iload_n 2, 1) := by decide +kernel
theorem dX0_different_5 : decode cX0_different 5 = .ok (.aload_n 0, 1) := by decide +kernel
theorem dX0_different_6 : decode cX0_different 6 = .ok (.getfield 15, 3) := by decide +kernel
theorem dX0_different_9 : decode cX0_different 9 = .ok (.if_icmp .ge 27, 3) := by decide +kernel
theorem dX0_different_12 : decode cX0_different 12 = .ok (.iload_n 1, 1) := by decide +kernel
theorem dX0_different_13 : decode cX0_different 13 = .ok (.aload_n 0, 1) := by decide +kernel
theorem dX0_different_14 : decode cX0_different 14 = .ok (.aload_n 0, 1) := by decide +kernel
theorem dX0_different_15 : decode cX0_different 15 = .ok (.iload_n 2, 1) := by decide +kernel
theorem dX0_different_16 : decode cX0_different 16 = .ok (.iload_n 2, 1) := by decide +kernel
theorem dX0_different_17 : decode cX0_different 17 = .ok (.invokevirtual 48, 3) := by decide +kernel
theorem dX0_different_20 : decode cX0_different 20 = .ok (.ifCond .eq 7, 3) := by decide +kernel
theorem dX0_different_23 : decode cX0_different 23 = .ok (.iconst 0, 1) := by decide +kernel
theorem dX0_different_24 : decode cX0_different 24 = .ok (.goto 4, 3) := by decide +kernel
theorem dX0_different_27 : decode cX0_different 27 = .ok (.iconst 1, 1) := by decide +kernel
theorem dX0_different_28 : decode cX0_different 28 = .ok (.iadd, 1) := by decide +kernel
theorem dX0_different_29 : decode cX0_different 29 = .ok (.istore_n 1, 1) := by decide +kernel
theorem dX0_different_30 : decode cX0_different 30 = .ok (.iinc 2 1, 3) := by decide +kernel
theorem dX0_different_33 : decode cX0_different 33 = .ok (.goto (-29), 3) := by decide +kernel
theorem dX0_different_36 : decode cX0_different 36 = .ok (.iload_n 1, 1) := by decide +kernel
theorem dX0_different_37 : decode cX0_different 37 = .ok (.ireturn, 1) := by decide +kernel
theorem dX0_hasLike_0 : decode cX0_hasLike 0 = .ok (.iconst 0, 1) := by decide +kernel
theorem dX0_hasLike_1 : decode cX0_hasLike 1 = .ok (.istore 4, 2) := by decide +kernel
theorem dX0_hasLike_3 : decode cX0_hasLike 3 = .ok (.iload 4, 2) := by decide +kernel
theorem dX0_hasLike_5 : decode cX0_hasLike 5 = .ok (.iload_n 3, 1) := by decide +kernel
theorem dX0_hasLike_6 : decode cX0_hasLike 6 = .ok (.if_icmp .ge 22, 3) := by decide +kernel
theorem dX0_hasLike_9 : decode cX0_hasLike 9 = .ok (.aload_n 0, 1) := by decide +kernel
theorem dX0_hasLike_10 : decode cX0_hasLike 10 = .ok (.iload 4, 2) := by decide +kernel
theorem dX0_hasLike_12 : decode cX0_hasLike 12 = .ok (.aload_n 1, 1) := by decide +kernel
theorem dX0_hasLike_13 : decode cX0_hasLike 13 = .ok (.iload_n 2, 1) := by decide +kernel
theorem dX0_hasLike_14 : decode cX0_hasLike 14 = .ok (.invokevirtual 52, 3) := by decide +kernel
theorem dX0_hasLike_17 : decode cX0_hasLike 17 = .ok (.ifCond .eq 5, 3) := by decide +kernel
theorem dX0_hasLike_20 : decode cX0_hasLike 20 = .ok (.iconst 1, 1) := by decide +kernel
theorem dX0_hasLike_21 : decode cX0_hasLike 21 = .ok (.ireturn, 1) := by decide +kernel
theorem dX0_hasLike_22 : decode cX0_hasLike 22 = .ok (.iinc 4 1, 3) := by decide +kernel
theorem dX0_hasLike_25 : decode cX0_hasLike 25 = .ok (.goto (-22), 3) := by decide +kernel
theorem dX0_hasLike_28 : decode cX0_hasLike 28 = .ok (.iconst 0, 1) := by decide +kernel
theorem dX0_hasLike_29 : decode cX0_hasLike 29 = .ok (.ireturn, 1) := by decide +kernel
theorem dX0_alike_0 : decode cX0_alike 0 = .ok (.iconst 0, 1) := by decide +kernel
theorem dX0_alike_1 : decode cX0_alike 1 = .ok (.istore 4, 2) := by decide +kernel
theorem dX0_alike_3 : decode cX0_alike 3 = .ok (.iload 4, 2) := by decide +kernel
theorem dX0_alike_5 : decode cX0_alike 5 = .ok (.bipush 8, 2) := by decide +kernel
theorem dX0_alike_7 : decode cX0_alike 7 = .ok (.if_icmp .ge 28, 3) := by decide +kernel
theorem dX0_alike_10 : decode cX0_alike 10 = .ok (.aload_n 0, 1) := by decide +kernel
theorem dX0_alike_11 : decode cX0_alike 11 = .ok (.iload_n 1, 1) := by decide +kernel
theorem dX0_alike_12 : decode cX0_alike 12 = .ok (.iload 4, 2) := by decide +kernel
theorem dX0_alike_14 : decode cX0_alike 14 = .ok (.invokevirtual 44, 3) := by decide +kernel
theorem dX0_alike_17 : decode cX0_alike 17 = .ok (.aload_n 2, 1) := by decide +kernel
theorem dX0_alike_18 : decode cX0_alike 18 = .ok (.iload_n 3, 1) := by decide +kernel
theorem dX0_alike_19 : decode cX0_alike 19 = .ok (.iload 4, 2) := by decide +kernel
theorem dX0_alike_21 : decode cX0_alike 21 = .ok (.invokevirtual 44, 3) := by decide +kernel
theorem dX0_alike_24 : decode cX0_alike 24 = .ok (.if_icmp .eq 5, 3) := by decide +kernel
theorem dX0_alike_27 : decode cX0_alike 27 = .ok (.iconst 0, 1) := by decide +kernel
theorem dX0_alike_28 : decode cX0_alike 28 = .ok (.ireturn, 1) := by decide +kernel
theorem dX0_alike_29 : decode cX0_alike 29 = .ok (.iinc 4 1, 3) := by decide +kernel
theorem dX0_alike_32 : decode cX0_alike 32 = .ok (.goto (-29), 3) := by decide +kernel
theorem dX0_alike_35 : decode cX0_alike 35 = .ok (.iconst 1, 1) := by decide +kernel
theorem dX0_alike_36 : decode cX0_alike 36 = .ok (.ireturn, 1) := by decide +kernel
theorem dX1_init_0 : decode cX1_init 0 = .ok (.aload_n 0, 1) := by decide +kernel
theorem dX1_init_1 : decode cX1_init 1 = .ok (.invokespecial 3, 3) := by decide +kernel
theorem dX1_init_4 : decode cX1_init 4 = .ok (.aload_n 0, 1) := by decide +kernel
theorem dX1_init_5 : decode cX1_init 5 = .ok (.sipush 150, 3) := by decide +kernel
theorem dX1_init_8 : decode cX1_init 8 = .ok (.newarray .int, 2) := by decide +kernel
theorem dX1_init_10 : decode cX1_init 10 = .ok (.putfield 9, 3) := by decide +kernel
theorem dX1_init_13 : decode cX1_init 13 = .ok (.aload_n 0, 1) := by decide +kernel
theorem dX1_init_14 : decode cX1_init 14 = .ok (.sipush 150, 3) := by decide +kernel
theorem dX1_init_17 : decode cX1_init 17 = .ok (.newarray .int, 2) := by decide +kernel
theorem dX1_init_19 : decode cX1_init 19 = .ok (.putfield 15, 3) := by decide +kernel
theorem dX1_init_22 : decode cX1_init 22 = .ok (.aload_n 0, 1) := by decide +kernel
theorem dX1_init_23 : decode cX1_init 23 = .ok (.sipush 150, 3) := by decide +kernel
theorem dX1_init_26 : decode cX1_init 26 = .ok (.newarray .int, 2) := by decide +kernel
theorem dX1_init_28 : decode cX1_init 28 = .ok (.putfield 18, 3) := by decide +kernel
theorem dX1_init_31 : decode cX1_init 31 = .ok (.return_, 1) := by decide +kernel
theorem dX1_clear_0 : decode cX1_clear 0 = .ok (.aload_n 0, 1) := by decide +kernel
theorem dX1_clear_1 : decode cX1_clear 1 = .ok (.iconst 0, 1) := by decide +kernel
theorem dX1_clear_2 : decode cX1_clear 2 = .ok (.putfield 21, 3) := by decide +kernel
theorem dX1_clear_5 : decode cX1_clear 5 = .ok (.aload_n 0, 1) := by decide +kernel
theorem dX1_clear_6 : decode cX1_clear 6 = .ok (.iconst 0, 1) := by decide +kernel
theorem dX1_clear_7 : decode cX1_clear 7 = .ok (.putfield 25, 3) := by decide +kernel
theorem dX1_clear_10 : decode cX1_clear 10 = .ok (.return_, 1) := by decide +kernel
theorem dX1_become_0 : decode cX1_become 0 = .ok (.aload_n 1, 1) := by decide +kernel
theorem dX1_become_1 : decode cX1_become 1 = .ok (.getfield 9, 3) := by decide +kernel
theorem dX1_become_4 : decode cX1_become 4 = .ok (.iconst 0, 1) := by decide +kernel
theorem dX1_become_5 : decode cX1_become 5 = .ok (.aload_n 0, 1) := by decide +kernel
theorem dX1_become_6 : decode cX1_become 6 = .ok (.getfield 9, 3) := by decide +kernel
theorem dX1_become_9 : decode cX1_become 9 = .ok (.iconst 0, 1) := by decide +kernel
theorem dX1_become_10 : decode cX1_become 10 = .ok (.sipush 150, 3) := by decide +kernel
theorem dX1_become_13 : decode cX1_become 13 = .ok (.invokestatic 28, 3) := by decide +kernel
theorem dX1_become_16 : decode cX1_become 16 = .ok (.aload_n 1, 1) := by decide +kernel
theorem dX1_become_17 : decode cX1_become 17 = .ok (.getfield 15, 3) := by decide +kernel
theorem dX1_become_20 : decode cX1_become 20 = .ok (.iconst 0, 1) := by decide +kernel
theorem dX1_become_21 : decode cX1_become 21 = .ok (.aload_n 0, 1) := by decide +kernel
theorem dX1_become_22 : decode cX1_become 22 = .ok (.getfield 15, 3) := by decide +kernel
theorem dX1_become_25 : decode cX1_become 25 = .ok (.iconst 0, 1) := by decide +kernel
theorem dX1_become_26 : decode cX1_become 26 = .ok (.sipush 150, 3) := by decide +kernel
theorem dX1_become_29 : decode cX1_become 29 = .ok (.invokestatic 28, 3) := by decide +kernel
theorem dX1_become_32 : decode cX1_become 32 = .ok (.aload_n 1, 1) := by decide +kernel
theorem dX1_become_33 : decode cX1_become 33 = .ok (.getfield 18, 3) := by decide +kernel
theorem dX1_become_36 : decode cX1_become 36 = .ok (.iconst 0, 1) := by decide +kernel
theorem dX1_become_37 : decode cX1_become 37 = .ok (.aload_n 0, 1) := by decide +kernel
theorem dX1_become_38 : decode cX1_become 38 = .ok (.getfield 18, 3) := by decide +kernel
theorem dX1_become_41 : decode cX1_become 41 = .ok (.iconst 0, 1) := by decide +kernel
theorem dX1_become_42 : decode cX1_become 42 = .ok (.sipush 150, 3) := by decide +kernel
theorem dX1_become_45 : decode cX1_become 45 = .ok (.invokestatic 28, 3) := by decide +kernel
theorem dX1_become_48 : decode cX1_become 48 = .ok (.aload_n 0, 1) := by decide +kernel
theorem dX1_become_49 : decode cX1_become 49 = .ok (.aload_n 1, 1) := by decide +kernel
theorem dX1_become_50 : decode cX1_become 50 = .ok (.getfield 21, 3) := by decide +kernel
theorem dX1_become_53 : decode cX1_become 53 = .ok (.putfield 21, 3) := by decide +kernel
theorem dX1_become_56 : decode cX1_become 56 = .ok (.aload_n 0, 1) := by decide +kernel
theorem dX1_become_57 : decode cX1_become 57 = .ok (.aload_n 1, 1) := by decide +kernel
theorem dX1_become_58 : decode cX1_become 58 = .ok (.getfield 25, 3) := by decide +kernel
theorem dX1_become_61 : decode cX1_become 61 = .ok (.putfield 25, 3) := by decide +kernel
theorem dX1_become_64 : decode cX1_become 64 = .ok (.return_, 1) := by decide +kernel
theorem dX1_startFormula_0 : decode cX1_startFormula 0 = .ok (.aload_n 0, 1) := by decide +kernel
theorem dX1_startFormula_1 : decode cX1_startFormula 1 = .ok (.getfield 25, 3) := by decide +kernel
theorem dX1_startFormula_4 : decode cX1_startFormula 4 = .ok (.ifCond .lt 38, 3) := by decide +kernel
theorem dX1_startFormula_7 : decode cX1_startFormula 7 = .ok (.aload_n 0, 1) := by decide +kernel
theorem dX1_startFormula_8 : decode cX1_startFormula 8 = .ok (.getfield 25, 3) := by decide +kernel
theorem dX1_startFormula_11 : decode cX1_startFormula 11 = .ok (.aload_n 0, 1) := by decide +kernel
theorem dX1_startFormula_12 : decode cX1_startFormula 12 = .ok (.getfield 18, 3) := by decide +kernel
theorem dX1_startFormula_15 : decode cX1_startFormula 15 = .ok (.arraylength, 1) := by decide +kernel
theorem dX1_startFormula_16 : decode cX1_startFormula 16 = .ok (.if_icmp .ge 26, 3) := by decide +kernel
theorem dX1_startFormula_19 : decode cX1_startFormula 19 = .ok (.aload_n 0, 1) := by decide +kernel
theorem dX1_startFormula_20 : decode cX1_startFormula 20 = .ok (.getfield 18, 3) := by decide +kernel
theorem dX1_startFormula_23 : decode cX1_startFormula 23 = .ok (.aload_n 0, 1) := by decide +kernel
theorem dX1_startFormula_24 : decode cX1_startFormula 24 = .ok (.getfield 25, 3) := by decide +kernel
theorem dX1_startFormula_27 : decode cX1_startFormula 27 = .ok (.aload_n 0, 1) := by decide +kernel
theorem dX1_startFormula_28 : decode cX1_startFormula 28 = .ok (.getfield 21, 3) := by decide +kernel
theorem dX1_startFormula_31 : decode cX1_startFormula 31 = .ok (.iastore, 1) := by decide +kernel
theorem dX1_startFormula_32 : decode cX1_startFormula 32 = .ok (.aload_n 0, 1) := by decide +kernel
theorem dX1_startFormula_33 : decode cX1_startFormula 33 = .ok (.dup, 1) := by decide +kernel
theorem dX1_startFormula_34 : decode cX1_startFormula 34 = .ok (.getfield 25, 3) := by decide +kernel
theorem dX1_startFormula_37 : decode cX1_startFormula 37 = .ok (.iconst 1, 1) := by decide +kernel
theorem dX1_startFormula_38 : decode cX1_startFormula 38 = .ok (.iadd, 1) := by decide +kernel
theorem dX1_startFormula_39 : decode cX1_startFormula 39 = .ok (.putfield 25, 3) := by decide +kernel
theorem dX1_startFormula_42 : decode cX1_startFormula 42 = .ok (.return_, 1) := by decide +kernel
theorem dX1_addFactor_0 : decode cX1_addFactor 0 = .ok (.aload_n 0, 1) := by decide +kernel
theorem dX1_addFactor_1 : decode cX1_addFactor 1 = .ok (.getfield 21, 3) := by decide +kernel
theorem dX1_addFactor_4 : decode cX1_addFactor 4 = .ok (.ifCond .lt 55, 3) := by decide +kernel
theorem dX1_addFactor_7 : decode cX1_addFactor 7 = .ok (.aload_n 0, 1) := by decide +kernel
theorem dX1_addFactor_8 : decode cX1_addFactor 8 = .ok (.getfield 21, 3) := by decide +kernel
theorem dX1_addFactor_11 : decode cX1_addFactor 11 = .ok (.aload_n 0, 1) := by decide +kernel
theorem dX1_addFactor_12 : decode cX1_addFactor 12 = .ok (.getfield 15, 3) := by decide +kernel
theorem dX1_addFactor_15 : decode cX1_addFactor 15 = .ok (.arraylength, 1) := by decide +kernel
theorem dX1_addFactor_16 : decode cX1_addFactor 16 = .ok (.if_icmp .ge 43, 3) := by decide +kernel
theorem dX1_addFactor_19 : decode cX1_addFactor 19 = .ok (.aload_n 0, 1) := by decide +kernel
theorem dX1_addFactor_20 : decode cX1_addFactor 20 = .ok (.getfield 9, 3) := by decide +kernel
theorem dX1_addFactor_23 : decode cX1_addFactor 23 = .ok (.aload_n 0, 1) := by decide +kernel
theorem dX1_addFactor_24 : decode cX1_addFactor 24 = .ok (.getfield 21, 3) := by decide +kernel
theorem dX1_addFactor_27 : decode cX1_addFactor 27 = .ok (.iload_n 1, 1) := by decide +kernel
theorem dX1_addFactor_28 : decode cX1_addFactor 28 = .ok (.iastore, 1) := by decide +kernel
theorem dX1_addFactor_29 : decode cX1_addFactor 29 = .ok (.aload_n 0, 1) := by decide +kernel
theorem dX1_addFactor_30 : decode cX1_addFactor 30 = .ok (.getfield 15, 3) := by decide +kernel
theorem dX1_addFactor_33 : decode cX1_addFactor 33 = .ok (.aload_n 0, 1) := by decide +kernel
theorem dX1_addFactor_34 : decode cX1_addFactor 34 = .ok (.getfield 21, 3) := by decide +kernel
theorem dX1_addFactor_37 : decode cX1_addFactor 37 = .ok (.iload_n 3, 1) := by decide +kernel
theorem dX1_addFactor_38 : decode cX1_addFactor 38 = .ok (.ifCond .eq 9, 3) := by decide +kernel
theorem dX1_addFactor_41 : decode cX1_addFactor 41 = .ok (.iconst (-1), 1) := by decide +kernel
theorem dX1_addFactor_42 : decode cX1_addFactor 42 = .ok (.iload_n 2, 1) := by decide +kernel
theorem dX1_addFactor_43 : decode cX1_addFactor 43 = .ok (.isub, 1) := by decide +kernel
theorem dX1_addFactor_44 : decode cX1_addFactor 44 = .ok (.goto 4, 3) := by decide +kernel
theorem dX1_addFactor_47 : decode cX1_addFactor 47 = .ok (.iload_n 2, 1) := by decide +kernel
theorem dX1_addFactor_48 : decode cX1_addFactor 48 = .ok (.iastore, 1) := by decide +kernel
theorem dX1_addFactor_49 : decode cX1_addFactor 49 = .ok (.aload_n 0, 1) := by decide +kernel
theorem dX1_addFactor_50 : decode cX1_addFactor 50 = .ok (.dup, 1) := by decide +kernel
theorem dX1_addFactor_51 : decode cX1_addFactor 51 = .ok (.getfield 21, 3) := by decide +kernel
theorem dX1_addFactor_54 : decode cX1_addFactor 54 = .ok (.iconst 1, 1) := by decide +kernel
theorem dX1_addFactor_55 : decode cX1_addFactor 55 = .ok (.iadd, 1) := by decide +kernel
theorem dX1_addFactor_56 : decode cX1_addFactor 56 = .ok (.putfield 21, 3) := by decide +kernel
theorem dX1_addFactor_59 : decode cX1_addFactor 59 = .ok (.return_, 1) := by decide +kernel
theorem dX1_worth_0 : decode cX1_worth 0 = .ok (.iload_n 1, 1) := by decide +kernel
theorem dX1_worth_1 : decode cX1_worth 1 = .ok (.ifCond .lt 20, 3) := by decide +kernel
theorem dX1_worth_4 : decode cX1_worth 4 = .ok (.iload_n 1, 1) := by decide +kernel
theorem dX1_worth_5 : decode cX1_worth 5 = .ok (.aload_n 0, 1) := by decide +kernel
theorem dX1_worth_6 : decode cX1_worth 6 = .ok (.getfield 25, 3) := by decide +kernel
theorem dX1_worth_9 : decode cX1_worth 9 = .ok (.if_icmp .ge 12, 3) := by decide +kernel
theorem dX1_worth_12 : decode cX1_worth 12 = .ok (.iload_n 1, 1) := by decide +kernel
theorem dX1_worth_13 : decode cX1_worth 13 = .ok (.aload_n 0, 1) := by decide +kernel
theorem dX1_worth_14 : decode cX1_worth 14 = .ok (.getfield 18, 3) := by decide +kernel
theorem dX1_worth_17 : decode cX1_worth 17 = .ok (.arraylength, 1) := by decide +kernel
theorem dX1_worth_18 : decode cX1_worth 18 = .ok (.if_icmp .lt 6, 3) := by decide +kernel
theorem dX1_worth_21 : decode cX1_worth 21 = .ok (.ldc 34, 2) := by decide +kernel
theorem dX1_worth_23 : decode cX1_worth 23 = .ok (.ireturn, 1) := by decide +kernel
theorem dX1_worth_24 : decode cX1_worth 24 = .ok (.iconst 0, 1) := by decide +kernel
theorem dX1_worth_25 : decode cX1_worth 25 = .ok (.istore_n 3, 1) := by decide +kernel
theorem dX1_worth_26 : decode cX1_worth 26 = .ok (.iconst 1, 1) := by decide +kernel
theorem dX1_worth_27 : decode cX1_worth 27 = .ok (.istore 4, 2) := by decide +kernel
theorem dX1_worth_29 : decode cX1_worth 29 = .ok (.iconst 0, 1) := by decide +kernel
theorem dX1_worth_30 : decode cX1_worth 30 = .ok (.istore 5, 2) := by decide +kernel
theorem dX1_worth_32 : decode cX1_worth 32 = .ok (.aload_n 0, 1) := by decide +kernel
theorem dX1_worth_33 : decode cX1_worth 33 = .ok (.getfield 18, 3) := by decide +kernel
theorem dX1_worth_36 : decode cX1_worth 36 = .ok (.iload_n 1, 1) := by decide +kernel
theorem dX1_worth_37 : decode cX1_worth 37 = .ok (.iaload, 1) := by decide +kernel
theorem dX1_worth_38 : decode cX1_worth 38 = .ok (.istore 6, 2) := by decide +kernel
theorem dX1_worth_40 : decode cX1_worth 40 = .ok (.aload_n 0, 1) := by decide +kernel
theorem dX1_worth_41 : decode cX1_worth 41 = .ok (.iload_n 1, 1) := by decide +kernel
theorem dX1_worth_42 : decode cX1_worth 42 = .ok (.invokevirtual 35, 3) := by decide +kernel
theorem dX1_worth_45 : decode cX1_worth 45 = .ok (.istore 7, 2) := by decide +kernel
theorem dX1_worth_47 : decode cX1_worth 47 = .ok (.iload 6, 2) := by decide +kernel
theorem dX1_worth_49 : decode cX1_worth 49 = .ok (.istore 8, 2) := by decide +kernel
theorem dX1_worth_51 : decode cX1_worth 51 = .ok (.iload 8, 2) := by decide +kernel
theorem dX1_worth_53 : decode cX1_worth 53 = .ok (.iload 7, 2) := by decide +kernel
theorem dX1_worth_55 : decode cX1_worth 55 = .ok (.if_icmp .ge 85, 3) := by decide +kernel
theorem dX1_worth_58 : decode cX1_worth 58 = .ok (.aload_n 0, 1) := by decide +kernel
theorem dX1_worth_59 : decode cX1_worth 59 = .ok (.iload 8, 2) := by decide +kernel
theorem dX1_worth_61 : decode cX1_worth 61 = .ok (.aload_n 2, 1) := by decide +kernel
theorem dX1_worth_62 : decode cX1_worth 62 = .ok (.invokevirtual 39, 3) := by decide +kernel
theorem dX1_worth_65 : decode cX1_worth 65 = .ok (.istore 9, 2) := by decide +kernel
theorem dX1_worth_67 : decode cX1_worth 67 = .ok (.aload_n 0, 1) := by decide +kernel
theorem dX1_worth_68 : decode cX1_worth 68 = .ok (.iload 8, 2) := by decide +kernel
theorem dX1_worth_70 : decode cX1_worth 70 = .ok (.invokevirtual 43, 3) := by decide +kernel
theorem dX1_worth_73 : decode cX1_worth 73 = .ok (.istore 10, 2) := by decide +kernel
theorem dX1_worth_75 : decode cX1_worth 75 = .ok (.iload 10, 2) := by decide +kernel
theorem dX1_worth_77 : decode cX1_worth 77 = .ok (.iconst 3, 1) := by decide +kernel
theorem dX1_worth_78 : decode cX1_worth 78 = .ok (.if_icmp .ne 13, 3) := by decide +kernel
theorem dX1_worth_81 : decode cX1_worth 81 = .ok (.iload 5, 2) := by decide +kernel
theorem dX1_worth_83 : decode cX1_worth 83 = .ok (.iload 9, 2) := by decide +kernel
theorem dX1_worth_85 : decode cX1_worth 85 = .ok (.imul, 1) := by decide +kernel
theorem dX1_worth_86 : decode cX1_worth 86 = .ok (.istore 5, 2) := by decide +kernel
theorem dX1_worth_88 : decode cX1_worth 88 = .ok (.goto 28, 3) := by decide +kernel
theorem dX1_worth_91 : decode cX1_worth 91 = .ok (.iload_n 3, 1) := by decide +kernel
theorem dX1_worth_92 : decode cX1_worth 92 = .ok (.iload 4, 2) := by decide +kernel
theorem dX1_worth_94 : decode cX1_worth 94 = .ok (.iload 5, 2) := by decide +kernel
theorem dX1_worth_96 : decode cX1_worth 96 = .ok (.imul, 1) := by decide +kernel
theorem dX1_worth_97 : decode cX1_worth 97 = .ok (.iadd, 1) := by decide +kernel
theorem dX1_worth_98 : decode cX1_worth 98 = .ok (.istore_n 3, 1) := by decide +kernel
theorem dX1_worth_99 : decode cX1_worth 99 = .ok (.iload 10, 2) := by decide +kernel
theorem dX1_worth_101 : decode cX1_worth 101 = .ok (.iconst 2, 1) := by decide +kernel
theorem dX1_worth_102 : decode cX1_worth 102 = .ok (.if_icmp .ne 7, 3) := by decide +kernel
theorem dX1_worth_105 : decode cX1_worth 105 = .ok (.iconst (-1), 1) := by decide +kernel
theorem dX1_worth_106 : decode cX1_worth 106 = .ok (.goto 4, 3) := by decide +kernel
theorem dX1_worth_109 : decode cX1_worth 109 = .ok (.iconst 1, 1) := by decide +kernel
theorem dX1_worth_110 : decode cX1_worth 110 = .ok (.istore 4, 2) := by decide +kernel
theorem dX1_worth_112 : decode cX1_worth 112 = .ok (.iload 9, 2) := by decide +kernel
theorem dX1_worth_114 : decode cX1_worth 114 = .ok (.istore 5, 2) := by decide +kernel
theorem dX1_worth_116 : decode cX1_worth 116 = .ok (.iload 5, 2) := by decide +kernel
theorem dX1_worth_118 : decode cX1_worth 118 = .ok (.invokestatic 46, 3) := by decide +kernel
theorem dX1_worth_121 : decode cX1_worth 121 = .ok (.ifCond .eq 10, 3) := by decide +kernel
theorem dX1_worth_124 : decode cX1_worth 124 = .ok (.iload_n 3, 1) := by decide +kernel
theorem dX1_worth_125 : decode cX1_worth 125 = .ok (.invokestatic 46, 3) := by decide +kernel
theorem dX1_worth_128 : decode cX1_worth 128 = .ok (.ifCond .ne 6, 3) := by decide +kernel
theorem dX1_worth_131 : decode cX1_worth 131 = .ok (.ldc 34, 2) := by decide +kernel
theorem dX1_worth_133 : decode cX1_worth 133 = .ok (.ireturn, 1) := by decide +kernel
theorem dX1_worth_134 : decode cX1_worth 134 = .ok (.iinc 8 1, 3) := by decide +kernel
theorem dX1_worth_137 : decode cX1_worth 137 = .ok (.goto (-86), 3) := by decide +kernel
theorem dX1_worth_140 : decode cX1_worth 140 = .ok (.iload_n 3, 1) := by decide +kernel
theorem dX1_worth_141 : decode cX1_worth 141 = .ok (.iload 4, 2) := by decide +kernel
theorem dX1_worth_143 : decode cX1_worth 143 = .ok (.iload 5, 2) := by decide +kernel
theorem dX1_worth_145 : decode cX1_worth 145 = .ok (.imul, 1) := by decide +kernel
theorem dX1_worth_146 : decode cX1_worth 146 = .ok (.iadd, 1) := by decide +kernel
theorem dX1_worth_147 : decode cX1_worth 147 = .ok (.istore_n 3, 1) := by decide +kernel
theorem dX1_worth_148 : decode cX1_worth 148 = .ok (.iload_n 3, 1) := by decide +kernel
theorem dX1_worth_149 : decode cX1_worth 149 = .ok (.invokestatic 46, 3) := by decide +kernel
theorem dX1_worth_152 : decode cX1_worth 152 = .ok (.ifCond .eq 7, 3) := by decide +kernel
theorem dX1_worth_155 : decode cX1_worth 155 = .ok (.iload_n 3, 1) := by decide +kernel
theorem dX1_worth_156 : decode cX1_worth 156 = .ok (.goto 5, 3) := by decide +kernel
theorem dX1_worth_159 : decode cX1_worth 159 = .ok (.ldc 34, 2) := by decide +kernel
theorem dX1_worth_161 : decode cX1_worth 161 = .ok (.ireturn, 1) := by decide +kernel
theorem dX1_endOf_0 : decode cX1_endOf 0 = .ok (.iload_n 1, 1) := by decide +kernel
theorem dX1_endOf_1 : decode cX1_endOf 1 = .ok (.iconst 1, 1) := by decide +kernel
theorem dX1_endOf_2 : decode cX1_endOf 2 = .ok (.iadd, 1) := by decide +kernel
theorem dX1_endOf_3 : decode cX1_endOf 3 = .ok (.istore_n 2, 1) := by decide +kernel
theorem dX1_endOf_4 : decode cX1_endOf 4 = .ok (.iload_n 2, 1) := by decide +kernel
theorem dX1_endOf_5 : decode cX1_endOf 5 = .ok (.ifCond .lt 29, 3) := by decide +kernel
theorem dX1_endOf_8 : decode cX1_endOf 8 = .ok (.iload_n 2, 1) := by decide +kernel
theorem dX1_endOf_9 : decode cX1_endOf 9 = .ok (.aload_n 0, 1) := by decide +kernel
theorem dX1_endOf_10 : decode cX1_endOf 10 = .ok (.getfield 25, 3) := by decide +kernel
theorem dX1_endOf_13 : decode cX1_endOf 13 = .ok (.if_icmp .ge 21, 3) := by decide +kernel
theorem dX1_endOf_16 : decode cX1_endOf 16 = .ok (.iload_n 2, 1) := by decide +kernel
theorem dX1_endOf_17 : decode cX1_endOf 17 = .ok (.aload_n 0, 1) := by decide +kernel
theorem dX1_endOf_18 : decode cX1_endOf 18 = .ok (.getfield 18, 3) := by decide +kernel
theorem dX1_endOf_21 : decode cX1_endOf 21 = .ok (.arraylength, 1) := by decide +kernel
theorem dX1_endOf_22 : decode cX1_endOf 22 = .ok (.if_icmp .ge 12, 3) := by decide +kernel
theorem dX1_endOf_25 : decode cX1_endOf 25 = .ok (.aload_n 0, 1) := by decide +kernel
theorem dX1_endOf_26 : decode cX1_endOf 26 = .ok (.getfield 18, 3) := by decide +kernel
theorem dX1_endOf_29 : decode cX1_endOf 29 = .ok (.iload_n 2, 1) := by decide +kernel
theorem dX1_endOf_30 : decode cX1_endOf 30 = .ok (.iaload, 1) := by decide +kernel
theorem dX1_endOf_31 : decode cX1_endOf 31 = .ok (.goto 7, 3) := by decide +kernel
theorem dX1_endOf_34 : decode cX1_endOf 34 = .ok (.aload_n 0, 1) := by decide +kernel
theorem dX1_endOf_35 : decode cX1_endOf 35 = .ok (.getfield 21, 3) := by decide +kernel
theorem dX1_endOf_38 : decode cX1_endOf 38 = .ok (.ireturn, 1) := by decide +kernel
theorem dX1_joinAt_0 : decode cX1_joinAt 0 = .ok (.iload_n 1, 1) := by decide +kernel
theorem dX1_joinAt_1 : decode cX1_joinAt 1 = .ok (.ifCond .lt 21, 3) := by decide +kernel
theorem dX1_joinAt_4 : decode cX1_joinAt 4 = .ok (.iload_n 1, 1) := by decide +kernel
theorem dX1_joinAt_5 : decode cX1_joinAt 5 = .ok (.aload_n 0, 1) := by decide +kernel
theorem dX1_joinAt_6 : decode cX1_joinAt 6 = .ok (.getfield 9, 3) := by decide +kernel
theorem dX1_joinAt_9 : decode cX1_joinAt 9 = .ok (.arraylength, 1) := by decide +kernel
theorem dX1_joinAt_10 : decode cX1_joinAt 10 = .ok (.if_icmp .ge 12, 3) := by decide +kernel
theorem dX1_joinAt_13 : decode cX1_joinAt 13 = .ok (.aload_n 0, 1) := by decide +kernel
theorem dX1_joinAt_14 : decode cX1_joinAt 14 = .ok (.getfield 9, 3) := by decide +kernel
theorem dX1_joinAt_17 : decode cX1_joinAt 17 = .ok (.iload_n 1, 1) := by decide +kernel
theorem dX1_joinAt_18 : decode cX1_joinAt 18 = .ok (.iaload, 1) := by decide +kernel
theorem dX1_joinAt_19 : decode cX1_joinAt 19 = .ok (.goto 4, 3) := by decide +kernel
theorem dX1_joinAt_22 : decode cX1_joinAt 22 = .ok (.iconst 0, 1) := by decide +kernel
theorem dX1_joinAt_23 : decode cX1_joinAt 23 = .ok (.ireturn, 1) := by decide +kernel
theorem dX1_factorWorth_0 : decode cX1_factorWorth 0 = .ok (.iload_n 1, 1) := by decide +kernel
theorem dX1_factorWorth_1 : decode cX1_factorWorth 1 = .ok (.ifCond .lt 21, 3) := by decide +kernel
theorem dX1_factorWorth_4 : decode cX1_factorWorth 4 = .ok (.iload_n 1, 1) := by decide +kernel
theorem dX1_factorWorth_5 : decode cX1_factorWorth 5 = .ok (.aload_n 0, 1) := by decide +kernel
theorem dX1_factorWorth_6 : decode cX1_factorWorth 6 = .ok (.getfield 15, 3) := by decide +kernel
theorem dX1_factorWorth_9 : decode cX1_factorWorth 9 = .ok (.arraylength, 1) := by decide +kernel
theorem dX1_factorWorth_10 : decode cX1_factorWorth 10 = .ok (.if_icmp .ge 12, 3) := by decide +kernel
theorem dX1_factorWorth_13 : decode cX1_factorWorth 13 = .ok (.aload_n 0, 1) := by decide +kernel
theorem dX1_factorWorth_14 : decode cX1_factorWorth 14 = .ok (.getfield 15, 3) := by decide +kernel
theorem dX1_factorWorth_17 : decode cX1_factorWorth 17 = .ok (.iload_n 1, 1) := by decide +kernel
theorem dX1_factorWorth_18 : decode cX1_factorWorth 18 = .ok (.iaload, 1) := by decide +kernel
theorem dX1_factorWorth_19 : decode cX1_factorWorth 19 = .ok (.goto 4, 3) := by decide +kernel
theorem dX1_factorWorth_22 : decode cX1_factorWorth 22 = .ok (.iconst 0, 1) := by decide +kernel
theorem dX1_factorWorth_23 : decode cX1_factorWorth 23 = .ok (.istore_n 3, 1) := by decide +kernel
theorem dX1_factorWorth_24 : decode cX1_factorWorth 24 = .ok (.iload_n 3, 1) := by decide +kernel
theorem dX1_factorWorth_25 : decode cX1_factorWorth 25 = .ok (.ifCond .ge 9, 3) := by decide +kernel
theorem dX1_factorWorth_28 : decode cX1_factorWorth 28 = .ok (.iconst (-1), 1) := by decide +kernel
theorem dX1_factorWorth_29 : decode cX1_factorWorth 29 = .ok (.iload_n 3, 1) := by decide +kernel
theorem dX1_factorWorth_30 : decode cX1_factorWorth 30 = .ok (.isub, 1) := by decide +kernel
theorem dX1_factorWorth_31 : decode cX1_factorWorth 31 = .ok (.goto 4, 3) := by decide +kernel
theorem dX1_factorWorth_34 : decode cX1_factorWorth 34 = .ok (.iload_n 3, 1) := by decide +kernel
theorem dX1_factorWorth_35 : decode cX1_factorWorth 35 = .ok (.istore 4, 2) := by decide +kernel
theorem dX1_factorWorth_37 : decode cX1_factorWorth 37 = .ok (.iload 4, 2) := by decide +kernel
theorem dX1_factorWorth_39 : decode cX1_factorWorth 39 = .ok (.sipush 1000, 3) := by decide +kernel
theorem dX1_factorWorth_42 : decode cX1_factorWorth 42 = .ok (.isub, 1) := by decide +kernel
theorem dX1_factorWorth_43 : decode cX1_factorWorth 43 = .ok (.istore 5, 2) := by decide +kernel
theorem dX1_factorWorth_45 : decode cX1_factorWorth 45 = .ok (.iload 5, 2) := by decide +kernel
theorem dX1_factorWorth_47 : decode cX1_factorWorth 47 = .ok (.ifCond .lt 17, 3) := by decide +kernel
theorem dX1_factorWorth_50 : decode cX1_factorWorth 50 = .ok (.iload 5, 2) := by decide +kernel
theorem dX1_factorWorth_52 : decode cX1_factorWorth 52 = .ok (.aload_n 2, 1) := by decide +kernel
theorem dX1_factorWorth_53 : decode cX1_factorWorth 53 = .ok (.arraylength, 1) := by decide +kernel
theorem dX1_factorWorth_54 : decode cX1_factorWorth 54 = .ok (.if_icmp .ge 10, 3) := by decide +kernel
theorem dX1_factorWorth_57 : decode cX1_factorWorth 57 = .ok (.aload_n 2, 1) := by decide +kernel
theorem dX1_factorWorth_58 : decode cX1_factorWorth 58 = .ok (.iload 5, 2) := by decide +kernel
theorem dX1_factorWorth_60 : decode cX1_factorWorth 60 = .ok (.iaload, 1) := by decide +kernel
theorem dX1_factorWorth_61 : decode cX1_factorWorth 61 = .ok (.goto 5, 3) := by decide +kernel
theorem dX1_factorWorth_64 : decode cX1_factorWorth 64 = .ok (.iload 4, 2) := by decide +kernel
theorem dX1_factorWorth_66 : decode cX1_factorWorth 66 = .ok (.istore 6, 2) := by decide +kernel
theorem dX1_factorWorth_68 : decode cX1_factorWorth 68 = .ok (.iload_n 3, 1) := by decide +kernel
theorem dX1_factorWorth_69 : decode cX1_factorWorth 69 = .ok (.ifCond .ge 9, 3) := by decide +kernel
theorem dX1_factorWorth_72 : decode cX1_factorWorth 72 = .ok (.iload 6, 2) := by decide +kernel
theorem dX1_factorWorth_74 : decode cX1_factorWorth 74 = .ok (.ineg, 1) := by decide +kernel
theorem dX1_factorWorth_75 : decode cX1_factorWorth 75 = .ok (.goto 5, 3) := by decide +kernel
theorem dX1_factorWorth_78 : decode cX1_factorWorth 78 = .ok (.iload 6, 2) := by decide +kernel
theorem dX1_factorWorth_80 : decode cX1_factorWorth 80 = .ok (.ireturn, 1) := by decide +kernel
theorem dX2_init_0 : decode cX2_init 0 = .ok (.aload_n 0, 1) := by decide +kernel
theorem dX2_init_1 : decode cX2_init 1 = .ok (.invokespecial 3, 3) := by decide +kernel
theorem dX2_init_4 : decode cX2_init 4 = .ok (.aload_n 0, 1) := by decide +kernel
theorem dX2_init_5 : decode cX2_init 5 = .ok (.new 9, 3) := by decide +kernel
theorem dX2_init_8 : decode cX2_init 8 = .ok (.dup, 1) := by decide +kernel
theorem dX2_init_9 : decode cX2_init 9 = .ok (.invokespecial 11, 3) := by decide +kernel
theorem dX2_init_12 : decode cX2_init 12 = .ok (.putfield 12, 3) := by decide +kernel
theorem dX2_init_15 : decode cX2_init 15 = .ok (.aload_n 0, 1) := by decide +kernel
theorem dX2_init_16 : decode cX2_init 16 = .ok (.bipush 6, 2) := by decide +kernel
theorem dX2_init_18 : decode cX2_init 18 = .ok (.newarray .int, 2) := by decide +kernel
theorem dX2_init_20 : decode cX2_init 20 = .ok (.putfield 18, 3) := by decide +kernel
theorem dX2_init_23 : decode cX2_init 23 = .ok (.return_, 1) := by decide +kernel
theorem dX2_left_0 : decode cX2_left 0 = .ok (.aload_n 0, 1) := by decide +kernel
theorem dX2_left_1 : decode cX2_left 1 = .ok (.getfield 36, 3) := by decide +kernel
theorem dX2_left_4 : decode cX2_left 4 = .ok (.aload_n 0, 1) := by decide +kernel
theorem dX2_left_5 : decode cX2_left 5 = .ok (.getfield 39, 3) := by decide +kernel
theorem dX2_left_8 : decode cX2_left 8 = .ok (.isub, 1) := by decide +kernel
theorem dX2_left_9 : decode cX2_left 9 = .ok (.ireturn, 1) := by decide +kernel
theorem dX2_amongAt_0 : decode cX2_amongAt 0 = .ok (.iload_n 1, 1) := by decide +kernel
theorem dX2_amongAt_1 : decode cX2_amongAt 1 = .ok (.ifCond .lt 21, 3) := by decide +kernel
theorem dX2_amongAt_4 : decode cX2_amongAt 4 = .ok (.iload_n 1, 1) := by decide +kernel
theorem dX2_amongAt_5 : decode cX2_amongAt 5 = .ok (.aload_n 0, 1) := by decide +kernel
theorem dX2_amongAt_6 : decode cX2_amongAt 6 = .ok (.getfield 18, 3) := by decide +kernel
theorem dX2_amongAt_9 : decode cX2_amongAt 9 = .ok (.arraylength, 1) := by decide +kernel
theorem dX2_amongAt_10 : decode cX2_amongAt 10 = .ok (.if_icmp .ge 12, 3) := by decide +kernel
theorem dX2_amongAt_13 : decode cX2_amongAt 13 = .ok (.aload_n 0, 1) := by decide +kernel
theorem dX2_amongAt_14 : decode cX2_amongAt 14 = .ok (.getfield 18, 3) := by decide +kernel
theorem dX2_amongAt_17 : decode cX2_amongAt 17 = .ok (.iload_n 1, 1) := by decide +kernel
theorem dX2_amongAt_18 : decode cX2_amongAt 18 = .ok (.iaload, 1) := by decide +kernel
theorem dX2_amongAt_19 : decode cX2_amongAt 19 = .ok (.goto 4, 3) := by decide +kernel
theorem dX2_amongAt_22 : decode cX2_amongAt 22 = .ok (.iconst 0, 1) := by decide +kernel
theorem dX2_amongAt_23 : decode cX2_amongAt 23 = .ok (.ireturn, 1) := by decide +kernel
theorem dX2_weight_0 : decode cX2_weight 0 = .ok (.iload_n 1, 1) := by decide +kernel
theorem dX2_weight_1 : decode cX2_weight 1 = .ok (.iconst 2, 1) := by decide +kernel
theorem dX2_weight_2 : decode cX2_weight 2 = .ok (.if_icmp .eq 8, 3) := by decide +kernel
theorem dX2_weight_5 : decode cX2_weight 5 = .ok (.iload_n 1, 1) := by decide +kernel
theorem dX2_weight_6 : decode cX2_weight 6 = .ok (.iconst 3, 1) := by decide +kernel
theorem dX2_weight_7 : decode cX2_weight 7 = .ok (.if_icmp .ne 8, 3) := by decide +kernel
theorem dX2_weight_10 : decode cX2_weight 10 = .ok (.aload_n 0, 1) := by decide +kernel
theorem dX2_weight_11 : decode cX2_weight 11 = .ok (.getfield 42, 3) := by decide +kernel
theorem dX2_weight_14 : decode cX2_weight 14 = .ok (.ireturn, 1) := by decide +kernel
theorem dX2_weight_15 : decode cX2_weight 15 = .ok (.iload_n 1, 1) := by decide +kernel
theorem dX2_weight_16 : decode cX2_weight 16 = .ok (.iconst 4, 1) := by decide +kernel
theorem dX2_weight_17 : decode cX2_weight 17 = .ok (.if_icmp .ne 24, 3) := by decide +kernel
theorem dX2_weight_20 : decode cX2_weight 20 = .ok (.aload_n 0, 1) := by decide +kernel
theorem dX2_weight_21 : decode cX2_weight 21 = .ok (.getfield 12, 3) := by decide +kernel
theorem dX2_weight_24 : decode cX2_weight 24 = .ok (.getfield 48, 3) := by decide +kernel
theorem dX2_weight_27 : decode cX2_weight 27 = .ok (.aload_n 0, 1) := by decide +kernel
theorem dX2_weight_28 : decode cX2_weight 28 = .ok (.getfield 39, 3) := by decide +kernel
theorem dX2_weight_31 : decode cX2_weight 31 = .ok (.ifCond .le 7, 3) := by decide +kernel
theorem dX2_weight_34 : decode cX2_weight 34 = .ok (.iconst 1, 1) := by decide +kernel
theorem dX2_weight_35 : decode cX2_weight 35 = .ok (.goto 4, 3) := by decide +kernel
theorem dX2_weight_38 : decode cX2_weight 38 = .ok (.iconst 0, 1) := by decide +kernel
theorem dX2_weight_39 : decode cX2_weight 39 = .ok (.iadd, 1) := by decide +kernel
theorem dX2_weight_40 : decode cX2_weight 40 = .ok (.ireturn, 1) := by decide +kernel
theorem dX2_weight_41 : decode cX2_weight 41 = .ok (.iconst 0, 1) := by decide +kernel
theorem dX2_weight_42 : decode cX2_weight 42 = .ok (.ireturn, 1) := by decide +kernel
theorem dX3_init_0 : decode cX3_init 0 = .ok (.aload_n 0, 1) := by decide +kernel
theorem dX3_init_1 : decode cX3_init 1 = .ok (.invokespecial 3, 3) := by decide +kernel
theorem dX3_init_4 : decode cX3_init 4 = .ok (.aload_n 0, 1) := by decide +kernel
theorem dX3_init_5 : decode cX3_init 5 = .ok (.bipush 31, 2) := by decide +kernel
theorem dX3_init_7 : decode cX3_init 7 = .ok (.anewarray 9, 3) := by decide +kernel
theorem dX3_init_10 : decode cX3_init 10 = .ok (.putfield 11, 3) := by decide +kernel
theorem dX3_init_13 : decode cX3_init 13 = .ok (.iconst 0, 1) := by decide +kernel
theorem dX3_init_14 : decode cX3_init 14 = .ok (.istore_n 1, 1) := by decide +kernel
theorem dX3_init_15 : decode cX3_init 15 = .ok (.iload_n 1, 1) := by decide +kernel
theorem dX3_init_16 : decode cX3_init 16 = .ok (.aload_n 0, 1) := by decide +kernel
theorem dX3_init_17 : decode cX3_init 17 = .ok (.getfield 11, 3) := by decide +kernel
theorem dX3_init_20 : decode cX3_init 20 = .ok (.arraylength, 1) := by decide +kernel
theorem dX3_init_21 : decode cX3_init 21 = .ok (.if_icmp .ge 22, 3) := by decide +kernel
theorem dX3_init_24 : decode cX3_init 24 = .ok (.aload_n 0, 1) := by decide +kernel
theorem dX3_init_25 : decode cX3_init 25 = .ok (.getfield 11, 3) := by decide +kernel
theorem dX3_init_28 : decode cX3_init 28 = .ok (.iload_n 1, 1) := by decide +kernel
theorem dX3_init_29 : decode cX3_init 29 = .ok (.new 9, 3) := by decide +kernel
theorem dX3_init_32 : decode cX3_init 32 = .ok (.dup, 1) := by decide +kernel
theorem dX3_init_33 : decode cX3_init 33 = .ok (.invokespecial 17, 3) := by decide +kernel
theorem dX3_init_36 : decode cX3_init 36 = .ok (.aastore, 1) := by decide +kernel
theorem dX3_init_37 : decode cX3_init 37 = .ok (.iinc 1 1, 3) := by decide +kernel
theorem dX3_init_40 : decode cX3_init 40 = .ok (.goto (-25), 3) := by decide +kernel
theorem dX3_init_43 : decode cX3_init 43 = .ok (.return_, 1) := by decide +kernel
theorem dX3_spare_0 : decode cX3_spare 0 = .ok (.aload_n 0, 1) := by decide +kernel
theorem dX3_spare_1 : decode cX3_spare 1 = .ok (.getfield 18, 3) := by decide +kernel
theorem dX3_spare_4 : decode cX3_spare 4 = .ok (.ifCond .lt 27, 3) := by decide +kernel
theorem dX3_spare_7 : decode cX3_spare 7 = .ok (.aload_n 0, 1) := by decide +kernel
theorem dX3_spare_8 : decode cX3_spare 8 = .ok (.getfield 18, 3) := by decide +kernel
theorem dX3_spare_11 : decode cX3_spare 11 = .ok (.aload_n 0, 1) := by decide +kernel
theorem dX3_spare_12 : decode cX3_spare 12 = .ok (.getfield 11, 3) := by decide +kernel
theorem dX3_spare_15 : decode cX3_spare 15 = .ok (.arraylength, 1) := by decide +kernel
theorem dX3_spare_16 : decode cX3_spare 16 = .ok (.if_icmp .ge 15, 3) := by decide +kernel
theorem dX3_spare_19 : decode cX3_spare 19 = .ok (.aload_n 0, 1) := by decide +kernel
theorem dX3_spare_20 : decode cX3_spare 20 = .ok (.getfield 11, 3) := by decide +kernel
theorem dX3_spare_23 : decode cX3_spare 23 = .ok (.aload_n 0, 1) := by decide +kernel
theorem dX3_spare_24 : decode cX3_spare 24 = .ok (.getfield 18, 3) := by decide +kernel
theorem dX3_spare_27 : decode cX3_spare 27 = .ok (.aaload, 1) := by decide +kernel
theorem dX3_spare_28 : decode cX3_spare 28 = .ok (.goto 4, 3) := by decide +kernel
theorem dX3_spare_31 : decode cX3_spare 31 = .ok (.aconst_null, 1) := by decide +kernel
theorem dX3_spare_32 : decode cX3_spare 32 = .ok (.areturn, 1) := by decide +kernel
theorem dX3_openAt_0 : decode cX3_openAt 0 = .ok (.iload_n 1, 1) := by decide +kernel
theorem dX3_openAt_1 : decode cX3_openAt 1 = .ok (.ifCond .lt 29, 3) := by decide +kernel
theorem dX3_openAt_4 : decode cX3_openAt 4 = .ok (.iload_n 1, 1) := by decide +kernel
theorem dX3_openAt_5 : decode cX3_openAt 5 = .ok (.aload_n 0, 1) := by decide +kernel
theorem dX3_openAt_6 : decode cX3_openAt 6 = .ok (.getfield 18, 3) := by decide +kernel
theorem dX3_openAt_9 : decode cX3_openAt 9 = .ok (.if_icmp .ge 21, 3) := by decide +kernel
theorem dX3_openAt_12 : decode cX3_openAt 12 = .ok (.iload_n 1, 1) := by decide +kernel
theorem dX3_openAt_13 : decode cX3_openAt 13 = .ok (.aload_n 0, 1) := by decide +kernel
theorem dX3_openAt_14 : decode cX3_openAt 14 = .ok (.getfield 11, 3) := by decide +kernel
theorem dX3_openAt_17 : decode cX3_openAt 17 = .ok (.arraylength, 1) := by decide +kernel
theorem dX3_openAt_18 : decode cX3_openAt 18 = .ok (.if_icmp .ge 12, 3) := by decide +kernel
theorem dX3_openAt_21 : decode cX3_openAt 21 = .ok (.aload_n 0, 1) := by decide +kernel
theorem dX3_openAt_22 : decode cX3_openAt 22 = .ok (.getfield 11, 3) := by decide +kernel
theorem dX3_openAt_25 : decode cX3_openAt 25 = .ok (.iload_n 1, 1) := by decide +kernel
theorem dX3_openAt_26 : decode cX3_openAt 26 = .ok (.aaload, 1) := by decide +kernel
theorem dX3_openAt_27 : decode cX3_openAt 27 = .ok (.goto 4, 3) := by decide +kernel
theorem dX3_openAt_30 : decode cX3_openAt 30 = .ok (.aconst_null, 1) := by decide +kernel
theorem dX3_openAt_31 : decode cX3_openAt 31 = .ok (.areturn, 1) := by decide +kernel
theorem dX3_remove_0 : decode cX3_remove 0 = .ok (.iload_n 1, 1) := by decide +kernel
theorem dX3_remove_1 : decode cX3_remove 1 = .ok (.ifCond .lt 23, 3) := by decide +kernel
theorem dX3_remove_4 : decode cX3_remove 4 = .ok (.iload_n 1, 1) := by decide +kernel
theorem dX3_remove_5 : decode cX3_remove 5 = .ok (.aload_n 0, 1) := by decide +kernel
theorem dX3_remove_6 : decode cX3_remove 6 = .ok (.getfield 18, 3) := by decide +kernel
theorem dX3_remove_9 : decode cX3_remove 9 = .ok (.if_icmp .ge 15, 3) := by decide +kernel
theorem dX3_remove_12 : decode cX3_remove 12 = .ok (.aload_n 0, 1) := by decide +kernel
theorem dX3_remove_13 : decode cX3_remove 13 = .ok (.getfield 18, 3) := by decide +kernel
theorem dX3_remove_16 : decode cX3_remove 16 = .ok (.aload_n 0, 1) := by decide +kernel
theorem dX3_remove_17 : decode cX3_remove 17 = .ok (.getfield 11, 3) := by decide +kernel
theorem dX3_remove_20 : decode cX3_remove 20 = .ok (.arraylength, 1) := by decide +kernel
theorem dX3_remove_21 : decode cX3_remove 21 = .ok (.if_icmp .le 4, 3) := by decide +kernel
theorem dX3_remove_24 : decode cX3_remove 24 = .ok (.return_, 1) := by decide +kernel
theorem dX3_remove_25 : decode cX3_remove 25 = .ok (.aload_n 0, 1) := by decide +kernel
theorem dX3_remove_26 : decode cX3_remove 26 = .ok (.getfield 11, 3) := by decide +kernel
theorem dX3_remove_29 : decode cX3_remove 29 = .ok (.iload_n 1, 1) := by decide +kernel
theorem dX3_remove_30 : decode cX3_remove 30 = .ok (.aaload, 1) := by decide +kernel
theorem dX3_remove_31 : decode cX3_remove 31 = .ok (.astore_n 3, 1) := by decide +kernel
theorem dX3_remove_32 : decode cX3_remove 32 = .ok (.iload_n 1, 1) := by decide +kernel
theorem dX3_remove_33 : decode cX3_remove 33 = .ok (.istore 4, 2) := by decide +kernel
theorem dX3_remove_35 : decode cX3_remove 35 = .ok (.iload 4, 2) := by decide +kernel
theorem dX3_remove_37 : decode cX3_remove 37 = .ok (.iconst 1, 1) := by decide +kernel
theorem dX3_remove_38 : decode cX3_remove 38 = .ok (.iadd, 1) := by decide +kernel
theorem dX3_remove_39 : decode cX3_remove 39 = .ok (.aload_n 0, 1) := by decide +kernel
theorem dX3_remove_40 : decode cX3_remove 40 = .ok (.getfield 18, 3) := by decide +kernel
theorem dX3_remove_43 : decode cX3_remove 43 = .ok (.if_icmp .ge 25, 3) := by decide +kernel
theorem dX3_remove_46 : decode cX3_remove 46 = .ok (.aload_n 0, 1) := by decide +kernel
theorem dX3_remove_47 : decode cX3_remove 47 = .ok (.getfield 11, 3) := by decide +kernel
theorem dX3_remove_50 : decode cX3_remove 50 = .ok (.iload 4, 2) := by decide +kernel
theorem dX3_remove_52 : decode cX3_remove 52 = .ok (.aload_n 0, 1) := by decide +kernel
theorem dX3_remove_53 : decode cX3_remove 53 = .ok (.getfield 11, 3) := by decide +kernel
theorem dX3_remove_56 : decode cX3_remove 56 = .ok (.iload 4, 2) := by decide +kernel
theorem dX3_remove_58 : decode cX3_remove 58 = .ok (.iconst 1, 1) := by decide +kernel
theorem dX3_remove_59 : decode cX3_remove 59 = .ok (.iadd, 1) := by decide +kernel
theorem dX3_remove_60 : decode cX3_remove 60 = .ok (.aaload, 1) := by decide +kernel
theorem dX3_remove_61 : decode cX3_remove 61 = .ok (.aastore, 1) := by decide +kernel
theorem dX3_remove_62 : decode cX3_remove 62 = .ok (.iinc 4 1, 3) := by decide +kernel
theorem dX3_remove_65 : decode cX3_remove 65 = .ok (.goto (-30), 3) := by decide +kernel
theorem dX3_remove_68 : decode cX3_remove 68 = .ok (.aload_n 0, 1) := by decide +kernel
theorem dX3_remove_69 : decode cX3_remove 69 = .ok (.dup, 1) := by decide +kernel
theorem dX3_remove_70 : decode cX3_remove 70 = .ok (.getfield 18, 3) := by decide +kernel
theorem dX3_remove_73 : decode cX3_remove 73 = .ok (.iconst 1, 1) := by decide +kernel
theorem dX3_remove_74 : decode cX3_remove 74 = .ok (.isub, 1) := by decide +kernel
theorem dX3_remove_75 : decode cX3_remove 75 = .ok (.putfield 18, 3) := by decide +kernel
theorem dX3_remove_78 : decode cX3_remove 78 = .ok (.aload_n 0, 1) := by decide +kernel
theorem dX3_remove_79 : decode cX3_remove 79 = .ok (.getfield 11, 3) := by decide +kernel
theorem dX3_remove_82 : decode cX3_remove 82 = .ok (.aload_n 0, 1) := by decide +kernel
theorem dX3_remove_83 : decode cX3_remove 83 = .ok (.getfield 18, 3) := by decide +kernel
theorem dX3_remove_86 : decode cX3_remove 86 = .ok (.aload_n 3, 1) := by decide +kernel
theorem dX3_remove_87 : decode cX3_remove 87 = .ok (.aastore, 1) := by decide +kernel
theorem dX3_remove_88 : decode cX3_remove 88 = .ok (.iconst 0, 1) := by decide +kernel
theorem dX3_remove_89 : decode cX3_remove 89 = .ok (.istore 4, 2) := by decide +kernel
theorem dX3_remove_91 : decode cX3_remove 91 = .ok (.iload 4, 2) := by decide +kernel
theorem dX3_remove_93 : decode cX3_remove 93 = .ok (.aload_n 0, 1) := by decide +kernel
theorem dX3_remove_94 : decode cX3_remove 94 = .ok (.getfield 18, 3) := by decide +kernel
theorem dX3_remove_97 : decode cX3_remove 97 = .ok (.if_icmp .ge 39, 3) := by decide +kernel
theorem dX3_remove_100 : decode cX3_remove 100 = .ok (.aload_n 0, 1) := by decide +kernel
theorem dX3_remove_101 : decode cX3_remove 101 = .ok (.getfield 11, 3) := by decide +kernel
theorem dX3_remove_104 : decode cX3_remove 104 = .ok (.iload 4, 2) := by decide +kernel
theorem dX3_remove_106 : decode cX3_remove 106 = .ok (.aaload, 1) := by decide +kernel
theorem dX3_remove_107 : decode cX3_remove 107 = .ok (.getfield 26, 3) := by decide +kernel
theorem dX3_remove_110 : decode cX3_remove 110 = .ok (.aload_n 0, 1) := by decide +kernel
theorem dX3_remove_111 : decode cX3_remove 111 = .ok (.getfield 11, 3) := by decide +kernel
theorem dX3_remove_114 : decode cX3_remove 114 = .ok (.iload 4, 2) := by decide +kernel
theorem dX3_remove_116 : decode cX3_remove 116 = .ok (.aaload, 1) := by decide +kernel
theorem dX3_remove_117 : decode cX3_remove 117 = .ok (.getfield 26, 3) := by decide +kernel
theorem dX3_remove_120 : decode cX3_remove 120 = .ok (.getfield 30, 3) := by decide +kernel
theorem dX3_remove_123 : decode cX3_remove 123 = .ok (.iload_n 1, 1) := by decide +kernel
theorem dX3_remove_124 : decode cX3_remove 124 = .ok (.invokestatic 35, 3) := by decide +kernel
theorem dX3_remove_127 : decode cX3_remove 127 = .ok (.putfield 30, 3) := by decide +kernel
theorem dX3_remove_130 : decode cX3_remove 130 = .ok (.iinc 4 1, 3) := by decide +kernel
theorem dX3_remove_133 : decode cX3_remove 133 = .ok (.goto (-42), 3) := by decide +kernel
theorem dX3_remove_136 : decode cX3_remove 136 = .ok (.aload_n 2, 1) := by decide +kernel
theorem dX3_remove_137 : decode cX3_remove 137 = .ok (.aload_n 2, 1) := by decide +kernel
theorem dX3_remove_138 : decode cX3_remove 138 = .ok (.getfield 30, 3) := by decide +kernel
theorem dX3_remove_141 : decode cX3_remove 141 = .ok (.iload_n 1, 1) := by decide +kernel
theorem dX3_remove_142 : decode cX3_remove 142 = .ok (.invokestatic 35, 3) := by decide +kernel
theorem dX3_remove_145 : decode cX3_remove 145 = .ok (.putfield 30, 3) := by decide +kernel
theorem dX3_remove_148 : decode cX3_remove 148 = .ok (.return_, 1) := by decide +kernel
theorem dX3_withoutBit_0 : decode cX3_withoutBit 0 = .ok (.iload_n 0, 1) := by decide +kernel
theorem dX3_withoutBit_1 : decode cX3_withoutBit 1 = .ok (.iconst 1, 1) := by decide +kernel
theorem dX3_withoutBit_2 : decode cX3_withoutBit 2 = .ok (.iload_n 1, 1) := by decide +kernel
theorem dX3_withoutBit_3 : decode cX3_withoutBit 3 = .ok (.ishl, 1) := by decide +kernel
theorem dX3_withoutBit_4 : decode cX3_withoutBit 4 = .ok (.iconst 1, 1) := by decide +kernel
theorem dX3_withoutBit_5 : decode cX3_withoutBit 5 = .ok (.isub, 1) := by decide +kernel
theorem dX3_withoutBit_6 : decode cX3_withoutBit 6 = .ok (.iand, 1) := by decide +kernel
theorem dX3_withoutBit_7 : decode cX3_withoutBit 7 = .ok (.istore_n 2, 1) := by decide +kernel
theorem dX3_withoutBit_8 : decode cX3_withoutBit 8 = .ok (.iload_n 0, 1) := by decide +kernel
theorem dX3_withoutBit_9 : decode cX3_withoutBit 9 = .ok (.iload_n 1, 1) := by decide +kernel
theorem dX3_withoutBit_10 : decode cX3_withoutBit 10 = .ok (.iconst 1, 1) := by decide +kernel
theorem dX3_withoutBit_11 : decode cX3_withoutBit 11 = .ok (.iadd, 1) := by decide +kernel
theorem dX3_withoutBit_12 : decode cX3_withoutBit 12 = .ok (.iushr, 1) := by decide +kernel
theorem dX3_withoutBit_13 : decode cX3_withoutBit 13 = .ok (.iload_n 1, 1) := by decide +kernel
theorem dX3_withoutBit_14 : decode cX3_withoutBit 14 = .ok (.ishl, 1) := by decide +kernel
theorem dX3_withoutBit_15 : decode cX3_withoutBit 15 = .ok (.istore_n 3, 1) := by decide +kernel
theorem dX3_withoutBit_16 : decode cX3_withoutBit 16 = .ok (.iload_n 2, 1) := by decide +kernel
theorem dX3_withoutBit_17 : decode cX3_withoutBit 17 = .ok (.iload_n 3, 1) := by decide +kernel
theorem dX3_withoutBit_18 : decode cX3_withoutBit 18 = .ok (.ior, 1) := by decide +kernel
theorem dX3_withoutBit_19 : decode cX3_withoutBit 19 = .ok (.ireturn, 1) := by decide +kernel
theorem dX3_drop_0 : decode cX3_drop 0 = .ok (.iconst 0, 1) := by decide +kernel
theorem dX3_drop_1 : decode cX3_drop 1 = .ok (.istore_n 3, 1) := by decide +kernel
theorem dX3_drop_2 : decode cX3_drop 2 = .ok (.aload_n 0, 1) := by decide +kernel
theorem dX3_drop_3 : decode cX3_drop 3 = .ok (.getfield 18, 3) := by decide +kernel
theorem dX3_drop_6 : decode cX3_drop 6 = .ok (.iconst 1, 1) := by decide +kernel
theorem dX3_drop_7 : decode cX3_drop 7 = .ok (.isub, 1) := by decide +kernel
theorem dX3_drop_8 : decode cX3_drop 8 = .ok (.istore 4, 2) := by decide +kernel
theorem dX3_drop_10 : decode cX3_drop 10 = .ok (.iload 4, 2) := by decide +kernel
theorem dX3_drop_12 : decode cX3_drop 12 = .ok (.ifCond .lt 69, 3) := by decide +kernel
theorem dX3_drop_15 : decode cX3_drop 15 = .ok (.aload_n 0, 1) := by decide +kernel
theorem dX3_drop_16 : decode cX3_drop 16 = .ok (.iload 4, 2) := by decide +kernel
theorem dX3_drop_18 : decode cX3_drop 18 = .ok (.invokevirtual 39, 3) := by decide +kernel
theorem dX3_drop_21 : decode cX3_drop 21 = .ok (.astore 5, 2) := by decide +kernel
theorem dX3_drop_23 : decode cX3_drop 23 = .ok (.aload_n 1, 1) := by decide +kernel
theorem dX3_drop_24 : decode cX3_drop 24 = .ok (.getfield 30, 3) := by decide +kernel
theorem dX3_drop_27 : decode cX3_drop 27 = .ok (.iload 4, 2) := by decide +kernel
theorem dX3_drop_29 : decode cX3_drop 29 = .ok (.iushr, 1) := by decide +kernel
theorem dX3_drop_30 : decode cX3_drop 30 = .ok (.iconst 1, 1) := by decide +kernel
theorem dX3_drop_31 : decode cX3_drop 31 = .ok (.iand, 1) := by decide +kernel
theorem dX3_drop_32 : decode cX3_drop 32 = .ok (.iconst 1, 1) := by decide +kernel
theorem dX3_drop_33 : decode cX3_drop 33 = .ok (.if_icmp .ne 7, 3) := by decide +kernel
theorem dX3_drop_36 : decode cX3_drop 36 = .ok (.iconst 1, 1) := by decide +kernel
theorem dX3_drop_37 : decode cX3_drop 37 = .ok (.goto 4, 3) := by decide +kernel
theorem dX3_drop_40 : decode cX3_drop 40 = .ok (.iconst 0, 1) := by decide +kernel
theorem dX3_drop_41 : decode cX3_drop 41 = .ok (.istore 6, 2) := by decide +kernel
theorem dX3_drop_43 : decode cX3_drop 43 = .ok (.aload 5, 2) := by decide +kernel
theorem dX3_drop_45 : decode cX3_drop 45 = .ok (.ifnull 30, 3) := by decide +kernel
theorem dX3_drop_48 : decode cX3_drop 48 = .ok (.iload 6, 2) := by decide +kernel
theorem dX3_drop_50 : decode cX3_drop 50 = .ok (.ifCond .eq 25, 3) := by decide +kernel
theorem dX3_drop_53 : decode cX3_drop 53 = .ok (.aload 5, 2) := by decide +kernel
theorem dX3_drop_55 : decode cX3_drop 55 = .ok (.getfield 26, 3) := by decide +kernel
theorem dX3_drop_58 : decode cX3_drop 58 = .ok (.getfield 43, 3) := by decide +kernel
theorem dX3_drop_61 : decode cX3_drop 61 = .ok (.iload_n 2, 1) := by decide +kernel
theorem dX3_drop_62 : decode cX3_drop 62 = .ok (.if_icmp .lt 13, 3) := by decide +kernel
theorem dX3_drop_65 : decode cX3_drop 65 = .ok (.aload_n 0, 1) := by decide +kernel
theorem dX3_drop_66 : decode cX3_drop 66 = .ok (.iload 4, 2) := by decide +kernel
theorem dX3_drop_68 : decode cX3_drop 68 = .ok (.aload_n 1, 1) := by decide +kernel
theorem dX3_drop_69 : decode cX3_drop 69 = .ok (.invokevirtual 46, 3) := by decide +kernel
theorem dX3_drop_72 : decode cX3_drop 72 = .ok (.iinc 3 1, 3) := by decide +kernel
theorem dX3_drop_75 : decode cX3_drop 75 = .ok (.iinc 4 (-1), 3) := by decide +kernel
theorem dX3_drop_78 : decode cX3_drop 78 = .ok (.goto (-68), 3) := by decide +kernel
theorem dX3_drop_81 : decode cX3_drop 81 = .ok (.iload_n 3, 1) := by decide +kernel
theorem dX3_drop_82 : decode cX3_drop 82 = .ok (.ireturn, 1) := by decide +kernel
theorem dX4_init_0 : decode cX4_init 0 = .ok (.aload_n 0, 1) := by decide +kernel
theorem dX4_init_1 : decode cX4_init 1 = .ok (.invokespecial 3, 3) := by decide +kernel
theorem dX4_init_4 : decode cX4_init 4 = .ok (.aload_n 0, 1) := by decide +kernel
theorem dX4_init_5 : decode cX4_init 5 = .ok (.bipush 40, 2) := by decide +kernel
theorem dX4_init_7 : decode cX4_init 7 = .ok (.newarray .int, 2) := by decide +kernel
theorem dX4_init_9 : decode cX4_init 9 = .ok (.putfield 9, 3) := by decide +kernel
theorem dX4_init_12 : decode cX4_init 12 = .ok (.aload_n 0, 1) := by decide +kernel
theorem dX4_init_13 : decode cX4_init 13 = .ok (.bipush 40, 2) := by decide +kernel
theorem dX4_init_15 : decode cX4_init 15 = .ok (.newarray .int, 2) := by decide +kernel
theorem dX4_init_17 : decode cX4_init 17 = .ok (.putfield 15, 3) := by decide +kernel
theorem dX4_init_20 : decode cX4_init 20 = .ok (.aload_n 0, 1) := by decide +kernel
theorem dX4_init_21 : decode cX4_init 21 = .ok (.bipush 40, 2) := by decide +kernel
theorem dX4_init_23 : decode cX4_init 23 = .ok (.newarray .int, 2) := by decide +kernel
theorem dX4_init_25 : decode cX4_init 25 = .ok (.putfield 18, 3) := by decide +kernel
theorem dX4_init_28 : decode cX4_init 28 = .ok (.aload_n 0, 1) := by decide +kernel
theorem dX4_init_29 : decode cX4_init 29 = .ok (.bipush 40, 2) := by decide +kernel
theorem dX4_init_31 : decode cX4_init 31 = .ok (.newarray .int, 2) := by decide +kernel
theorem dX4_init_33 : decode cX4_init 33 = .ok (.putfield 21, 3) := by decide +kernel
theorem dX4_init_36 : decode cX4_init 36 = .ok (.aload_n 0, 1) := by decide +kernel
theorem dX4_init_37 : decode cX4_init 37 = .ok (.bipush 40, 2) := by decide +kernel
theorem dX4_init_39 : decode cX4_init 39 = .ok (.newarray .int, 2) := by decide +kernel
theorem dX4_init_41 : decode cX4_init 41 = .ok (.putfield 24, 3) := by decide +kernel
theorem dX4_init_44 : decode cX4_init 44 = .ok (.aload_n 0, 1) := by decide +kernel
theorem dX4_init_45 : decode cX4_init 45 = .ok (.bipush 40, 2) := by decide +kernel
theorem dX4_init_47 : decode cX4_init 47 = .ok (.newarray .int, 2) := by decide +kernel
theorem dX4_init_49 : decode cX4_init 49 = .ok (.putfield 27, 3) := by decide +kernel
theorem dX4_init_52 : decode cX4_init 52 = .ok (.aload_n 0, 1) := by decide +kernel
theorem dX4_init_53 : decode cX4_init 53 = .ok (.bipush 40, 2) := by decide +kernel
theorem dX4_init_55 : decode cX4_init 55 = .ok (.newarray .int, 2) := by decide +kernel
theorem dX4_init_57 : decode cX4_init 57 = .ok (.putfield 30, 3) := by decide +kernel
theorem dX4_init_60 : decode cX4_init 60 = .ok (.aload_n 0, 1) := by decide +kernel
theorem dX4_init_61 : decode cX4_init 61 = .ok (.sipush 240, 3) := by decide +kernel
theorem dX4_init_64 : decode cX4_init 64 = .ok (.newarray .int, 2) := by decide +kernel
theorem dX4_init_66 : decode cX4_init 66 = .ok (.putfield 33, 3) := by decide +kernel
theorem dX4_init_69 : decode cX4_init 69 = .ok (.aload_n 0, 1) := by decide +kernel
theorem dX4_init_70 : decode cX4_init 70 = .ok (.new 36, 3) := by decide +kernel
theorem dX4_init_73 : decode cX4_init 73 = .ok (.dup, 1) := by decide +kernel
theorem dX4_init_74 : decode cX4_init 74 = .ok (.invokespecial 38, 3) := by decide +kernel
theorem dX4_init_77 : decode cX4_init 77 = .ok (.putfield 39, 3) := by decide +kernel
theorem dX4_init_80 : decode cX4_init 80 = .ok (.aload_n 0, 1) := by decide +kernel
theorem dX4_init_81 : decode cX4_init 81 = .ok (.new 36, 3) := by decide +kernel
theorem dX4_init_84 : decode cX4_init 84 = .ok (.dup, 1) := by decide +kernel
theorem dX4_init_85 : decode cX4_init 85 = .ok (.invokespecial 38, 3) := by decide +kernel
theorem dX4_init_88 : decode cX4_init 88 = .ok (.putfield 43, 3) := by decide +kernel
theorem dX4_init_91 : decode cX4_init 91 = .ok (.return_, 1) := by decide +kernel
theorem dX4_clear_0 : decode cX4_clear 0 = .ok (.aload_n 0, 1) := by decide +kernel
theorem dX4_clear_1 : decode cX4_clear 1 = .ok (.iconst 0, 1) := by decide +kernel
theorem dX4_clear_2 : decode cX4_clear 2 = .ok (.putfield 46, 3) := by decide +kernel
theorem dX4_clear_5 : decode cX4_clear 5 = .ok (.aload_n 0, 1) := by decide +kernel
theorem dX4_clear_6 : decode cX4_clear 6 = .ok (.getfield 39, 3) := by decide +kernel
theorem dX4_clear_9 : decode cX4_clear 9 = .ok (.invokevirtual 50, 3) := by decide +kernel
theorem dX4_clear_12 : decode cX4_clear 12 = .ok (.aload_n 0, 1) := by decide +kernel
theorem dX4_clear_13 : decode cX4_clear 13 = .ok (.getfield 43, 3) := by decide +kernel
theorem dX4_clear_16 : decode cX4_clear 16 = .ok (.invokevirtual 50, 3) := by decide +kernel
theorem dX4_clear_19 : decode cX4_clear 19 = .ok (.return_, 1) := by decide +kernel
theorem dX4_become_0 : decode cX4_become 0 = .ok (.aload_n 1, 1) := by decide +kernel
theorem dX4_become_1 : decode cX4_become 1 = .ok (.getfield 9, 3) := by decide +kernel
theorem dX4_become_4 : decode cX4_become 4 = .ok (.iconst 0, 1) := by decide +kernel
theorem dX4_become_5 : decode cX4_become 5 = .ok (.aload_n 0, 1) := by decide +kernel
theorem dX4_become_6 : decode cX4_become 6 = .ok (.getfield 9, 3) := by decide +kernel
theorem dX4_become_9 : decode cX4_become 9 = .ok (.iconst 0, 1) := by decide +kernel
theorem dX4_become_10 : decode cX4_become 10 = .ok (.bipush 40, 2) := by decide +kernel
theorem dX4_become_12 : decode cX4_become 12 = .ok (.invokestatic 53, 3) := by decide +kernel
theorem dX4_become_15 : decode cX4_become 15 = .ok (.aload_n 1, 1) := by decide +kernel
theorem dX4_become_16 : decode cX4_become 16 = .ok (.getfield 15, 3) := by decide +kernel
theorem dX4_become_19 : decode cX4_become 19 = .ok (.iconst 0, 1) := by decide +kernel
theorem dX4_become_20 : decode cX4_become 20 = .ok (.aload_n 0, 1) := by decide +kernel
theorem dX4_become_21 : decode cX4_become 21 = .ok (.getfield 15, 3) := by decide +kernel
theorem dX4_become_24 : decode cX4_become 24 = .ok (.iconst 0, 1) := by decide +kernel
theorem dX4_become_25 : decode cX4_become 25 = .ok (.bipush 40, 2) := by decide +kernel
theorem dX4_become_27 : decode cX4_become 27 = .ok (.invokestatic 53, 3) := by decide +kernel
theorem dX4_become_30 : decode cX4_become 30 = .ok (.aload_n 1, 1) := by decide +kernel
theorem dX4_become_31 : decode cX4_become 31 = .ok (.getfield 18, 3) := by decide +kernel
theorem dX4_become_34 : decode cX4_become 34 = .ok (.iconst 0, 1) := by decide +kernel
theorem dX4_become_35 : decode cX4_become 35 = .ok (.aload_n 0, 1) := by decide +kernel
theorem dX4_become_36 : decode cX4_become 36 = .ok (.getfield 18, 3) := by decide +kernel
theorem dX4_become_39 : decode cX4_become 39 = .ok (.iconst 0, 1) := by decide +kernel
theorem dX4_become_40 : decode cX4_become 40 = .ok (.bipush 40, 2) := by decide +kernel
theorem dX4_become_42 : decode cX4_become 42 = .ok (.invokestatic 53, 3) := by decide +kernel
theorem dX4_become_45 : decode cX4_become 45 = .ok (.aload_n 1, 1) := by decide +kernel
theorem dX4_become_46 : decode cX4_become 46 = .ok (.getfield 21, 3) := by decide +kernel
theorem dX4_become_49 : decode cX4_become 49 = .ok (.iconst 0, 1) := by decide +kernel
theorem dX4_become_50 : decode cX4_become 50 = .ok (.aload_n 0, 1) := by decide +kernel
theorem dX4_become_51 : decode cX4_become 51 = .ok (.getfield 21, 3) := by decide +kernel
theorem dX4_become_54 : decode cX4_become 54 = .ok (.iconst 0, 1) := by decide +kernel
theorem dX4_become_55 : decode cX4_become 55 = .ok (.bipush 40, 2) := by decide +kernel
theorem dX4_become_57 : decode cX4_become 57 = .ok (.invokestatic 53, 3) := by decide +kernel
theorem dX4_become_60 : decode cX4_become 60 = .ok (.aload_n 1, 1) := by decide +kernel
theorem dX4_become_61 : decode cX4_become 61 = .ok (.getfield 24, 3) := by decide +kernel
theorem dX4_become_64 : decode cX4_become 64 = .ok (.iconst 0, 1) := by decide +kernel
theorem dX4_become_65 : decode cX4_become 65 = .ok (.aload_n 0, 1) := by decide +kernel
theorem dX4_become_66 : decode cX4_become 66 = .ok (.getfield 24, 3) := by decide +kernel
theorem dX4_become_69 : decode cX4_become 69 = .ok (.iconst 0, 1) := by decide +kernel
theorem dX4_become_70 : decode cX4_become 70 = .ok (.bipush 40, 2) := by decide +kernel
theorem dX4_become_72 : decode cX4_become 72 = .ok (.invokestatic 53, 3) := by decide +kernel
theorem dX4_become_75 : decode cX4_become 75 = .ok (.aload_n 1, 1) := by decide +kernel
theorem dX4_become_76 : decode cX4_become 76 = .ok (.getfield 27, 3) := by decide +kernel
theorem dX4_become_79 : decode cX4_become 79 = .ok (.iconst 0, 1) := by decide +kernel
theorem dX4_become_80 : decode cX4_become 80 = .ok (.aload_n 0, 1) := by decide +kernel
theorem dX4_become_81 : decode cX4_become 81 = .ok (.getfield 27, 3) := by decide +kernel
theorem dX4_become_84 : decode cX4_become 84 = .ok (.iconst 0, 1) := by decide +kernel
theorem dX4_become_85 : decode cX4_become 85 = .ok (.bipush 40, 2) := by decide +kernel
theorem dX4_become_87 : decode cX4_become 87 = .ok (.invokestatic 53, 3) := by decide +kernel
theorem dX4_become_90 : decode cX4_become 90 = .ok (.aload_n 1, 1) := by decide +kernel
theorem dX4_become_91 : decode cX4_become 91 = .ok (.getfield 30, 3) := by decide +kernel
theorem dX4_become_94 : decode cX4_become 94 = .ok (.iconst 0, 1) := by decide +kernel
theorem dX4_become_95 : decode cX4_become 95 = .ok (.aload_n 0, 1) := by decide +kernel
theorem dX4_become_96 : decode cX4_become 96 = .ok (.getfield 30, 3) := by decide +kernel
theorem dX4_become_99 : decode cX4_become 99 = .ok (.iconst 0, 1) := by decide +kernel
theorem dX4_become_100 : decode cX4_become 100 = .ok (.bipush 40, 2) := by decide +kernel
theorem dX4_become_102 : decode cX4_become 102 = .ok (.invokestatic 53, 3) := by decide +kernel
theorem dX4_become_105 : decode cX4_become 105 = .ok (.aload_n 1, 1) := by decide +kernel
theorem dX4_become_106 : decode cX4_become 106 = .ok (.getfield 33, 3) := by decide +kernel
theorem dX4_become_109 : decode cX4_become 109 = .ok (.iconst 0, 1) := by decide +kernel
theorem dX4_become_110 : decode cX4_become 110 = .ok (.aload_n 0, 1) := by decide +kernel
theorem dX4_become_111 : decode cX4_become 111 = .ok (.getfield 33, 3) := by decide +kernel
theorem dX4_become_114 : decode cX4_become 114 = .ok (.iconst 0, 1) := by decide +kernel
theorem dX4_become_115 : decode cX4_become 115 = .ok (.sipush 240, 3) := by decide +kernel
theorem dX4_become_118 : decode cX4_become 118 = .ok (.invokestatic 53, 3) := by decide +kernel
theorem dX4_become_121 : decode cX4_become 121 = .ok (.aload_n 0, 1) := by decide +kernel
theorem dX4_become_122 : decode cX4_become 122 = .ok (.getfield 39, 3) := by decide +kernel
theorem dX4_become_125 : decode cX4_become 125 = .ok (.aload_n 1, 1) := by decide +kernel
theorem dX4_become_126 : decode cX4_become 126 = .ok (.getfield 39, 3) := by decide +kernel
theorem dX4_become_129 : decode cX4_become 129 = .ok (.invokevirtual 59, 3) := by decide +kernel
theorem dX4_become_132 : decode cX4_become 132 = .ok (.aload_n 0, 1) := by decide +kernel
theorem dX4_become_133 : decode cX4_become 133 = .ok (.getfield 43, 3) := by decide +kernel
theorem dX4_become_136 : decode cX4_become 136 = .ok (.aload_n 1, 1) := by decide +kernel
theorem dX4_become_137 : decode cX4_become 137 = .ok (.getfield 43, 3) := by decide +kernel
theorem dX4_become_140 : decode cX4_become 140 = .ok (.invokevirtual 59, 3) := by decide +kernel
theorem dX4_become_143 : decode cX4_become 143 = .ok (.aload_n 0, 1) := by decide +kernel
theorem dX4_become_144 : decode cX4_become 144 = .ok (.aload_n 1, 1) := by decide +kernel
theorem dX4_become_145 : decode cX4_become 145 = .ok (.getfield 46, 3) := by decide +kernel
theorem dX4_become_148 : decode cX4_become 148 = .ok (.putfield 46, 3) := by decide +kernel
theorem dX4_become_151 : decode cX4_become 151 = .ok (.return_, 1) := by decide +kernel
theorem dX4_addStatement_0 : decode cX4_addStatement 0 = .ok (.aload_n 0, 1) := by decide +kernel
theorem dX4_addStatement_1 : decode cX4_addStatement 1 = .ok (.getfield 46, 3) := by decide +kernel
theorem dX4_addStatement_4 : decode cX4_addStatement 4 = .ok (.istore 5, 2) := by decide +kernel
theorem dX4_addStatement_6 : decode cX4_addStatement 6 = .ok (.iload 5, 2) := by decide +kernel
theorem dX4_addStatement_8 : decode cX4_addStatement 8 = .ok (.ifCond .lt 13, 3) := by decide +kernel
theorem dX4_addStatement_11 : decode cX4_addStatement 11 = .ok (.iload 5, 2) := by decide +kernel
theorem dX4_addStatement_13 : decode cX4_addStatement 13 = .ok (.aload_n 0, 1) := by decide +kernel
theorem dX4_addStatement_14 : decode cX4_addStatement 14 = .ok (.getfield 9, 3) := by decide +kernel
theorem dX4_addStatement_17 : decode cX4_addStatement 17 = .ok (.arraylength, 1) := by decide +kernel
theorem dX4_addStatement_18 : decode cX4_addStatement 18 = .ok (.if_icmp .lt 5, 3) := by decide +kernel
theorem dX4_addStatement_21 : decode cX4_addStatement 21 = .ok (.iconst (-1), 1) := by decide +kernel
theorem dX4_addStatement_22 : decode cX4_addStatement 22 = .ok (.ireturn, 1) := by decide +kernel
theorem dX4_addStatement_23 : decode cX4_addStatement 23 = .ok (.aload_n 0, 1) := by decide +kernel
theorem dX4_addStatement_24 : decode cX4_addStatement 24 = .ok (.getfield 9, 3) := by decide +kernel
theorem dX4_addStatement_27 : decode cX4_addStatement 27 = .ok (.iload 5, 2) := by decide +kernel
theorem dX4_addStatement_29 : decode cX4_addStatement 29 = .ok (.iload_n 1, 1) := by decide +kernel
theorem dX4_addStatement_30 : decode cX4_addStatement 30 = .ok (.iastore, 1) := by decide +kernel
theorem dX4_addStatement_31 : decode cX4_addStatement 31 = .ok (.aload_n 0, 1) := by decide +kernel
theorem dX4_addStatement_32 : decode cX4_addStatement 32 = .ok (.getfield 15, 3) := by decide +kernel
theorem dX4_addStatement_35 : decode cX4_addStatement 35 = .ok (.iload 5, 2) := by decide +kernel
theorem dX4_addStatement_37 : decode cX4_addStatement 37 = .ok (.iload_n 2, 1) := by decide +kernel
theorem dX4_addStatement_38 : decode cX4_addStatement 38 = .ok (.iastore, 1) := by decide +kernel
theorem dX4_addStatement_39 : decode cX4_addStatement 39 = .ok (.aload_n 0, 1) := by decide +kernel
theorem dX4_addStatement_40 : decode cX4_addStatement 40 = .ok (.getfield 18, 3) := by decide +kernel
theorem dX4_addStatement_43 : decode cX4_addStatement 43 = .ok (.iload 5, 2) := by decide +kernel
theorem dX4_addStatement_45 : decode cX4_addStatement 45 = .ok (.aload_n 0, 1) := by decide +kernel
theorem dX4_addStatement_46 : decode cX4_addStatement 46 = .ok (.getfield 39, 3) := by decide +kernel
theorem dX4_addStatement_49 : decode cX4_addStatement 49 = .ok (.getfield 63, 3) := by decide +kernel
theorem dX4_addStatement_52 : decode cX4_addStatement 52 = .ok (.iastore, 1) := by decide +kernel
theorem dX4_addStatement_53 : decode cX4_addStatement 53 = .ok (.aload_n 0, 1) := by decide +kernel
theorem dX4_addStatement_54 : decode cX4_addStatement 54 = .ok (.getfield 21, 3) := by decide +kernel
theorem dX4_addStatement_57 : decode cX4_addStatement 57 = .ok (.iload 5, 2) := by decide +kernel
theorem dX4_addStatement_59 : decode cX4_addStatement 59 = .ok (.iconst (-1), 1) := by decide +kernel
theorem dX4_addStatement_60 : decode cX4_addStatement 60 = .ok (.iastore, 1) := by decide +kernel
theorem dX4_addStatement_61 : decode cX4_addStatement 61 = .ok (.aload_n 0, 1) := by decide +kernel
theorem dX4_addStatement_62 : decode cX4_addStatement 62 = .ok (.getfield 24, 3) := by decide +kernel
theorem dX4_addStatement_65 : decode cX4_addStatement 65 = .ok (.iload 5, 2) := by decide +kernel
theorem dX4_addStatement_67 : decode cX4_addStatement 67 = .ok (.iload_n 3, 1) := by decide +kernel
theorem dX4_addStatement_68 : decode cX4_addStatement 68 = .ok (.iastore, 1) := by decide +kernel
theorem dX4_addStatement_69 : decode cX4_addStatement 69 = .ok (.aload_n 0, 1) := by decide +kernel
theorem dX4_addStatement_70 : decode cX4_addStatement 70 = .ok (.getfield 27, 3) := by decide +kernel
theorem dX4_addStatement_73 : decode cX4_addStatement 73 = .ok (.iload 5, 2) := by decide +kernel
theorem dX4_addStatement_75 : decode cX4_addStatement 75 = .ok (.iload 4, 2) := by decide +kernel
theorem dX4_addStatement_77 : decode cX4_addStatement 77 = .ok (.iastore, 1) := by decide +kernel
theorem dX4_addStatement_78 : decode cX4_addStatement 78 = .ok (.aload_n 0, 1) := by decide +kernel
theorem dX4_addStatement_79 : decode cX4_addStatement 79 = .ok (.getfield 30, 3) := by decide +kernel
theorem dX4_addStatement_82 : decode cX4_addStatement 82 = .ok (.iload 5, 2) := by decide +kernel
theorem dX4_addStatement_84 : decode cX4_addStatement 84 = .ok (.iconst 0, 1) := by decide +kernel
theorem dX4_addStatement_85 : decode cX4_addStatement 85 = .ok (.iastore, 1) := by decide +kernel
theorem dX4_addStatement_86 : decode cX4_addStatement 86 = .ok (.aload_n 0, 1) := by decide +kernel
theorem dX4_addStatement_87 : decode cX4_addStatement 87 = .ok (.dup, 1) := by decide +kernel
theorem dX4_addStatement_88 : decode cX4_addStatement 88 = .ok (.getfield 46, 3) := by decide +kernel
theorem dX4_addStatement_91 : decode cX4_addStatement 91 = .ok (.iconst 1, 1) := by decide +kernel
theorem dX4_addStatement_92 : decode cX4_addStatement 92 = .ok (.iadd, 1) := by decide +kernel
theorem dX4_addStatement_93 : decode cX4_addStatement 93 = .ok (.putfield 46, 3) := by decide +kernel
theorem dX4_addStatement_96 : decode cX4_addStatement 96 = .ok (.iload 5, 2) := by decide +kernel
theorem dX4_addStatement_98 : decode cX4_addStatement 98 = .ok (.ireturn, 1) := by decide +kernel
theorem dX4_linkBehind_0 : decode cX4_linkBehind 0 = .ok (.aload_n 0, 1) := by decide +kernel
theorem dX4_linkBehind_1 : decode cX4_linkBehind 1 = .ok (.iload_n 1, 1) := by decide +kernel
theorem dX4_linkBehind_2 : decode cX4_linkBehind 2 = .ok (.invokevirtual 65, 3) := by decide +kernel
theorem dX4_linkBehind_5 : decode cX4_linkBehind 5 = .ok (.ifCond .eq 10, 3) := by decide +kernel
theorem dX4_linkBehind_8 : decode cX4_linkBehind 8 = .ok (.aload_n 0, 1) := by decide +kernel
theorem dX4_linkBehind_9 : decode cX4_linkBehind 9 = .ok (.getfield 21, 3) := by decide +kernel
theorem dX4_linkBehind_12 : decode cX4_linkBehind 12 = .ok (.iload_n 1, 1) := by decide +kernel
theorem dX4_linkBehind_13 : decode cX4_linkBehind 13 = .ok (.iload_n 2, 1) := by decide +kernel
theorem dX4_linkBehind_14 : decode cX4_linkBehind 14 = .ok (.iastore, 1) := by decide +kernel
theorem dX4_linkBehind_15 : decode cX4_linkBehind 15 = .ok (.return_, 1) := by decide +kernel
theorem dX4_addPart_0 : decode cX4_addPart 0 = .ok (.aload_n 0, 1) := by decide +kernel
theorem dX4_addPart_1 : decode cX4_addPart 1 = .ok (.iload_n 1, 1) := by decide +kernel
theorem dX4_addPart_2 : decode cX4_addPart 2 = .ok (.invokevirtual 65, 3) := by decide +kernel
theorem dX4_addPart_5 : decode cX4_addPart 5 = .ok (.ifCond .eq 14, 3) := by decide +kernel
theorem dX4_addPart_8 : decode cX4_addPart 8 = .ok (.aload_n 0, 1) := by decide +kernel
theorem dX4_addPart_9 : decode cX4_addPart 9 = .ok (.getfield 30, 3) := by decide +kernel
theorem dX4_addPart_12 : decode cX4_addPart 12 = .ok (.iload_n 1, 1) := by decide +kernel
theorem dX4_addPart_13 : decode cX4_addPart 13 = .ok (.iaload, 1) := by decide +kernel
theorem dX4_addPart_14 : decode cX4_addPart 14 = .ok (.bipush 6, 2) := by decide +kernel
theorem dX4_addPart_16 : decode cX4_addPart 16 = .ok (.if_icmp .lt 5, 3) := by decide +kernel
theorem dX4_addPart_19 : decode cX4_addPart 19 = .ok (.iconst 0, 1) := by decide +kernel
theorem dX4_addPart_20 : decode cX4_addPart 20 = .ok (.ireturn, 1) := by decide +kernel
theorem dX4_addPart_21 : decode cX4_addPart 21 = .ok (.aload_n 0, 1) := by decide +kernel
theorem dX4_addPart_22 : decode cX4_addPart 22 = .ok (.getfield 30, 3) := by decide +kernel
theorem dX4_addPart_25 : decode cX4_addPart 25 = .ok (.iload_n 1, 1) := by decide +kernel
theorem dX4_addPart_26 : decode cX4_addPart 26 = .ok (.dup2, 1) := by decide +kernel
theorem dX4_addPart_27 : decode cX4_addPart 27 = .ok (.iaload, 1) := by decide +kernel
theorem dX4_addPart_28 : decode cX4_addPart 28 = .ok (.iconst 1, 1) := by decide +kernel
theorem dX4_addPart_29 : decode cX4_addPart 29 = .ok (.iadd, 1) := by decide +kernel
theorem dX4_addPart_30 : decode cX4_addPart 30 = .ok (.iastore, 1) := by decide +kernel
theorem dX4_addPart_31 : decode cX4_addPart 31 = .ok (.iconst 1, 1) := by decide +kernel
theorem dX4_addPart_32 : decode cX4_addPart 32 = .ok (.ireturn, 1) := by decide +kernel
theorem dX4_linkFirst_0 : decode cX4_linkFirst 0 = .ok (.aload_n 0, 1) := by decide +kernel
theorem dX4_linkFirst_1 : decode cX4_linkFirst 1 = .ok (.iload_n 1, 1) := by decide +kernel
theorem dX4_linkFirst_2 : decode cX4_linkFirst 2 = .ok (.invokevirtual 65, 3) := by decide +kernel
theorem dX4_linkFirst_5 : decode cX4_linkFirst 5 = .ok (.ifCond .eq 19, 3) := by decide +kernel
theorem dX4_linkFirst_8 : decode cX4_linkFirst 8 = .ok (.iload_n 1, 1) := by decide +kernel
theorem dX4_linkFirst_9 : decode cX4_linkFirst 9 = .ok (.bipush 6, 2) := by decide +kernel
theorem dX4_linkFirst_11 : decode cX4_linkFirst 11 = .ok (.imul, 1) := by decide +kernel
theorem dX4_linkFirst_12 : decode cX4_linkFirst 12 = .ok (.aload_n 0, 1) := by decide +kernel
theorem dX4_linkFirst_13 : decode cX4_linkFirst 13 = .ok (.getfield 30, 3) := by decide +kernel
theorem dX4_linkFirst_16 : decode cX4_linkFirst 16 = .ok (.iload_n 1, 1) := by decide +kernel
theorem dX4_linkFirst_17 : decode cX4_linkFirst 17 = .ok (.iaload, 1) := by decide +kernel
theorem dX4_linkFirst_18 : decode cX4_linkFirst 18 = .ok (.iadd, 1) := by decide +kernel
theorem dX4_linkFirst_19 : decode cX4_linkFirst 19 = .ok (.iconst 1, 1) := by decide +kernel
theorem dX4_linkFirst_20 : decode cX4_linkFirst 20 = .ok (.isub, 1) := by decide +kernel
theorem dX4_linkFirst_21 : decode cX4_linkFirst 21 = .ok (.goto 4, 3) := by decide +kernel
theorem dX4_linkFirst_24 : decode cX4_linkFirst 24 = .ok (.iconst (-1), 1) := by decide +kernel
theorem dX4_linkFirst_25 : decode cX4_linkFirst 25 = .ok (.istore_n 3, 1) := by decide +kernel
theorem dX4_linkFirst_26 : decode cX4_linkFirst 26 = .ok (.iload_n 3, 1) := by decide +kernel
theorem dX4_linkFirst_27 : decode cX4_linkFirst 27 = .ok (.ifCond .lt 19, 3) := by decide +kernel
theorem dX4_linkFirst_30 : decode cX4_linkFirst 30 = .ok (.iload_n 3, 1) := by decide +kernel
theorem dX4_linkFirst_31 : decode cX4_linkFirst 31 = .ok (.aload_n 0, 1) := by decide +kernel
theorem dX4_linkFirst_32 : decode cX4_linkFirst 32 = .ok (.getfield 33, 3) := by decide +kernel
theorem dX4_linkFirst_35 : decode cX4_linkFirst 35 = .ok (.arraylength, 1) := by decide +kernel
theorem dX4_linkFirst_36 : decode cX4_linkFirst 36 = .ok (.if_icmp .ge 10, 3) := by decide +kernel
theorem dX4_linkFirst_39 : decode cX4_linkFirst 39 = .ok (.aload_n 0, 1) := by decide +kernel
theorem dX4_linkFirst_40 : decode cX4_linkFirst 40 = .ok (.getfield 33, 3) := by decide +kernel
theorem dX4_linkFirst_43 : decode cX4_linkFirst 43 = .ok (.iload_n 3, 1) := by decide +kernel
theorem dX4_linkFirst_44 : decode cX4_linkFirst 44 = .ok (.iload_n 2, 1) := by decide +kernel
theorem dX4_linkFirst_45 : decode cX4_linkFirst 45 = .ok (.iastore, 1) := by decide +kernel
theorem dX4_linkFirst_46 : decode cX4_linkFirst 46 = .ok (.return_, 1) := by decide +kernel
theorem dX4_setDetail_0 : decode cX4_setDetail 0 = .ok (.aload_n 0, 1) := by decide +kernel
theorem dX4_setDetail_1 : decode cX4_setDetail 1 = .ok (.iload_n 1, 1) := by decide +kernel
theorem dX4_setDetail_2 : decode cX4_setDetail 2 = .ok (.invokevirtual 65, 3) := by decide +kernel
theorem dX4_setDetail_5 : decode cX4_setDetail 5 = .ok (.ifCond .eq 10, 3) := by decide +kernel
theorem dX4_setDetail_8 : decode cX4_setDetail 8 = .ok (.aload_n 0, 1) := by decide +kernel
theorem dX4_setDetail_9 : decode cX4_setDetail 9 = .ok (.getfield 15, 3) := by decide +kernel
theorem dX4_setDetail_12 : decode cX4_setDetail 12 = .ok (.iload_n 1, 1) := by decide +kernel
theorem dX4_setDetail_13 : decode cX4_setDetail 13 = .ok (.iload_n 2, 1) := by decide +kernel
theorem dX4_setDetail_14 : decode cX4_setDetail 14 = .ok (.iastore, 1) := by decide +kernel
theorem dX4_setDetail_15 : decode cX4_setDetail 15 = .ok (.return_, 1) := by decide +kernel
theorem dX4_has_0 : decode cX4_has 0 = .ok (.iload_n 1, 1) := by decide +kernel
theorem dX4_has_1 : decode cX4_has 1 = .ok (.ifCond .lt 24, 3) := by decide +kernel
theorem dX4_has_4 : decode cX4_has 4 = .ok (.iload_n 1, 1) := by decide +kernel
theorem dX4_has_5 : decode cX4_has 5 = .ok (.aload_n 0, 1) := by decide +kernel
theorem dX4_has_6 : decode cX4_has 6 = .ok (.getfield 46, 3) := by decide +kernel
theorem dX4_has_9 : decode cX4_has 9 = .ok (.if_icmp .ge 16, 3) := by decide +kernel
theorem dX4_has_12 : decode cX4_has 12 = .ok (.iload_n 1, 1) := by decide +kernel
theorem dX4_has_13 : decode cX4_has 13 = .ok (.aload_n 0, 1) := by decide +kernel
theorem dX4_has_14 : decode cX4_has 14 = .ok (.getfield 9, 3) := by decide +kernel
theorem dX4_has_17 : decode cX4_has 17 = .ok (.arraylength, 1) := by decide +kernel
theorem dX4_has_18 : decode cX4_has 18 = .ok (.if_icmp .ge 7, 3) := by decide +kernel
theorem dX4_has_21 : decode cX4_has 21 = .ok (.iconst 1, 1) := by decide +kernel
theorem dX4_has_22 : decode cX4_has 22 = .ok (.goto 4, 3) := by decide +kernel
theorem dX4_has_25 : decode cX4_has 25 = .ok (.iconst 0, 1) := by decide +kernel
theorem dX4_has_26 : decode cX4_has 26 = .ok (.ireturn, 1) := by decide +kernel
theorem dX4_kindOf_0 : decode cX4_kindOf 0 = .ok (.aload_n 0, 1) := by decide +kernel
theorem dX4_kindOf_1 : decode cX4_kindOf 1 = .ok (.iload_n 1, 1) := by decide +kernel
theorem dX4_kindOf_2 : decode cX4_kindOf 2 = .ok (.invokevirtual 65, 3) := by decide +kernel
theorem dX4_kindOf_5 : decode cX4_kindOf 5 = .ok (.ifCond .eq 12, 3) := by decide +kernel
theorem dX4_kindOf_8 : decode cX4_kindOf 8 = .ok (.aload_n 0, 1) := by decide +kernel
theorem dX4_kindOf_9 : decode cX4_kindOf 9 = .ok (.getfield 9, 3) := by decide +kernel
theorem dX4_kindOf_12 : decode cX4_kindOf 12 = .ok (.iload_n 1, 1) := by decide +kernel
theorem dX4_kindOf_13 : decode cX4_kindOf 13 = .ok (.iaload, 1) := by decide +kernel
theorem dX4_kindOf_14 : decode cX4_kindOf 14 = .ok (.goto 4, 3) := by decide +kernel
theorem dX4_kindOf_17 : decode cX4_kindOf 17 = .ok (.iconst (-1), 1) := by decide +kernel
theorem dX4_kindOf_18 : decode cX4_kindOf 18 = .ok (.ireturn, 1) := by decide +kernel
theorem dX4_detailOf_0 : decode cX4_detailOf 0 = .ok (.aload_n 0, 1) := by decide +kernel
theorem dX4_detailOf_1 : decode cX4_detailOf 1 = .ok (.iload_n 1, 1) := by decide +kernel
theorem dX4_detailOf_2 : decode cX4_detailOf 2 = .ok (.invokevirtual 65, 3) := by decide +kernel
theorem dX4_detailOf_5 : decode cX4_detailOf 5 = .ok (.ifCond .eq 12, 3) := by decide +kernel
theorem dX4_detailOf_8 : decode cX4_detailOf 8 = .ok (.aload_n 0, 1) := by decide +kernel
theorem dX4_detailOf_9 : decode cX4_detailOf 9 = .ok (.getfield 15, 3) := by decide +kernel
theorem dX4_detailOf_12 : decode cX4_detailOf 12 = .ok (.iload_n 1, 1) := by decide +kernel
theorem dX4_detailOf_13 : decode cX4_detailOf 13 = .ok (.iaload, 1) := by decide +kernel
theorem dX4_detailOf_14 : decode cX4_detailOf 14 = .ok (.goto 4, 3) := by decide +kernel
theorem dX4_detailOf_17 : decode cX4_detailOf 17 = .ok (.iconst 0, 1) := by decide +kernel
theorem dX4_detailOf_18 : decode cX4_detailOf 18 = .ok (.ireturn, 1) := by decide +kernel
theorem dX4_behind_0 : decode cX4_behind 0 = .ok (.aload_n 0, 1) := by decide +kernel
theorem dX4_behind_1 : decode cX4_behind 1 = .ok (.iload_n 1, 1) := by decide +kernel
theorem dX4_behind_2 : decode cX4_behind 2 = .ok (.invokevirtual 65, 3) := by decide +kernel
theorem dX4_behind_5 : decode cX4_behind 5 = .ok (.ifCond .eq 12, 3) := by decide +kernel
theorem dX4_behind_8 : decode cX4_behind 8 = .ok (.aload_n 0, 1) := by decide +kernel
theorem dX4_behind_9 : decode cX4_behind 9 = .ok (.getfield 21, 3) := by decide +kernel
theorem dX4_behind_12 : decode cX4_behind 12 = .ok (.iload_n 1, 1) := by decide +kernel
theorem dX4_behind_13 : decode cX4_behind 13 = .ok (.iaload, 1) := by decide +kernel
theorem dX4_behind_14 : decode cX4_behind 14 = .ok (.goto 4, 3) := by decide +kernel
theorem dX4_behind_17 : decode cX4_behind 17 = .ok (.iconst (-1), 1) := by decide +kernel
theorem dX4_behind_18 : decode cX4_behind 18 = .ok (.ireturn, 1) := by decide +kernel
theorem dX4_around_0 : decode cX4_around 0 = .ok (.aload_n 0, 1) := by decide +kernel
theorem dX4_around_1 : decode cX4_around 1 = .ok (.iload_n 1, 1) := by decide +kernel
theorem dX4_around_2 : decode cX4_around 2 = .ok (.invokevirtual 65, 3) := by decide +kernel
theorem dX4_around_5 : decode cX4_around 5 = .ok (.ifCond .eq 12, 3) := by decide +kernel
theorem dX4_around_8 : decode cX4_around 8 = .ok (.aload_n 0, 1) := by decide +kernel
theorem dX4_around_9 : decode cX4_around 9 = .ok (.getfield 24, 3) := by decide +kernel
theorem dX4_around_12 : decode cX4_around 12 = .ok (.iload_n 1, 1) := by decide +kernel
theorem dX4_around_13 : decode cX4_around 13 = .ok (.iaload, 1) := by decide +kernel
theorem dX4_around_14 : decode cX4_around 14 = .ok (.goto 4, 3) := by decide +kernel
theorem dX4_around_17 : decode cX4_around 17 = .ok (.iconst (-1), 1) := by decide +kernel
theorem dX4_around_18 : decode cX4_around 18 = .ok (.ireturn, 1) := by decide +kernel
theorem dX4_levelOf_0 : decode cX4_levelOf 0 = .ok (.aload_n 0, 1) := by decide +kernel
theorem dX4_levelOf_1 : decode cX4_levelOf 1 = .ok (.iload_n 1, 1) := by decide +kernel
theorem dX4_levelOf_2 : decode cX4_levelOf 2 = .ok (.invokevirtual 65, 3) := by decide +kernel
theorem dX4_levelOf_5 : decode cX4_levelOf 5 = .ok (.ifCond .eq 12, 3) := by decide +kernel
theorem dX4_levelOf_8 : decode cX4_levelOf 8 = .ok (.aload_n 0, 1) := by decide +kernel
theorem dX4_levelOf_9 : decode cX4_levelOf 9 = .ok (.getfield 27, 3) := by decide +kernel
theorem dX4_levelOf_12 : decode cX4_levelOf 12 = .ok (.iload_n 1, 1) := by decide +kernel
theorem dX4_levelOf_13 : decode cX4_levelOf 13 = .ok (.iaload, 1) := by decide +kernel
theorem dX4_levelOf_14 : decode cX4_levelOf 14 = .ok (.goto 4, 3) := by decide +kernel
theorem dX4_levelOf_17 : decode cX4_levelOf 17 = .ok (.iconst 0, 1) := by decide +kernel
theorem dX4_levelOf_18 : decode cX4_levelOf 18 = .ok (.ireturn, 1) := by decide +kernel
theorem dX4_partsOf_0 : decode cX4_partsOf 0 = .ok (.aload_n 0, 1) := by decide +kernel
theorem dX4_partsOf_1 : decode cX4_partsOf 1 = .ok (.iload_n 1, 1) := by decide +kernel
theorem dX4_partsOf_2 : decode cX4_partsOf 2 = .ok (.invokevirtual 65, 3) := by decide +kernel
theorem dX4_partsOf_5 : decode cX4_partsOf 5 = .ok (.ifCond .eq 12, 3) := by decide +kernel
theorem dX4_partsOf_8 : decode cX4_partsOf 8 = .ok (.aload_n 0, 1) := by decide +kernel
theorem dX4_partsOf_9 : decode cX4_partsOf 9 = .ok (.getfield 30, 3) := by decide +kernel
theorem dX4_partsOf_12 : decode cX4_partsOf 12 = .ok (.iload_n 1, 1) := by decide +kernel
theorem dX4_partsOf_13 : decode cX4_partsOf 13 = .ok (.iaload, 1) := by decide +kernel
theorem dX4_partsOf_14 : decode cX4_partsOf 14 = .ok (.goto 4, 3) := by decide +kernel
theorem dX4_partsOf_17 : decode cX4_partsOf 17 = .ok (.iconst 0, 1) := by decide +kernel
theorem dX4_partsOf_18 : decode cX4_partsOf 18 = .ok (.ireturn, 1) := by decide +kernel
theorem dX4_partFirst_0 : decode cX4_partFirst 0 = .ok (.aload_n 0, 1) := by decide +kernel
theorem dX4_partFirst_1 : decode cX4_partFirst 1 = .ok (.iload_n 1, 1) := by decide +kernel
theorem dX4_partFirst_2 : decode cX4_partFirst 2 = .ok (.invokevirtual 65, 3) := by decide +kernel
theorem dX4_partFirst_5 : decode cX4_partFirst 5 = .ok (.ifCond .eq 22, 3) := by decide +kernel
theorem dX4_partFirst_8 : decode cX4_partFirst 8 = .ok (.iload_n 2, 1) := by decide +kernel
theorem dX4_partFirst_9 : decode cX4_partFirst 9 = .ok (.ifCond .lt 18, 3) := by decide +kernel
theorem dX4_partFirst_12 : decode cX4_partFirst 12 = .ok (.iload_n 2, 1) := by decide +kernel
theorem dX4_partFirst_13 : decode cX4_partFirst 13 = .ok (.bipush 6, 2) := by decide +kernel
theorem dX4_partFirst_15 : decode cX4_partFirst 15 = .ok (.if_icmp .ge 12, 3) := by decide +kernel
theorem dX4_partFirst_18 : decode cX4_partFirst 18 = .ok (.iload_n 1, 1) := by decide +kernel
theorem dX4_partFirst_19 : decode cX4_partFirst 19 = .ok (.bipush 6, 2) := by decide +kernel
theorem dX4_partFirst_21 : decode cX4_partFirst 21 = .ok (.imul, 1) := by decide +kernel
theorem dX4_partFirst_22 : decode cX4_partFirst 22 = .ok (.iload_n 2, 1) := by decide +kernel
theorem dX4_partFirst_23 : decode cX4_partFirst 23 = .ok (.iadd, 1) := by decide +kernel
theorem dX4_partFirst_24 : decode cX4_partFirst 24 = .ok (.goto 4, 3) := by decide +kernel
theorem dX4_partFirst_27 : decode cX4_partFirst 27 = .ok (.iconst (-1), 1) := by decide +kernel
theorem dX4_partFirst_28 : decode cX4_partFirst 28 = .ok (.istore_n 3, 1) := by decide +kernel
theorem dX4_partFirst_29 : decode cX4_partFirst 29 = .ok (.iload_n 3, 1) := by decide +kernel
theorem dX4_partFirst_30 : decode cX4_partFirst 30 = .ok (.ifCond .lt 21, 3) := by decide +kernel
theorem dX4_partFirst_33 : decode cX4_partFirst 33 = .ok (.iload_n 3, 1) := by decide +kernel
theorem dX4_partFirst_34 : decode cX4_partFirst 34 = .ok (.aload_n 0, 1) := by decide +kernel
theorem dX4_partFirst_35 : decode cX4_partFirst 35 = .ok (.getfield 33, 3) := by decide +kernel
theorem dX4_partFirst_38 : decode cX4_partFirst 38 = .ok (.arraylength, 1) := by decide +kernel
theorem dX4_partFirst_39 : decode cX4_partFirst 39 = .ok (.if_icmp .ge 12, 3) := by decide +kernel
theorem dX4_partFirst_42 : decode cX4_partFirst 42 = .ok (.aload_n 0, 1) := by decide +kernel
theorem dX4_partFirst_43 : decode cX4_partFirst 43 = .ok (.getfield 33, 3) := by decide +kernel
theorem dX4_partFirst_46 : decode cX4_partFirst 46 = .ok (.iload_n 3, 1) := by decide +kernel
theorem dX4_partFirst_47 : decode cX4_partFirst 47 = .ok (.iaload, 1) := by decide +kernel
theorem dX4_partFirst_48 : decode cX4_partFirst 48 = .ok (.goto 4, 3) := by decide +kernel
theorem dX4_partFirst_51 : decode cX4_partFirst 51 = .ok (.iconst (-1), 1) := by decide +kernel
theorem dX4_partFirst_52 : decode cX4_partFirst 52 = .ok (.ireturn, 1) := by decide +kernel
theorem dX4_formulaOf_0 : decode cX4_formulaOf 0 = .ok (.aload_n 0, 1) := by decide +kernel
theorem dX4_formulaOf_1 : decode cX4_formulaOf 1 = .ok (.iload_n 1, 1) := by decide +kernel
theorem dX4_formulaOf_2 : decode cX4_formulaOf 2 = .ok (.invokevirtual 65, 3) := by decide +kernel
theorem dX4_formulaOf_5 : decode cX4_formulaOf 5 = .ok (.ifCond .eq 12, 3) := by decide +kernel
theorem dX4_formulaOf_8 : decode cX4_formulaOf 8 = .ok (.aload_n 0, 1) := by decide +kernel
theorem dX4_formulaOf_9 : decode cX4_formulaOf 9 = .ok (.getfield 18, 3) := by decide +kernel
theorem dX4_formulaOf_12 : decode cX4_formulaOf 12 = .ok (.iload_n 1, 1) := by decide +kernel
theorem dX4_formulaOf_13 : decode cX4_formulaOf 13 = .ok (.iaload, 1) := by decide +kernel
theorem dX4_formulaOf_14 : decode cX4_formulaOf 14 = .ok (.goto 10, 3) := by decide +kernel
theorem dX4_formulaOf_17 : decode cX4_formulaOf 17 = .ok (.aload_n 0, 1) := by decide +kernel
theorem dX4_formulaOf_18 : decode cX4_formulaOf 18 = .ok (.getfield 39, 3) := by decide +kernel
theorem dX4_formulaOf_21 : decode cX4_formulaOf 21 = .ok (.getfield 63, 3) := by decide +kernel
theorem dX4_formulaOf_24 : decode cX4_formulaOf 24 = .ok (.ireturn, 1) := by decide +kernel
theorem dX4_priceOf_0 : decode cX4_priceOf 0 = .ok (.aload_n 0, 1) := by decide +kernel
theorem dX4_priceOf_1 : decode cX4_priceOf 1 = .ok (.getfield 43, 3) := by decide +kernel
theorem dX4_priceOf_4 : decode cX4_priceOf 4 = .ok (.getfield 63, 3) := by decide +kernel
theorem dX4_priceOf_7 : decode cX4_priceOf 7 = .ok (.ifCond .ne 7, 3) := by decide +kernel
theorem dX4_priceOf_10 : decode cX4_priceOf 10 = .ok (.iconst 0, 1) := by decide +kernel
theorem dX4_priceOf_11 : decode cX4_priceOf 11 = .ok (.goto 12, 3) := by decide +kernel
theorem dX4_priceOf_14 : decode cX4_priceOf 14 = .ok (.aload_n 0, 1) := by decide +kernel
theorem dX4_priceOf_15 : decode cX4_priceOf 15 = .ok (.getfield 43, 3) := by decide +kernel
theorem dX4_priceOf_18 : decode cX4_priceOf 18 = .ok (.iconst 0, 1) := by decide +kernel
theorem dX4_priceOf_19 : decode cX4_priceOf 19 = .ok (.aload_n 1, 1) := by decide +kernel
theorem dX4_priceOf_20 : decode cX4_priceOf 20 = .ok (.invokevirtual 69, 3) := by decide +kernel
theorem dX4_priceOf_23 : decode cX4_priceOf 23 = .ok (.ireturn, 1) := by decide +kernel
theorem dX7_init_0 : decode cX7_init 0 = .ok (.aload_n 0, 1) := by decide +kernel
theorem dX7_init_1 : decode cX7_init 1 = .ok (.invokespecial 3, 3) := by decide +kernel
theorem dX7_init_4 : decode cX7_init 4 = .ok (.aload_n 0, 1) := by decide +kernel
theorem dX7_init_5 : decode cX7_init 5 = .ok (.sipush 150, 3) := by decide +kernel
theorem dX7_init_8 : decode cX7_init 8 = .ok (.newarray .int, 2) := by decide +kernel
theorem dX7_init_10 : decode cX7_init 10 = .ok (.putfield 9, 3) := by decide +kernel
theorem dX7_init_13 : decode cX7_init 13 = .ok (.return_, 1) := by decide +kernel
theorem dX7_add_0 : decode cX7_add 0 = .ok (.aload_n 0, 1) := by decide +kernel
theorem dX7_add_1 : decode cX7_add 1 = .ok (.getfield 15, 3) := by decide +kernel
theorem dX7_add_4 : decode cX7_add 4 = .ok (.ifCond .lt 15, 3) := by decide +kernel
theorem dX7_add_7 : decode cX7_add 7 = .ok (.aload_n 0, 1) := by decide +kernel
theorem dX7_add_8 : decode cX7_add 8 = .ok (.getfield 15, 3) := by decide +kernel
theorem dX7_add_11 : decode cX7_add 11 = .ok (.aload_n 0, 1) := by decide +kernel
theorem dX7_add_12 : decode cX7_add 12 = .ok (.getfield 9, 3) := by decide +kernel
theorem dX7_add_15 : decode cX7_add 15 = .ok (.arraylength, 1) := by decide +kernel
theorem dX7_add_16 : decode cX7_add 16 = .ok (.if_icmp .lt 5, 3) := by decide +kernel
theorem dX7_add_19 : decode cX7_add 19 = .ok (.iconst 0, 1) := by decide +kernel
theorem dX7_add_20 : decode cX7_add 20 = .ok (.ireturn, 1) := by decide +kernel
theorem dX7_add_21 : decode cX7_add 21 = .ok (.aload_n 0, 1) := by decide +kernel
theorem dX7_add_22 : decode cX7_add 22 = .ok (.getfield 9, 3) := by decide +kernel
theorem dX7_add_25 : decode cX7_add 25 = .ok (.aload_n 0, 1) := by decide +kernel
theorem dX7_add_26 : decode cX7_add 26 = .ok (.getfield 15, 3) := by decide +kernel
theorem dX7_add_29 : decode cX7_add 29 = .ok (.iload_n 1, 1) := by decide +kernel
theorem dX7_add_30 : decode cX7_add 30 = .ok (.iastore, 1) := by decide +kernel
theorem dX7_add_31 : decode cX7_add 31 = .ok (.aload_n 0, 1) := by decide +kernel
theorem dX7_add_32 : decode cX7_add 32 = .ok (.dup, 1) := by decide +kernel
theorem dX7_add_33 : decode cX7_add 33 = .ok (.getfield 15, 3) := by decide +kernel
theorem dX7_add_36 : decode cX7_add 36 = .ok (.iconst 1, 1) := by decide +kernel
theorem dX7_add_37 : decode cX7_add 37 = .ok (.iadd, 1) := by decide +kernel
theorem dX7_add_38 : decode cX7_add 38 = .ok (.putfield 15, 3) := by decide +kernel
theorem dX7_add_41 : decode cX7_add 41 = .ok (.iconst 1, 1) := by decide +kernel
theorem dX7_add_42 : decode cX7_add 42 = .ok (.ireturn, 1) := by decide +kernel
theorem dX7_clear_0 : decode cX7_clear 0 = .ok (.aload_n 0, 1) := by decide +kernel
theorem dX7_clear_1 : decode cX7_clear 1 = .ok (.iconst 0, 1) := by decide +kernel
theorem dX7_clear_2 : decode cX7_clear 2 = .ok (.putfield 15, 3) := by decide +kernel
theorem dX7_clear_5 : decode cX7_clear 5 = .ok (.return_, 1) := by decide +kernel
theorem dX7_at_0 : decode cX7_at 0 = .ok (.iload_n 1, 1) := by decide +kernel
theorem dX7_at_1 : decode cX7_at 1 = .ok (.ifCond .lt 29, 3) := by decide +kernel
theorem dX7_at_4 : decode cX7_at 4 = .ok (.iload_n 1, 1) := by decide +kernel
theorem dX7_at_5 : decode cX7_at 5 = .ok (.aload_n 0, 1) := by decide +kernel
theorem dX7_at_6 : decode cX7_at 6 = .ok (.getfield 15, 3) := by decide +kernel
theorem dX7_at_9 : decode cX7_at 9 = .ok (.if_icmp .ge 21, 3) := by decide +kernel
theorem dX7_at_12 : decode cX7_at 12 = .ok (.iload_n 1, 1) := by decide +kernel
theorem dX7_at_13 : decode cX7_at 13 = .ok (.aload_n 0, 1) := by decide +kernel
theorem dX7_at_14 : decode cX7_at 14 = .ok (.getfield 9, 3) := by decide +kernel
theorem dX7_at_17 : decode cX7_at 17 = .ok (.arraylength, 1) := by decide +kernel
theorem dX7_at_18 : decode cX7_at 18 = .ok (.if_icmp .ge 12, 3) := by decide +kernel
theorem dX7_at_21 : decode cX7_at 21 = .ok (.aload_n 0, 1) := by decide +kernel
theorem dX7_at_22 : decode cX7_at 22 = .ok (.getfield 9, 3) := by decide +kernel
theorem dX7_at_25 : decode cX7_at 25 = .ok (.iload_n 1, 1) := by decide +kernel
theorem dX7_at_26 : decode cX7_at 26 = .ok (.iaload, 1) := by decide +kernel
theorem dX7_at_27 : decode cX7_at 27 = .ok (.goto 4, 3) := by decide +kernel
theorem dX7_at_30 : decode cX7_at 30 = .ok (.iconst 0, 1) := by decide +kernel
theorem dX7_at_31 : decode cX7_at 31 = .ok (.ireturn, 1) := by decide +kernel
theorem dX8_init_0 : decode cX8_init 0 = .ok (.aload_n 0, 1) := by decide +kernel
theorem dX8_init_1 : decode cX8_init 1 = .ok (.invokespecial 3, 3) := by decide +kernel
theorem dX8_init_4 : decode cX8_init 4 = .ok (.aload_n 0, 1) := by decide +kernel
theorem dX8_init_5 : decode cX8_init 5 = .ok (.bipush 8, 2) := by decide +kernel
theorem dX8_init_7 : decode cX8_init 7 = .ok (.newarray .int, 2) := by decide +kernel
theorem dX8_init_9 : decode cX8_init 9 = .ok (.putfield 9, 3) := by decide +kernel
theorem dX8_init_12 : decode cX8_init 12 = .ok (.aload_n 0, 1) := by decide +kernel
theorem dX8_init_13 : decode cX8_init 13 = .ok (.bipush 7, 2) := by decide +kernel
theorem dX8_init_15 : decode cX8_init 15 = .ok (.newarray .int, 2) := by decide +kernel
theorem dX8_init_17 : decode cX8_init 17 = .ok (.putfield 15, 3) := by decide +kernel
theorem dX8_init_20 : decode cX8_init 20 = .ok (.aload_n 0, 1) := by decide +kernel
theorem dX8_init_21 : decode cX8_init 21 = .ok (.bipush 7, 2) := by decide +kernel
theorem dX8_init_23 : decode cX8_init 23 = .ok (.newarray .int, 2) := by decide +kernel
theorem dX8_init_25 : decode cX8_init 25 = .ok (.putfield 18, 3) := by decide +kernel
theorem dX8_init_28 : decode cX8_init 28 = .ok (.return_, 1) := by decide +kernel
theorem dX8_start_0 : decode cX8_start 0 = .ok (.iconst 0, 1) := by decide +kernel
theorem dX8_start_1 : decode cX8_start 1 = .ok (.istore_n 1, 1) := by decide +kernel
theorem dX8_start_2 : decode cX8_start 2 = .ok (.iload_n 1, 1) := by decide +kernel
theorem dX8_start_3 : decode cX8_start 3 = .ok (.aload_n 0, 1) := by decide +kernel
theorem dX8_start_4 : decode cX8_start 4 = .ok (.getfield 9, 3) := by decide +kernel
theorem dX8_start_7 : decode cX8_start 7 = .ok (.arraylength, 1) := by decide +kernel
theorem dX8_start_8 : decode cX8_start 8 = .ok (.if_icmp .ge 16, 3) := by decide +kernel
theorem dX8_start_11 : decode cX8_start 11 = .ok (.aload_n 0, 1) := by decide +kernel
theorem dX8_start_12 : decode cX8_start 12 = .ok (.getfield 9, 3) := by decide +kernel
theorem dX8_start_15 : decode cX8_start 15 = .ok (.iload_n 1, 1) := by decide +kernel
theorem dX8_start_16 : decode cX8_start 16 = .ok (.iconst 0, 1) := by decide +kernel
theorem dX8_start_17 : decode cX8_start 17 = .ok (.iastore, 1) := by decide +kernel
theorem dX8_start_18 : decode cX8_start 18 = .ok (.iinc 1 1, 3) := by decide +kernel
theorem dX8_start_21 : decode cX8_start 21 = .ok (.goto (-19), 3) := by decide +kernel
theorem dX8_start_24 : decode cX8_start 24 = .ok (.aload_n 0, 1) := by decide +kernel
theorem dX8_start_25 : decode cX8_start 25 = .ok (.iconst 0, 1) := by decide +kernel
theorem dX8_start_26 : decode cX8_start 26 = .ok (.putfield 21, 3) := by decide +kernel
theorem dX8_start_29 : decode cX8_start 29 = .ok (.aload_n 0, 1) := by decide +kernel
theorem dX8_start_30 : decode cX8_start 30 = .ok (.iconst (-1), 1) := by decide +kernel
theorem dX8_start_31 : decode cX8_start 31 = .ok (.putfield 25, 3) := by decide +kernel
theorem dX8_start_34 : decode cX8_start 34 = .ok (.aload_n 0, 1) := by decide +kernel
theorem dX8_start_35 : decode cX8_start 35 = .ok (.iconst 0, 1) := by decide +kernel
theorem dX8_start_36 : decode cX8_start 36 = .ok (.putfield 28, 3) := by decide +kernel
theorem dX8_start_39 : decode cX8_start 39 = .ok (.aload_n 0, 1) := by decide +kernel
theorem dX8_start_40 : decode cX8_start 40 = .ok (.iconst 0, 1) := by decide +kernel
theorem dX8_start_41 : decode cX8_start 41 = .ok (.putfield 31, 3) := by decide +kernel
theorem dX8_start_44 : decode cX8_start 44 = .ok (.aload_n 0, 1) := by decide +kernel
theorem dX8_start_45 : decode cX8_start 45 = .ok (.iconst 0, 1) := by decide +kernel
theorem dX8_start_46 : decode cX8_start 46 = .ok (.putfield 34, 3) := by decide +kernel
theorem dX8_start_49 : decode cX8_start 49 = .ok (.aload_n 0, 1) := by decide +kernel
theorem dX8_start_50 : decode cX8_start 50 = .ok (.iconst 0, 1) := by decide +kernel
theorem dX8_start_51 : decode cX8_start 51 = .ok (.invokevirtual 37, 3) := by decide +kernel
theorem dX8_start_54 : decode cX8_start 54 = .ok (.return_, 1) := by decide +kernel
theorem dX8_become_0 : decode cX8_become 0 = .ok (.aload_n 1, 1) := by decide +kernel
theorem dX8_become_1 : decode cX8_become 1 = .ok (.getfield 9, 3) := by decide +kernel
theorem dX8_become_4 : decode cX8_become 4 = .ok (.iconst 0, 1) := by decide +kernel
theorem dX8_become_5 : decode cX8_become 5 = .ok (.aload_n 0, 1) := by decide +kernel
theorem dX8_become_6 : decode cX8_become 6 = .ok (.getfield 9, 3) := by decide +kernel
theorem dX8_become_9 : decode cX8_become 9 = .ok (.iconst 0, 1) := by decide +kernel
theorem dX8_become_10 : decode cX8_become 10 = .ok (.bipush 8, 2) := by decide +kernel
theorem dX8_become_12 : decode cX8_become 12 = .ok (.invokestatic 41, 3) := by decide +kernel
theorem dX8_become_15 : decode cX8_become 15 = .ok (.aload_n 1, 1) := by decide +kernel
theorem dX8_become_16 : decode cX8_become 16 = .ok (.getfield 15, 3) := by decide +kernel
theorem dX8_become_19 : decode cX8_become 19 = .ok (.iconst 0, 1) := by decide +kernel
theorem dX8_become_20 : decode cX8_become 20 = .ok (.aload_n 0, 1) := by decide +kernel
theorem dX8_become_21 : decode cX8_become 21 = .ok (.getfield 15, 3) := by decide +kernel
theorem dX8_become_24 : decode cX8_become 24 = .ok (.iconst 0, 1) := by decide +kernel
theorem dX8_become_25 : decode cX8_become 25 = .ok (.bipush 7, 2) := by decide +kernel
theorem dX8_become_27 : decode cX8_become 27 = .ok (.invokestatic 41, 3) := by decide +kernel
theorem dX8_become_30 : decode cX8_become 30 = .ok (.aload_n 1, 1) := by decide +kernel
theorem dX8_become_31 : decode cX8_become 31 = .ok (.getfield 18, 3) := by decide +kernel
theorem dX8_become_34 : decode cX8_become 34 = .ok (.iconst 0, 1) := by decide +kernel
theorem dX8_become_35 : decode cX8_become 35 = .ok (.aload_n 0, 1) := by decide +kernel
theorem dX8_become_36 : decode cX8_become 36 = .ok (.getfield 18, 3) := by decide +kernel
theorem dX8_become_39 : decode cX8_become 39 = .ok (.iconst 0, 1) := by decide +kernel
theorem dX8_become_40 : decode cX8_become 40 = .ok (.bipush 7, 2) := by decide +kernel
theorem dX8_become_42 : decode cX8_become 42 = .ok (.invokestatic 41, 3) := by decide +kernel
theorem dX8_become_45 : decode cX8_become 45 = .ok (.aload_n 0, 1) := by decide +kernel
theorem dX8_become_46 : decode cX8_become 46 = .ok (.aload_n 1, 1) := by decide +kernel
theorem dX8_become_47 : decode cX8_become 47 = .ok (.getfield 21, 3) := by decide +kernel
theorem dX8_become_50 : decode cX8_become 50 = .ok (.putfield 21, 3) := by decide +kernel
theorem dX8_become_53 : decode cX8_become 53 = .ok (.aload_n 0, 1) := by decide +kernel
theorem dX8_become_54 : decode cX8_become 54 = .ok (.aload_n 1, 1) := by decide +kernel
theorem dX8_become_55 : decode cX8_become 55 = .ok (.getfield 25, 3) := by decide +kernel
theorem dX8_become_58 : decode cX8_become 58 = .ok (.putfield 25, 3) := by decide +kernel
theorem dX8_become_61 : decode cX8_become 61 = .ok (.aload_n 0, 1) := by decide +kernel
theorem dX8_become_62 : decode cX8_become 62 = .ok (.aload_n 1, 1) := by decide +kernel
theorem dX8_become_63 : decode cX8_become 63 = .ok (.getfield 28, 3) := by decide +kernel
theorem dX8_become_66 : decode cX8_become 66 = .ok (.putfield 28, 3) := by decide +kernel
theorem dX8_become_69 : decode cX8_become 69 = .ok (.aload_n 0, 1) := by decide +kernel
theorem dX8_become_70 : decode cX8_become 70 = .ok (.aload_n 1, 1) := by decide +kernel
theorem dX8_become_71 : decode cX8_become 71 = .ok (.getfield 31, 3) := by decide +kernel
theorem dX8_become_74 : decode cX8_become 74 = .ok (.putfield 31, 3) := by decide +kernel
theorem dX8_become_77 : decode cX8_become 77 = .ok (.aload_n 0, 1) := by decide +kernel
theorem dX8_become_78 : decode cX8_become 78 = .ok (.aload_n 1, 1) := by decide +kernel
theorem dX8_become_79 : decode cX8_become 79 = .ok (.getfield 34, 3) := by decide +kernel
theorem dX8_become_82 : decode cX8_become 82 = .ok (.putfield 34, 3) := by decide +kernel
theorem dX8_become_85 : decode cX8_become 85 = .ok (.return_, 1) := by decide +kernel
theorem dX8_enter_0 : decode cX8_enter 0 = .ok (.aload_n 0, 1) := by decide +kernel
theorem dX8_enter_1 : decode cX8_enter 1 = .ok (.iload_n 1, 1) := by decide +kernel
theorem dX8_enter_2 : decode cX8_enter 2 = .ok (.putfield 25, 3) := by decide +kernel
theorem dX8_enter_5 : decode cX8_enter 5 = .ok (.aload_n 0, 1) := by decide +kernel
theorem dX8_enter_6 : decode cX8_enter 6 = .ok (.iload_n 2, 1) := by decide +kernel
theorem dX8_enter_7 : decode cX8_enter 7 = .ok (.putfield 21, 3) := by decide +kernel
theorem dX8_enter_10 : decode cX8_enter 10 = .ok (.aload_n 0, 1) := by decide +kernel
theorem dX8_enter_11 : decode cX8_enter 11 = .ok (.iload_n 3, 1) := by decide +kernel
theorem dX8_enter_12 : decode cX8_enter 12 = .ok (.invokevirtual 37, 3) := by decide +kernel
theorem dX8_enter_15 : decode cX8_enter 15 = .ok (.return_, 1) := by decide +kernel
theorem dX8_setMark_0 : decode cX8_setMark 0 = .ok (.iload_n 1, 1) := by decide +kernel
theorem dX8_setMark_1 : decode cX8_setMark 1 = .ok (.ifCond .lt 22, 3) := by decide +kernel
theorem dX8_setMark_4 : decode cX8_setMark 4 = .ok (.iload_n 1, 1) := by decide +kernel
theorem dX8_setMark_5 : decode cX8_setMark 5 = .ok (.aload_n 0, 1) := by decide +kernel
theorem dX8_setMark_6 : decode cX8_setMark 6 = .ok (.getfield 15, 3) := by decide +kernel
theorem dX8_setMark_9 : decode cX8_setMark 9 = .ok (.arraylength, 1) := by decide +kernel
theorem dX8_setMark_10 : decode cX8_setMark 10 = .ok (.if_icmp .ge 13, 3) := by decide +kernel
theorem dX8_setMark_13 : decode cX8_setMark 13 = .ok (.aload_n 0, 1) := by decide +kernel
theorem dX8_setMark_14 : decode cX8_setMark 14 = .ok (.getfield 15, 3) := by decide +kernel
theorem dX8_setMark_17 : decode cX8_setMark 17 = .ok (.iload_n 1, 1) := by decide +kernel
theorem dX8_setMark_18 : decode cX8_setMark 18 = .ok (.aload_n 0, 1) := by decide +kernel
theorem dX8_setMark_19 : decode cX8_setMark 19 = .ok (.getfield 28, 3) := by decide +kernel
theorem dX8_setMark_22 : decode cX8_setMark 22 = .ok (.iastore, 1) := by decide +kernel
theorem dX8_setMark_23 : decode cX8_setMark 23 = .ok (.return_, 1) := by decide +kernel
theorem dX8_markAt_0 : decode cX8_markAt 0 = .ok (.iload_n 1, 1) := by decide +kernel
theorem dX8_markAt_1 : decode cX8_markAt 1 = .ok (.ifCond .lt 21, 3) := by decide +kernel
theorem dX8_markAt_4 : decode cX8_markAt 4 = .ok (.iload_n 1, 1) := by decide +kernel
theorem dX8_markAt_5 : decode cX8_markAt 5 = .ok (.aload_n 0, 1) := by decide +kernel
theorem dX8_markAt_6 : decode cX8_markAt 6 = .ok (.getfield 15, 3) := by decide +kernel
theorem dX8_markAt_9 : decode cX8_markAt 9 = .ok (.arraylength, 1) := by decide +kernel
theorem dX8_markAt_10 : decode cX8_markAt 10 = .ok (.if_icmp .ge 12, 3) := by decide +kernel
theorem dX8_markAt_13 : decode cX8_markAt 13 = .ok (.aload_n 0, 1) := by decide +kernel
theorem dX8_markAt_14 : decode cX8_markAt 14 = .ok (.getfield 15, 3) := by decide +kernel
theorem dX8_markAt_17 : decode cX8_markAt 17 = .ok (.iload_n 1, 1) := by decide +kernel
theorem dX8_markAt_18 : decode cX8_markAt 18 = .ok (.iaload, 1) := by decide +kernel
theorem dX8_markAt_19 : decode cX8_markAt 19 = .ok (.goto 4, 3) := by decide +kernel
theorem dX8_markAt_22 : decode cX8_markAt 22 = .ok (.iconst 0, 1) := by decide +kernel
theorem dX8_markAt_23 : decode cX8_markAt 23 = .ok (.ireturn, 1) := by decide +kernel
theorem dX8_setRounds_0 : decode cX8_setRounds 0 = .ok (.iload_n 1, 1) := by decide +kernel
theorem dX8_setRounds_1 : decode cX8_setRounds 1 = .ok (.ifCond .lt 19, 3) := by decide +kernel
theorem dX8_setRounds_4 : decode cX8_setRounds 4 = .ok (.iload_n 1, 1) := by decide +kernel
theorem dX8_setRounds_5 : decode cX8_setRounds 5 = .ok (.aload_n 0, 1) := by decide +kernel
theorem dX8_setRounds_6 : decode cX8_setRounds 6 = .ok (.getfield 18, 3) := by decide +kernel
theorem dX8_setRounds_9 : decode cX8_setRounds 9 = .ok (.arraylength, 1) := by decide +kernel
theorem dX8_setRounds_10 : decode cX8_setRounds 10 = .ok (.if_icmp .ge 10, 3) := by decide +kernel
theorem dX8_setRounds_13 : decode cX8_setRounds 13 = .ok (.aload_n 0, 1) := by decide +kernel
theorem dX8_setRounds_14 : decode cX8_setRounds 14 = .ok (.getfield 18, 3) := by decide +kernel
theorem dX8_setRounds_17 : decode cX8_setRounds 17 = .ok (.iload_n 1, 1) := by decide +kernel
theorem dX8_setRounds_18 : decode cX8_setRounds 18 = .ok (.iload_n 2, 1) := by decide +kernel
theorem dX8_setRounds_19 : decode cX8_setRounds 19 = .ok (.iastore, 1) := by decide +kernel
theorem dX8_setRounds_20 : decode cX8_setRounds 20 = .ok (.return_, 1) := by decide +kernel
theorem dX8_roundsAt_0 : decode cX8_roundsAt 0 = .ok (.iload_n 1, 1) := by decide +kernel
theorem dX8_roundsAt_1 : decode cX8_roundsAt 1 = .ok (.ifCond .lt 21, 3) := by decide +kernel
theorem dX8_roundsAt_4 : decode cX8_roundsAt 4 = .ok (.iload_n 1, 1) := by decide +kernel
theorem dX8_roundsAt_5 : decode cX8_roundsAt 5 = .ok (.aload_n 0, 1) := by decide +kernel
theorem dX8_roundsAt_6 : decode cX8_roundsAt 6 = .ok (.getfield 18, 3) := by decide +kernel
theorem dX8_roundsAt_9 : decode cX8_roundsAt 9 = .ok (.arraylength, 1) := by decide +kernel
theorem dX8_roundsAt_10 : decode cX8_roundsAt 10 = .ok (.if_icmp .ge 12, 3) := by decide +kernel
theorem dX8_roundsAt_13 : decode cX8_roundsAt 13 = .ok (.aload_n 0, 1) := by decide +kernel
theorem dX8_roundsAt_14 : decode cX8_roundsAt 14 = .ok (.getfield 18, 3) := by decide +kernel
theorem dX8_roundsAt_17 : decode cX8_roundsAt 17 = .ok (.iload_n 1, 1) := by decide +kernel
theorem dX8_roundsAt_18 : decode cX8_roundsAt 18 = .ok (.iaload, 1) := by decide +kernel
theorem dX8_roundsAt_19 : decode cX8_roundsAt 19 = .ok (.goto 4, 3) := by decide +kernel
theorem dX8_roundsAt_22 : decode cX8_roundsAt 22 = .ok (.iconst 0, 1) := by decide +kernel
theorem dX8_roundsAt_23 : decode cX8_roundsAt 23 = .ok (.ireturn, 1) := by decide +kernel
theorem dX8_setValue_0 : decode cX8_setValue 0 = .ok (.iload_n 1, 1) := by decide +kernel
theorem dX8_setValue_1 : decode cX8_setValue 1 = .ok (.ifCond .lt 19, 3) := by decide +kernel
theorem dX8_setValue_4 : decode cX8_setValue 4 = .ok (.iload_n 1, 1) := by decide +kernel
theorem dX8_setValue_5 : decode cX8_setValue 5 = .ok (.aload_n 0, 1) := by decide +kernel
theorem dX8_setValue_6 : decode cX8_setValue 6 = .ok (.getfield 9, 3) := by decide +kernel
theorem dX8_setValue_9 : decode cX8_setValue 9 = .ok (.arraylength, 1) := by decide +kernel
theorem dX8_setValue_10 : decode cX8_setValue 10 = .ok (.if_icmp .ge 10, 3) := by decide +kernel
theorem dX8_setValue_13 : decode cX8_setValue 13 = .ok (.aload_n 0, 1) := by decide +kernel
theorem dX8_setValue_14 : decode cX8_setValue 14 = .ok (.getfield 9, 3) := by decide +kernel
theorem dX8_setValue_17 : decode cX8_setValue 17 = .ok (.iload_n 1, 1) := by decide +kernel
theorem dX8_setValue_18 : decode cX8_setValue 18 = .ok (.iload_n 2, 1) := by decide +kernel
theorem dX8_setValue_19 : decode cX8_setValue 19 = .ok (.iastore, 1) := by decide +kernel
theorem dX8_setValue_20 : decode cX8_setValue 20 = .ok (.return_, 1) := by decide +kernel
theorem dX8_valueOf_0 : decode cX8_valueOf 0 = .ok (.iload_n 1, 1) := by decide +kernel
theorem dX8_valueOf_1 : decode cX8_valueOf 1 = .ok (.ifCond .lt 21, 3) := by decide +kernel
theorem dX8_valueOf_4 : decode cX8_valueOf 4 = .ok (.iload_n 1, 1) := by decide +kernel
theorem dX8_valueOf_5 : decode cX8_valueOf 5 = .ok (.aload_n 0, 1) := by decide +kernel
theorem dX8_valueOf_6 : decode cX8_valueOf 6 = .ok (.getfield 9, 3) := by decide +kernel
theorem dX8_valueOf_9 : decode cX8_valueOf 9 = .ok (.arraylength, 1) := by decide +kernel
theorem dX8_valueOf_10 : decode cX8_valueOf 10 = .ok (.if_icmp .ge 12, 3) := by decide +kernel
theorem dX8_valueOf_13 : decode cX8_valueOf 13 = .ok (.aload_n 0, 1) := by decide +kernel
theorem dX8_valueOf_14 : decode cX8_valueOf 14 = .ok (.getfield 9, 3) := by decide +kernel
theorem dX8_valueOf_17 : decode cX8_valueOf 17 = .ok (.iload_n 1, 1) := by decide +kernel
theorem dX8_valueOf_18 : decode cX8_valueOf 18 = .ok (.iaload, 1) := by decide +kernel
theorem dX8_valueOf_19 : decode cX8_valueOf 19 = .ok (.goto 4, 3) := by decide +kernel
theorem dX8_valueOf_22 : decode cX8_valueOf 22 = .ok (.iconst 0, 1) := by decide +kernel
theorem dX8_valueOf_23 : decode cX8_valueOf 23 = .ok (.ireturn, 1) := by decide +kernel
theorem dX8_unlikeValues_0 : decode cX8_unlikeValues 0 = .ok (.iconst 0, 1) := by decide +kernel
theorem dX8_unlikeValues_1 : decode cX8_unlikeValues 1 = .ok (.istore_n 2, 1) := by decide +kernel
theorem dX8_unlikeValues_2 : decode cX8_unlikeValues 2 = .ok (.iconst 0, 1) := by decide +kernel
theorem dX8_unlikeValues_3 : decode cX8_unlikeValues 3 = .ok (.istore_n 3, 1) := by decide +kernel
theorem dX8_unlikeValues_4 : decode cX8_unlikeValues 4 = .ok (.iload_n 3, 1) := by decide +kernel
theorem dX8_unlikeValues_5 : decode cX8_unlikeValues 5 = .ok (.bipush 8, 2) := by decide +kernel
theorem dX8_unlikeValues_7 : decode cX8_unlikeValues 7 = .ok (.if_icmp .ge 30, 3) := by decide +kernel
theorem dX8_unlikeValues_10 : decode cX8_unlikeValues 10 = .ok (.iload_n 2, 1) := by decide +kernel
theorem dX8_unlikeValues_11 : decode cX8_unlikeValues 11 = .ok (.aload_n 0, 1) := by decide +kernel
theorem dX8_unlikeValues_12 : decode cX8_unlikeValues 12 = .ok (.iload_n 3, 1) := by decide +kernel
theorem dX8_unlikeValues_13 : decode cX8_unlikeValues 13 = .ok (.invokevirtual 47, 3) := by decide +kernel
theorem dX8_unlikeValues_16 : decode cX8_unlikeValues 16 = .ok (.aload_n 1, 1) := by decide +kernel
theorem dX8_unlikeValues_17 : decode cX8_unlikeValues 17 = .ok (.iload_n 3, 1) := by decide +kernel
theorem dX8_unlikeValues_18 : decode cX8_unlikeValues 18 = .ok (.invokevirtual 47, 3) := by decide +kernel
theorem dX8_unlikeValues_21 : decode cX8_unlikeValues 21 = .ok (.if_icmp .eq 7, 3) := by decide +kernel
theorem dX8_unlikeValues_24 : decode cX8_unlikeValues 24 = .ok (.iconst 1, 1) := by decide +kernel
theorem dX8_unlikeValues_25 : decode cX8_unlikeValues 25 = .ok (.goto 4, 3) := by decide +kernel
theorem dX8_unlikeValues_28 : decode cX8_unlikeValues 28 = .ok (.iconst 0, 1) := by decide +kernel
theorem dX8_unlikeValues_29 : decode cX8_unlikeValues 29 = .ok (.iadd, 1) := by decide +kernel
theorem dX8_unlikeValues_30 : decode cX8_unlikeValues 30 = .ok (.istore_n 2, 1) := by decide +kernel
theorem dX8_unlikeValues_31 : decode cX8_unlikeValues 31 = .ok (.iinc 3 1, 3) := by decide +kernel
theorem dX8_unlikeValues_34 : decode cX8_unlikeValues 34 = .ok (.goto (-30), 3) := by decide +kernel
theorem dX8_unlikeValues_37 : decode cX8_unlikeValues 37 = .ok (.iload_n 2, 1) := by decide +kernel
theorem dX8_unlikeValues_38 : decode cX8_unlikeValues 38 = .ok (.ireturn, 1) := by decide +kernel
