theorem dX10_init_0 : decode cX10_init 0 = .ok (.aload_n 0, 1) := by decide +kernel
theorem dX10_init_1 : decode cX10_init 1 = .ok (.invokespecial 3, 3) := by decide +kernel
theorem dX10_init_4 : decode cX10_init 4 = .ok (.aload_n 0, 1) := by decide +kernel
theorem dX10_init_5 : decode cX10_init 5 = .ok (.sipush 150, 3) := by decide +kernel
theorem dX10_init_8 : decode cX10_init 8 = .ok (.newarray .int, 2) := by decide +kernel
theorem dX10_init_10 : decode cX10_init 10 = .ok (.putfield 9, 3) := by decide +kernel
theorem dX10_init_13 : decode cX10_init 13 = .ok (.aload_n 0, 1) := by decide +kernel
theorem dX10_init_14 : decode cX10_init 14 = .ok (.ldc 13, 2) := by decide +kernel
theorem dX10_init_16 : decode cX10_init 16 = .ok (.newarray .int, 2) := by decide +kernel
theorem dX10_init_18 : decode cX10_init 18 = .ok (.putfield 14, 3) := by decide +kernel
theorem dX10_init_21 : decode cX10_init 21 = .ok (.aload_n 0, 1) := by decide +kernel
theorem dX10_init_22 : decode cX10_init 22 = .ok (.ldc 13, 2) := by decide +kernel
theorem dX10_init_24 : decode cX10_init 24 = .ok (.newarray .int, 2) := by decide +kernel
theorem dX10_init_26 : decode cX10_init 26 = .ok (.putfield 17, 3) := by decide +kernel
theorem dX10_init_29 : decode cX10_init 29 = .ok (.aload_n 0, 1) := by decide +kernel
theorem dX10_init_30 : decode cX10_init 30 = .ok (.ldc 13, 2) := by decide +kernel
theorem dX10_init_32 : decode cX10_init 32 = .ok (.newarray .int, 2) := by decide +kernel
theorem dX10_init_34 : decode cX10_init 34 = .ok (.putfield 20, 3) := by decide +kernel
theorem dX10_init_37 : decode cX10_init 37 = .ok (.aload_n 0, 1) := by decide +kernel
theorem dX10_init_38 : decode cX10_init 38 = .ok (.ldc 13, 2) := by decide +kernel
theorem dX10_init_40 : decode cX10_init 40 = .ok (.newarray .int, 2) := by decide +kernel
theorem dX10_init_42 : decode cX10_init 42 = .ok (.putfield 23, 3) := by decide +kernel
theorem dX10_init_45 : decode cX10_init 45 = .ok (.aload_n 0, 1) := by decide +kernel
theorem dX10_init_46 : decode cX10_init 46 = .ok (.ldc 13, 2) := by decide +kernel
theorem dX10_init_48 : decode cX10_init 48 = .ok (.newarray .int, 2) := by decide +kernel
theorem dX10_init_50 : decode cX10_init 50 = .ok (.putfield 26, 3) := by decide +kernel
theorem dX10_init_53 : decode cX10_init 53 = .ok (.aload_n 0, 1) := by decide +kernel
theorem dX10_init_54 : decode cX10_init 54 = .ok (.iconst 4, 1) := by decide +kernel
theorem dX10_init_55 : decode cX10_init 55 = .ok (.newarray .int, 2) := by decide +kernel
theorem dX10_init_57 : decode cX10_init 57 = .ok (.dup, 1) := by decide +kernel
theorem dX10_init_58 : decode cX10_init 58 = .ok (.iconst 0, 1) := by decide +kernel
theorem dX10_init_59 : decode cX10_init 59 = .ok (.iconst (-1), 1) := by decide +kernel
theorem dX10_init_60 : decode cX10_init 60 = .ok (.iastore, 1) := by decide +kernel
theorem dX10_init_61 : decode cX10_init 61 = .ok (.dup, 1) := by decide +kernel
theorem dX10_init_62 : decode cX10_init 62 = .ok (.iconst 1, 1) := by decide +kernel
theorem dX10_init_63 : decode cX10_init 63 = .ok (.iconst (-1), 1) := by decide +kernel
theorem dX10_init_64 : decode cX10_init 64 = .ok (.iastore, 1) := by decide +kernel
theorem dX10_init_65 : decode cX10_init 65 = .ok (.dup, 1) := by decide +kernel
theorem dX10_init_66 : decode cX10_init 66 = .ok (.iconst 2, 1) := by decide +kernel
theorem dX10_init_67 : decode cX10_init 67 = .ok (.iconst (-1), 1) := by decide +kernel
theorem dX10_init_68 : decode cX10_init 68 = .ok (.iastore, 1) := by decide +kernel
theorem dX10_init_69 : decode cX10_init 69 = .ok (.dup, 1) := by decide +kernel
theorem dX10_init_70 : decode cX10_init 70 = .ok (.iconst 3, 1) := by decide +kernel
theorem dX10_init_71 : decode cX10_init 71 = .ok (.iconst (-1), 1) := by decide +kernel
theorem dX10_init_72 : decode cX10_init 72 = .ok (.iastore, 1) := by decide +kernel
theorem dX10_init_73 : decode cX10_init 73 = .ok (.putfield 29, 3) := by decide +kernel
theorem dX10_init_76 : decode cX10_init 76 = .ok (.aload_n 0, 1) := by decide +kernel
theorem dX10_init_77 : decode cX10_init 77 = .ok (.iconst 4, 1) := by decide +kernel
theorem dX10_init_78 : decode cX10_init 78 = .ok (.newarray .int, 2) := by decide +kernel
theorem dX10_init_80 : decode cX10_init 80 = .ok (.dup, 1) := by decide +kernel
theorem dX10_init_81 : decode cX10_init 81 = .ok (.iconst 0, 1) := by decide +kernel
theorem dX10_init_82 : decode cX10_init 82 = .ok (.iconst (-1), 1) := by decide +kernel
theorem dX10_init_83 : decode cX10_init 83 = .ok (.iastore, 1) := by decide +kernel
theorem dX10_init_84 : decode cX10_init 84 = .ok (.dup, 1) := by decide +kernel
theorem dX10_init_85 : decode cX10_init 85 = .ok (.iconst 1, 1) := by decide +kernel
theorem dX10_init_86 : decode cX10_init 86 = .ok (.iconst (-1), 1) := by decide +kernel
theorem dX10_init_87 : decode cX10_init 87 = .ok (.iastore, 1) := by decide +kernel
theorem dX10_init_88 : decode cX10_init 88 = .ok (.dup, 1) := by decide +kernel
theorem dX10_init_89 : decode cX10_init 89 = .ok (.iconst 2, 1) := by decide +kernel
theorem dX10_init_90 : decode cX10_init 90 = .ok (.iconst (-1), 1) := by decide +kernel
theorem dX10_init_91 : decode cX10_init 91 = .ok (.iastore, 1) := by decide +kernel
theorem dX10_init_92 : decode cX10_init 92 = .ok (.dup, 1) := by decide +kernel
theorem dX10_init_93 : decode cX10_init 93 = .ok (.iconst 3, 1) := by decide +kernel
theorem dX10_init_94 : decode cX10_init 94 = .ok (.iconst (-1), 1) := by decide +kernel
theorem dX10_init_95 : decode cX10_init 95 = .ok (.iastore, 1) := by decide +kernel
theorem dX10_init_96 : decode cX10_init 96 = .ok (.putfield 32, 3) := by decide +kernel
theorem dX10_init_99 : decode cX10_init 99 = .ok (.aload_n 0, 1) := by decide +kernel
theorem dX10_init_100 : decode cX10_init 100 = .ok (.sipush 19245, 3) := by decide +kernel
theorem dX10_init_103 : decode cX10_init 103 = .ok (.newarray .int, 2) := by decide +kernel
theorem dX10_init_105 : decode cX10_init 105 = .ok (.putfield 35, 3) := by decide +kernel
theorem dX10_init_108 : decode cX10_init 108 = .ok (.aload_n 0, 1) := by decide +kernel
theorem dX10_init_109 : decode cX10_init 109 = .ok (.bipush 6, 2) := by decide +kernel
theorem dX10_init_111 : decode cX10_init 111 = .ok (.newarray .int, 2) := by decide +kernel
theorem dX10_init_113 : decode cX10_init 113 = .ok (.putfield 38, 3) := by decide +kernel
theorem dX10_init_116 : decode cX10_init 116 = .ok (.return_, 1) := by decide +kernel
theorem dX10_in_0 : decode cX10_in 0 = .ok (.lload_n 0, 1) := by decide +kernel
theorem dX10_in_1 : decode cX10_in 1 = .ok (.lload_n 2, 1) := by decide +kernel
theorem dX10_in_2 : decode cX10_in 2 = .ok (.lcmp, 1) := by decide +kernel
theorem dX10_in_3 : decode cX10_in 3 = .ok (.ifCond .lt 14, 3) := by decide +kernel
theorem dX10_in_6 : decode cX10_in 6 = .ok (.lload_n 0, 1) := by decide +kernel
theorem dX10_in_7 : decode cX10_in 7 = .ok (.lload 4, 2) := by decide +kernel
theorem dX10_in_9 : decode cX10_in 9 = .ok (.lcmp, 1) := by decide +kernel
theorem dX10_in_10 : decode cX10_in 10 = .ok (.ifCond .gt 7, 3) := by decide +kernel
theorem dX10_in_13 : decode cX10_in 13 = .ok (.iconst 1, 1) := by decide +kernel
theorem dX10_in_14 : decode cX10_in 14 = .ok (.goto 4, 3) := by decide +kernel
theorem dX10_in_17 : decode cX10_in 17 = .ok (.iconst 0, 1) := by decide +kernel
theorem dX10_in_18 : decode cX10_in 18 = .ok (.ireturn, 1) := by decide +kernel
theorem dX10_feed_0 : decode cX10_feed 0 = .ok (.iload_n 1, 1) := by decide +kernel
theorem dX10_feed_1 : decode cX10_feed 1 = .ok (.i2l, 1) := by decide +kernel
theorem dX10_feed_2 : decode cX10_feed 2 = .ok (.lconst 1, 1) := by decide +kernel
theorem dX10_feed_3 : decode cX10_feed 3 = .ok (.ldc2_w 41, 3) := by decide +kernel
theorem dX10_feed_6 : decode cX10_feed 6 = .ok (.invokestatic 43, 3) := by decide +kernel
theorem dX10_feed_9 : decode cX10_feed 9 = .ok (.ifCond .ne 7, 3) := by decide +kernel
theorem dX10_feed_12 : decode cX10_feed 12 = .ok (.sipush (-2001), 3) := by decide +kernel
theorem dX10_feed_15 : decode cX10_feed 15 = .ok (.ireturn, 1) := by decide +kernel
theorem dX10_feed_16 : decode cX10_feed 16 = .ok (.aload_n 0, 1) := by decide +kernel
theorem dX10_feed_17 : decode cX10_feed 17 = .ok (.getfield 47, 3) := by decide +kernel
theorem dX10_feed_20 : decode cX10_feed 20 = .ok (.sipush 150, 3) := by decide +kernel
theorem dX10_feed_23 : decode cX10_feed 23 = .ok (.if_icmp .ne 7, 3) := by decide +kernel
theorem dX10_feed_26 : decode cX10_feed 26 = .ok (.sipush (-2002), 3) := by decide +kernel
theorem dX10_feed_29 : decode cX10_feed 29 = .ok (.ireturn, 1) := by decide +kernel
theorem dX10_feed_30 : decode cX10_feed 30 = .ok (.aload_n 0, 1) := by decide +kernel
theorem dX10_feed_31 : decode cX10_feed 31 = .ok (.getfield 9, 3) := by decide +kernel
theorem dX10_feed_34 : decode cX10_feed 34 = .ok (.aload_n 0, 1) := by decide +kernel
theorem dX10_feed_35 : decode cX10_feed 35 = .ok (.getfield 47, 3) := by decide +kernel
theorem dX10_feed_38 : decode cX10_feed 38 = .ok (.iload_n 1, 1) := by decide +kernel
theorem dX10_feed_39 : decode cX10_feed 39 = .ok (.iastore, 1) := by decide +kernel
theorem dX10_feed_40 : decode cX10_feed 40 = .ok (.aload_n 0, 1) := by decide +kernel
theorem dX10_feed_41 : decode cX10_feed 41 = .ok (.dup, 1) := by decide +kernel
theorem dX10_feed_42 : decode cX10_feed 42 = .ok (.getfield 47, 3) := by decide +kernel
theorem dX10_feed_45 : decode cX10_feed 45 = .ok (.iconst 1, 1) := by decide +kernel
theorem dX10_feed_46 : decode cX10_feed 46 = .ok (.iadd, 1) := by decide +kernel
theorem dX10_feed_47 : decode cX10_feed 47 = .ok (.putfield 47, 3) := by decide +kernel
theorem dX10_feed_50 : decode cX10_feed 50 = .ok (.aload_n 0, 1) := by decide +kernel
theorem dX10_feed_51 : decode cX10_feed 51 = .ok (.getfield 47, 3) := by decide +kernel
theorem dX10_feed_54 : decode cX10_feed 54 = .ok (.ireturn, 1) := by decide +kernel
theorem dX10_byteAt_0 : decode cX10_byteAt 0 = .ok (.iload_n 1, 1) := by decide +kernel
theorem dX10_byteAt_1 : decode cX10_byteAt 1 = .ok (.aload_n 0, 1) := by decide +kernel
theorem dX10_byteAt_2 : decode cX10_byteAt 2 = .ok (.getfield 47, 3) := by decide +kernel
theorem dX10_byteAt_5 : decode cX10_byteAt 5 = .ok (.if_icmp .ge 12, 3) := by decide +kernel
theorem dX10_byteAt_8 : decode cX10_byteAt 8 = .ok (.aload_n 0, 1) := by decide +kernel
theorem dX10_byteAt_9 : decode cX10_byteAt 9 = .ok (.getfield 9, 3) := by decide +kernel
theorem dX10_byteAt_12 : decode cX10_byteAt 12 = .ok (.iload_n 1, 1) := by decide +kernel
theorem dX10_byteAt_13 : decode cX10_byteAt 13 = .ok (.iaload, 1) := by decide +kernel
theorem dX10_byteAt_14 : decode cX10_byteAt 14 = .ok (.goto 4, 3) := by decide +kernel
theorem dX10_byteAt_17 : decode cX10_byteAt 17 = .ok (.iconst 0, 1) := by decide +kernel
theorem dX10_byteAt_18 : decode cX10_byteAt 18 = .ok (.ireturn, 1) := by decide +kernel
theorem dX10_peek_0 : decode cX10_peek 0 = .ok (.aload_n 0, 1) := by decide +kernel
theorem dX10_peek_1 : decode cX10_peek 1 = .ok (.aload_n 0, 1) := by decide +kernel
theorem dX10_peek_2 : decode cX10_peek 2 = .ok (.getfield 51, 3) := by decide +kernel
theorem dX10_peek_5 : decode cX10_peek 5 = .ok (.invokevirtual 54, 3) := by decide +kernel
theorem dX10_peek_8 : decode cX10_peek 8 = .ok (.ireturn, 1) := by decide +kernel
theorem dX10_wrong_0 : decode cX10_wrong 0 = .ok (.aload_n 0, 1) := by decide +kernel
theorem dX10_wrong_1 : decode cX10_wrong 1 = .ok (.aload_n 0, 1) := by decide +kernel
theorem dX10_wrong_2 : decode cX10_wrong 2 = .ok (.getfield 58, 3) := by decide +kernel
theorem dX10_wrong_5 : decode cX10_wrong 5 = .ok (.ifCond .ge 7, 3) := by decide +kernel
theorem dX10_wrong_8 : decode cX10_wrong 8 = .ok (.iload_n 1, 1) := by decide +kernel
theorem dX10_wrong_9 : decode cX10_wrong 9 = .ok (.goto 7, 3) := by decide +kernel
theorem dX10_wrong_12 : decode cX10_wrong 12 = .ok (.aload_n 0, 1) := by decide +kernel
theorem dX10_wrong_13 : decode cX10_wrong 13 = .ok (.getfield 58, 3) := by decide +kernel
theorem dX10_wrong_16 : decode cX10_wrong 16 = .ok (.putfield 58, 3) := by decide +kernel
theorem dX10_wrong_19 : decode cX10_wrong 19 = .ok (.return_, 1) := by decide +kernel
theorem dX10_takes_0 : decode cX10_takes 0 = .ok (.aload_n 0, 1) := by decide +kernel
theorem dX10_takes_1 : decode cX10_takes 1 = .ok (.getfield 58, 3) := by decide +kernel
theorem dX10_takes_4 : decode cX10_takes 4 = .ok (.ifCond .ge 11, 3) := by decide +kernel
theorem dX10_takes_7 : decode cX10_takes 7 = .ok (.aload_n 0, 1) := by decide +kernel
theorem dX10_takes_8 : decode cX10_takes 8 = .ok (.invokevirtual 61, 3) := by decide +kernel
theorem dX10_takes_11 : decode cX10_takes 11 = .ok (.iload_n 1, 1) := by decide +kernel
theorem dX10_takes_12 : decode cX10_takes 12 = .ok (.if_icmp .eq 5, 3) := by decide +kernel
theorem dX10_takes_15 : decode cX10_takes 15 = .ok (.iconst 0, 1) := by decide +kernel
theorem dX10_takes_16 : decode cX10_takes 16 = .ok (.ireturn, 1) := by decide +kernel
theorem dX10_takes_17 : decode cX10_takes 17 = .ok (.aload_n 0, 1) := by decide +kernel
theorem dX10_takes_18 : decode cX10_takes 18 = .ok (.dup, 1) := by decide +kernel
theorem dX10_takes_19 : decode cX10_takes 19 = .ok (.getfield 51, 3) := by decide +kernel
theorem dX10_takes_22 : decode cX10_takes 22 = .ok (.iconst 1, 1) := by decide +kernel
theorem dX10_takes_23 : decode cX10_takes 23 = .ok (.iadd, 1) := by decide +kernel
theorem dX10_takes_24 : decode cX10_takes 24 = .ok (.putfield 51, 3) := by decide +kernel
theorem dX10_takes_27 : decode cX10_takes 27 = .ok (.iconst 1, 1) := by decide +kernel
theorem dX10_takes_28 : decode cX10_takes 28 = .ok (.ireturn, 1) := by decide +kernel
theorem dX10_wants_0 : decode cX10_wants 0 = .ok (.aload_n 0, 1) := by decide +kernel
theorem dX10_wants_1 : decode cX10_wants 1 = .ok (.iload_n 1, 1) := by decide +kernel
theorem dX10_wants_2 : decode cX10_wants 2 = .ok (.invokevirtual 65, 3) := by decide +kernel
theorem dX10_wants_5 : decode cX10_wants 5 = .ok (.ifCond .ne 11, 3) := by decide +kernel
theorem dX10_wants_8 : decode cX10_wants 8 = .ok (.aload_n 0, 1) := by decide +kernel
theorem dX10_wants_9 : decode cX10_wants 9 = .ok (.aload_n 0, 1) := by decide +kernel
theorem dX10_wants_10 : decode cX10_wants 10 = .ok (.getfield 51, 3) := by decide +kernel
theorem dX10_wants_13 : decode cX10_wants 13 = .ok (.invokevirtual 69, 3) := by decide +kernel
theorem dX10_wants_16 : decode cX10_wants 16 = .ok (.return_, 1) := by decide +kernel
theorem dX10_writes_0 : decode cX10_writes 0 = .ok (.aload_n 0, 1) := by decide +kernel
theorem dX10_writes_1 : decode cX10_writes 1 = .ok (.getfield 58, 3) := by decide +kernel
theorem dX10_writes_4 : decode cX10_writes 4 = .ok (.ifCond .lt 12, 3) := by decide +kernel
theorem dX10_writes_7 : decode cX10_writes 7 = .ok (.aload_n 0, 1) := by decide +kernel
theorem dX10_writes_8 : decode cX10_writes 8 = .ok (.getfield 73, 3) := by decide +kernel
theorem dX10_writes_11 : decode cX10_writes 11 = .ok (.sipush 260, 3) := by decide +kernel
theorem dX10_writes_14 : decode cX10_writes 14 = .ok (.imul, 1) := by decide +kernel
theorem dX10_writes_15 : decode cX10_writes 15 = .ok (.ireturn, 1) := by decide +kernel
theorem dX10_writes_16 : decode cX10_writes 16 = .ok (.aload_n 0, 1) := by decide +kernel
theorem dX10_writes_17 : decode cX10_writes 17 = .ok (.getfield 73, 3) := by decide +kernel
theorem dX10_writes_20 : decode cX10_writes 20 = .ok (.sipush 260, 3) := by decide +kernel
theorem dX10_writes_23 : decode cX10_writes 23 = .ok (.imul, 1) := by decide +kernel
theorem dX10_writes_24 : decode cX10_writes 24 = .ok (.aload_n 0, 1) := by decide +kernel
theorem dX10_writes_25 : decode cX10_writes 25 = .ok (.getfield 76, 3) := by decide +kernel
theorem dX10_writes_28 : decode cX10_writes 28 = .ok (.iadd, 1) := by decide +kernel
theorem dX10_writes_29 : decode cX10_writes 29 = .ok (.istore 5, 2) := by decide +kernel
theorem dX10_writes_31 : decode cX10_writes 31 = .ok (.aload_n 0, 1) := by decide +kernel
theorem dX10_writes_32 : decode cX10_writes 32 = .ok (.getfield 14, 3) := by decide +kernel
theorem dX10_writes_35 : decode cX10_writes 35 = .ok (.iload 5, 2) := by decide +kernel
theorem dX10_writes_37 : decode cX10_writes 37 = .ok (.iload_n 1, 1) := by decide +kernel
theorem dX10_writes_38 : decode cX10_writes 38 = .ok (.iastore, 1) := by decide +kernel
theorem dX10_writes_39 : decode cX10_writes 39 = .ok (.aload_n 0, 1) := by decide +kernel
theorem dX10_writes_40 : decode cX10_writes 40 = .ok (.getfield 17, 3) := by decide +kernel
theorem dX10_writes_43 : decode cX10_writes 43 = .ok (.iload 5, 2) := by decide +kernel
theorem dX10_writes_45 : decode cX10_writes 45 = .ok (.iload_n 2, 1) := by decide +kernel
theorem dX10_writes_46 : decode cX10_writes 46 = .ok (.iastore, 1) := by decide +kernel
theorem dX10_writes_47 : decode cX10_writes 47 = .ok (.aload_n 0, 1) := by decide +kernel
theorem dX10_writes_48 : decode cX10_writes 48 = .ok (.getfield 20, 3) := by decide +kernel
theorem dX10_writes_51 : decode cX10_writes 51 = .ok (.iload 5, 2) := by decide +kernel
theorem dX10_writes_53 : decode cX10_writes 53 = .ok (.iload_n 3, 1) := by decide +kernel
theorem dX10_writes_54 : decode cX10_writes 54 = .ok (.iastore, 1) := by decide +kernel
theorem dX10_writes_55 : decode cX10_writes 55 = .ok (.aload_n 0, 1) := by decide +kernel
theorem dX10_writes_56 : decode cX10_writes 56 = .ok (.getfield 23, 3) := by decide +kernel
theorem dX10_writes_59 : decode cX10_writes 59 = .ok (.iload 5, 2) := by decide +kernel
theorem dX10_writes_61 : decode cX10_writes 61 = .ok (.iload 4, 2) := by decide +kernel
theorem dX10_writes_63 : decode cX10_writes 63 = .ok (.iastore, 1) := by decide +kernel
theorem dX10_writes_64 : decode cX10_writes 64 = .ok (.aload_n 0, 1) := by decide +kernel
theorem dX10_writes_65 : decode cX10_writes 65 = .ok (.getfield 26, 3) := by decide +kernel
theorem dX10_writes_68 : decode cX10_writes 68 = .ok (.iload 5, 2) := by decide +kernel
theorem dX10_writes_70 : decode cX10_writes 70 = .ok (.iconst (-1), 1) := by decide +kernel
theorem dX10_writes_71 : decode cX10_writes 71 = .ok (.iastore, 1) := by decide +kernel
theorem dX10_writes_72 : decode cX10_writes 72 = .ok (.aload_n 0, 1) := by decide +kernel
theorem dX10_writes_73 : decode cX10_writes 73 = .ok (.dup, 1) := by decide +kernel
theorem dX10_writes_74 : decode cX10_writes 74 = .ok (.getfield 76, 3) := by decide +kernel
theorem dX10_writes_77 : decode cX10_writes 77 = .ok (.iconst 1, 1) := by decide +kernel
theorem dX10_writes_78 : decode cX10_writes 78 = .ok (.iadd, 1) := by decide +kernel
theorem dX10_writes_79 : decode cX10_writes 79 = .ok (.putfield 76, 3) := by decide +kernel
theorem dX10_writes_82 : decode cX10_writes 82 = .ok (.iload 5, 2) := by decide +kernel
theorem dX10_writes_84 : decode cX10_writes 84 = .ok (.ireturn, 1) := by decide +kernel
theorem dX10_isName_0 : decode cX10_isName 0 = .ok (.aload_n 0, 1) := by decide +kernel
theorem dX10_isName_1 : decode cX10_isName 1 = .ok (.invokevirtual 61, 3) := by decide +kernel
theorem dX10_isName_4 : decode cX10_isName 4 = .ok (.i2l, 1) := by decide +kernel
theorem dX10_isName_5 : decode cX10_isName 5 = .ok (.ldc2_w 79, 3) := by decide +kernel
theorem dX10_isName_8 : decode cX10_isName 8 = .ok (.ldc2_w 81, 3) := by decide +kernel
theorem dX10_isName_11 : decode cX10_isName 11 = .ok (.invokestatic 43, 3) := by decide +kernel
theorem dX10_isName_14 : decode cX10_isName 14 = .ok (.ireturn, 1) := by decide +kernel
theorem dX10_readsUnit_0 : decode cX10_readsUnit 0 = .ok (.aload_n 0, 1) := by decide +kernel
theorem dX10_readsUnit_1 : decode cX10_readsUnit 1 = .ok (.getfield 58, 3) := by decide +kernel
theorem dX10_readsUnit_4 : decode cX10_readsUnit 4 = .ok (.ifCond .lt 5, 3) := by decide +kernel
theorem dX10_readsUnit_7 : decode cX10_readsUnit 7 = .ok (.iconst 0, 1) := by decide +kernel
theorem dX10_readsUnit_8 : decode cX10_readsUnit 8 = .ok (.ireturn, 1) := by decide +kernel
theorem dX10_readsUnit_9 : decode cX10_readsUnit 9 = .ok (.aload_n 0, 1) := by decide +kernel
theorem dX10_readsUnit_10 : decode cX10_readsUnit 10 = .ok (.invokevirtual 83, 3) := by decide +kernel
theorem dX10_readsUnit_13 : decode cX10_readsUnit 13 = .ok (.ifCond .eq 30, 3) := by decide +kernel
theorem dX10_readsUnit_16 : decode cX10_readsUnit 16 = .ok (.aload_n 0, 1) := by decide +kernel
theorem dX10_readsUnit_17 : decode cX10_readsUnit 17 = .ok (.invokevirtual 61, 3) := by decide +kernel
theorem dX10_readsUnit_20 : decode cX10_readsUnit 20 = .ok (.bipush 97, 2) := by decide +kernel
theorem dX10_readsUnit_22 : decode cX10_readsUnit 22 = .ok (.isub, 1) := by decide +kernel
theorem dX10_readsUnit_23 : decode cX10_readsUnit 23 = .ok (.istore_n 1, 1) := by decide +kernel
theorem dX10_readsUnit_24 : decode cX10_readsUnit 24 = .ok (.aload_n 0, 1) := by decide +kernel
theorem dX10_readsUnit_25 : decode cX10_readsUnit 25 = .ok (.dup, 1) := by decide +kernel
theorem dX10_readsUnit_26 : decode cX10_readsUnit 26 = .ok (.getfield 51, 3) := by decide +kernel
theorem dX10_readsUnit_29 : decode cX10_readsUnit 29 = .ok (.iconst 1, 1) := by decide +kernel
theorem dX10_readsUnit_30 : decode cX10_readsUnit 30 = .ok (.iadd, 1) := by decide +kernel
theorem dX10_readsUnit_31 : decode cX10_readsUnit 31 = .ok (.putfield 51, 3) := by decide +kernel
theorem dX10_readsUnit_34 : decode cX10_readsUnit 34 = .ok (.aload_n 0, 1) := by decide +kernel
theorem dX10_readsUnit_35 : decode cX10_readsUnit 35 = .ok (.iconst 2, 1) := by decide +kernel
theorem dX10_readsUnit_36 : decode cX10_readsUnit 36 = .ok (.iload_n 1, 1) := by decide +kernel
theorem dX10_readsUnit_37 : decode cX10_readsUnit 37 = .ok (.iconst 0, 1) := by decide +kernel
theorem dX10_readsUnit_38 : decode cX10_readsUnit 38 = .ok (.iconst 0, 1) := by decide +kernel
theorem dX10_readsUnit_39 : decode cX10_readsUnit 39 = .ok (.invokevirtual 87, 3) := by decide +kernel
theorem dX10_readsUnit_42 : decode cX10_readsUnit 42 = .ok (.ireturn, 1) := by decide +kernel
theorem dX10_readsUnit_43 : decode cX10_readsUnit 43 = .ok (.aload_n 0, 1) := by decide +kernel
theorem dX10_readsUnit_44 : decode cX10_readsUnit 44 = .ok (.bipush 45, 2) := by decide +kernel
theorem dX10_readsUnit_46 : decode cX10_readsUnit 46 = .ok (.invokevirtual 65, 3) := by decide +kernel
theorem dX10_readsUnit_49 : decode cX10_readsUnit 49 = .ok (.ifCond .eq 18, 3) := by decide +kernel
theorem dX10_readsUnit_52 : decode cX10_readsUnit 52 = .ok (.aload_n 0, 1) := by decide +kernel
theorem dX10_readsUnit_53 : decode cX10_readsUnit 53 = .ok (.invokevirtual 91, 3) := by decide +kernel
theorem dX10_readsUnit_56 : decode cX10_readsUnit 56 = .ok (.istore_n 1, 1) := by decide +kernel
theorem dX10_readsUnit_57 : decode cX10_readsUnit 57 = .ok (.aload_n 0, 1) := by decide +kernel
theorem dX10_readsUnit_58 : decode cX10_readsUnit 58 = .ok (.bipush 6, 2) := by decide +kernel
theorem dX10_readsUnit_60 : decode cX10_readsUnit 60 = .ok (.iload_n 1, 1) := by decide +kernel
theorem dX10_readsUnit_61 : decode cX10_readsUnit 61 = .ok (.iconst 0, 1) := by decide +kernel
theorem dX10_readsUnit_62 : decode cX10_readsUnit 62 = .ok (.iconst 0, 1) := by decide +kernel
theorem dX10_readsUnit_63 : decode cX10_readsUnit 63 = .ok (.invokevirtual 87, 3) := by decide +kernel
theorem dX10_readsUnit_66 : decode cX10_readsUnit 66 = .ok (.ireturn, 1) := by decide +kernel
theorem dX10_readsUnit_67 : decode cX10_readsUnit 67 = .ok (.aload_n 0, 1) := by decide +kernel
theorem dX10_readsUnit_68 : decode cX10_readsUnit 68 = .ok (.getfield 51, 3) := by decide +kernel
theorem dX10_readsUnit_71 : decode cX10_readsUnit 71 = .ok (.istore_n 1, 1) := by decide +kernel
theorem dX10_readsUnit_72 : decode cX10_readsUnit 72 = .ok (.iconst 0, 1) := by decide +kernel
theorem dX10_readsUnit_73 : decode cX10_readsUnit 73 = .ok (.istore_n 2, 1) := by decide +kernel
theorem dX10_readsUnit_74 : decode cX10_readsUnit 74 = .ok (.aload_n 0, 1) := by decide +kernel
theorem dX10_readsUnit_75 : decode cX10_readsUnit 75 = .ok (.getfield 51, 3) := by decide +kernel
theorem dX10_readsUnit_78 : decode cX10_readsUnit 78 = .ok (.iload_n 1, 1) := by decide +kernel
theorem dX10_readsUnit_79 : decode cX10_readsUnit 79 = .ok (.iconst 3, 1) := by decide +kernel
theorem dX10_readsUnit_80 : decode cX10_readsUnit 80 = .ok (.iadd, 1) := by decide +kernel
theorem dX10_readsUnit_81 : decode cX10_readsUnit 81 = .ok (.if_icmp .ge 46, 3) := by decide +kernel
theorem dX10_readsUnit_84 : decode cX10_readsUnit 84 = .ok (.aload_n 0, 1) := by decide +kernel
theorem dX10_readsUnit_85 : decode cX10_readsUnit 85 = .ok (.invokevirtual 61, 3) := by decide +kernel
theorem dX10_readsUnit_88 : decode cX10_readsUnit 88 = .ok (.i2l, 1) := by decide +kernel
theorem dX10_readsUnit_89 : decode cX10_readsUnit 89 = .ok (.ldc2_w 94, 3) := by decide +kernel
theorem dX10_readsUnit_92 : decode cX10_readsUnit 92 = .ok (.ldc2_w 96, 3) := by decide +kernel
theorem dX10_readsUnit_95 : decode cX10_readsUnit 95 = .ok (.invokestatic 43, 3) := by decide +kernel
theorem dX10_readsUnit_98 : decode cX10_readsUnit 98 = .ok (.ifCond .eq 29, 3) := by decide +kernel
theorem dX10_readsUnit_101 : decode cX10_readsUnit 101 = .ok (.bipush 10, 2) := by decide +kernel
theorem dX10_readsUnit_103 : decode cX10_readsUnit 103 = .ok (.iload_n 2, 1) := by decide +kernel
theorem dX10_readsUnit_104 : decode cX10_readsUnit 104 = .ok (.imul, 1) := by decide +kernel
theorem dX10_readsUnit_105 : decode cX10_readsUnit 105 = .ok (.aload_n 0, 1) := by decide +kernel
theorem dX10_readsUnit_106 : decode cX10_readsUnit 106 = .ok (.invokevirtual 61, 3) := by decide +kernel
theorem dX10_readsUnit_109 : decode cX10_readsUnit 109 = .ok (.iadd, 1) := by decide +kernel
theorem dX10_readsUnit_110 : decode cX10_readsUnit 110 = .ok (.bipush 48, 2) := by decide +kernel
theorem dX10_readsUnit_112 : decode cX10_readsUnit 112 = .ok (.isub, 1) := by decide +kernel
theorem dX10_readsUnit_113 : decode cX10_readsUnit 113 = .ok (.istore_n 2, 1) := by decide +kernel
theorem dX10_readsUnit_114 : decode cX10_readsUnit 114 = .ok (.aload_n 0, 1) := by decide +kernel
theorem dX10_readsUnit_115 : decode cX10_readsUnit 115 = .ok (.dup, 1) := by decide +kernel
theorem dX10_readsUnit_116 : decode cX10_readsUnit 116 = .ok (.getfield 51, 3) := by decide +kernel
theorem dX10_readsUnit_119 : decode cX10_readsUnit 119 = .ok (.iconst 1, 1) := by decide +kernel
theorem dX10_readsUnit_120 : decode cX10_readsUnit 120 = .ok (.iadd, 1) := by decide +kernel
theorem dX10_readsUnit_121 : decode cX10_readsUnit 121 = .ok (.putfield 51, 3) := by decide +kernel
theorem dX10_readsUnit_124 : decode cX10_readsUnit 124 = .ok (.goto (-50), 3) := by decide +kernel
theorem dX10_readsUnit_127 : decode cX10_readsUnit 127 = .ok (.aload_n 0, 1) := by decide +kernel
theorem dX10_readsUnit_128 : decode cX10_readsUnit 128 = .ok (.getfield 51, 3) := by decide +kernel
theorem dX10_readsUnit_131 : decode cX10_readsUnit 131 = .ok (.iload_n 1, 1) := by decide +kernel
theorem dX10_readsUnit_132 : decode cX10_readsUnit 132 = .ok (.if_icmp .ne 11, 3) := by decide +kernel
theorem dX10_readsUnit_135 : decode cX10_readsUnit 135 = .ok (.aload_n 0, 1) := by decide +kernel
theorem dX10_readsUnit_136 : decode cX10_readsUnit 136 = .ok (.aload_n 0, 1) := by decide +kernel
theorem dX10_readsUnit_137 : decode cX10_readsUnit 137 = .ok (.getfield 51, 3) := by decide +kernel
theorem dX10_readsUnit_140 : decode cX10_readsUnit 140 = .ok (.invokevirtual 69, 3) := by decide +kernel
theorem dX10_readsUnit_143 : decode cX10_readsUnit 143 = .ok (.aload_n 0, 1) := by decide +kernel
theorem dX10_readsUnit_144 : decode cX10_readsUnit 144 = .ok (.iconst 1, 1) := by decide +kernel
theorem dX10_readsUnit_145 : decode cX10_readsUnit 145 = .ok (.iload_n 2, 1) := by decide +kernel
theorem dX10_readsUnit_146 : decode cX10_readsUnit 146 = .ok (.iconst 0, 1) := by decide +kernel
theorem dX10_readsUnit_147 : decode cX10_readsUnit 147 = .ok (.iconst 0, 1) := by decide +kernel
theorem dX10_readsUnit_148 : decode cX10_readsUnit 148 = .ok (.invokevirtual 87, 3) := by decide +kernel
theorem dX10_readsUnit_151 : decode cX10_readsUnit 151 = .ok (.ireturn, 1) := by decide +kernel
theorem dX10_readsProduct_0 : decode cX10_readsProduct 0 = .ok (.aload_n 0, 1) := by decide +kernel
theorem dX10_readsProduct_1 : decode cX10_readsProduct 1 = .ok (.invokevirtual 91, 3) := by decide +kernel
theorem dX10_readsProduct_4 : decode cX10_readsProduct 4 = .ok (.istore_n 1, 1) := by decide +kernel
theorem dX10_readsProduct_5 : decode cX10_readsProduct 5 = .ok (.aload_n 0, 1) := by decide +kernel
theorem dX10_readsProduct_6 : decode cX10_readsProduct 6 = .ok (.bipush 42, 2) := by decide +kernel
theorem dX10_readsProduct_8 : decode cX10_readsProduct 8 = .ok (.invokevirtual 65, 3) := by decide +kernel
theorem dX10_readsProduct_11 : decode cX10_readsProduct 11 = .ok (.ifCond .eq 20, 3) := by decide +kernel
theorem dX10_readsProduct_14 : decode cX10_readsProduct 14 = .ok (.aload_n 0, 1) := by decide +kernel
theorem dX10_readsProduct_15 : decode cX10_readsProduct 15 = .ok (.invokevirtual 91, 3) := by decide +kernel
theorem dX10_readsProduct_18 : decode cX10_readsProduct 18 = .ok (.istore_n 2, 1) := by decide +kernel
theorem dX10_readsProduct_19 : decode cX10_readsProduct 19 = .ok (.aload_n 0, 1) := by decide +kernel
theorem dX10_readsProduct_20 : decode cX10_readsProduct 20 = .ok (.iconst 5, 1) := by decide +kernel
theorem dX10_readsProduct_21 : decode cX10_readsProduct 21 = .ok (.iload_n 1, 1) := by decide +kernel
theorem dX10_readsProduct_22 : decode cX10_readsProduct 22 = .ok (.iload_n 2, 1) := by decide +kernel
theorem dX10_readsProduct_23 : decode cX10_readsProduct 23 = .ok (.iconst 0, 1) := by decide +kernel
theorem dX10_readsProduct_24 : decode cX10_readsProduct 24 = .ok (.invokevirtual 87, 3) := by decide +kernel
theorem dX10_readsProduct_27 : decode cX10_readsProduct 27 = .ok (.istore_n 1, 1) := by decide +kernel
theorem dX10_readsProduct_28 : decode cX10_readsProduct 28 = .ok (.goto (-23), 3) := by decide +kernel
theorem dX10_readsProduct_31 : decode cX10_readsProduct 31 = .ok (.iload_n 1, 1) := by decide +kernel
theorem dX10_readsProduct_32 : decode cX10_readsProduct 32 = .ok (.ireturn, 1) := by decide +kernel
theorem dX10_readsSum_0 : decode cX10_readsSum 0 = .ok (.aload_n 0, 1) := by decide +kernel
theorem dX10_readsSum_1 : decode cX10_readsSum 1 = .ok (.invokevirtual 98, 3) := by decide +kernel
theorem dX10_readsSum_4 : decode cX10_readsSum 4 = .ok (.istore_n 1, 1) := by decide +kernel
theorem dX10_readsSum_5 : decode cX10_readsSum 5 = .ok (.aload_n 0, 1) := by decide +kernel
theorem dX10_readsSum_6 : decode cX10_readsSum 6 = .ok (.getfield 58, 3) := by decide +kernel
theorem dX10_readsSum_9 : decode cX10_readsSum 9 = .ok (.ifCond .ge 63, 3) := by decide +kernel
theorem dX10_readsSum_12 : decode cX10_readsSum 12 = .ok (.aload_n 0, 1) := by decide +kernel
theorem dX10_readsSum_13 : decode cX10_readsSum 13 = .ok (.invokevirtual 61, 3) := by decide +kernel
theorem dX10_readsSum_16 : decode cX10_readsSum 16 = .ok (.bipush 43, 2) := by decide +kernel
theorem dX10_readsSum_18 : decode cX10_readsSum 18 = .ok (.if_icmp .eq 12, 3) := by decide +kernel
theorem dX10_readsSum_21 : decode cX10_readsSum 21 = .ok (.aload_n 0, 1) := by decide +kernel
theorem dX10_readsSum_22 : decode cX10_readsSum 22 = .ok (.invokevirtual 61, 3) := by decide +kernel
theorem dX10_readsSum_25 : decode cX10_readsSum 25 = .ok (.bipush 45, 2) := by decide +kernel
theorem dX10_readsSum_27 : decode cX10_readsSum 27 = .ok (.if_icmp .ne 45, 3) := by decide +kernel
theorem dX10_readsSum_30 : decode cX10_readsSum 30 = .ok (.aload_n 0, 1) := by decide +kernel
theorem dX10_readsSum_31 : decode cX10_readsSum 31 = .ok (.invokevirtual 61, 3) := by decide +kernel
theorem dX10_readsSum_34 : decode cX10_readsSum 34 = .ok (.istore_n 2, 1) := by decide +kernel
theorem dX10_readsSum_35 : decode cX10_readsSum 35 = .ok (.aload_n 0, 1) := by decide +kernel
theorem dX10_readsSum_36 : decode cX10_readsSum 36 = .ok (.dup, 1) := by decide +kernel
theorem dX10_readsSum_37 : decode cX10_readsSum 37 = .ok (.getfield 51, 3) := by decide +kernel
theorem dX10_readsSum_40 : decode cX10_readsSum 40 = .ok (.iconst 1, 1) := by decide +kernel
theorem dX10_readsSum_41 : decode cX10_readsSum 41 = .ok (.iadd, 1) := by decide +kernel
theorem dX10_readsSum_42 : decode cX10_readsSum 42 = .ok (.putfield 51, 3) := by decide +kernel
theorem dX10_readsSum_45 : decode cX10_readsSum 45 = .ok (.aload_n 0, 1) := by decide +kernel
theorem dX10_readsSum_46 : decode cX10_readsSum 46 = .ok (.invokevirtual 98, 3) := by decide +kernel
theorem dX10_readsSum_49 : decode cX10_readsSum 49 = .ok (.istore_n 3, 1) := by decide +kernel
theorem dX10_readsSum_50 : decode cX10_readsSum 50 = .ok (.aload_n 0, 1) := by decide +kernel
theorem dX10_readsSum_51 : decode cX10_readsSum 51 = .ok (.iload_n 2, 1) := by decide +kernel
theorem dX10_readsSum_52 : decode cX10_readsSum 52 = .ok (.bipush 43, 2) := by decide +kernel
theorem dX10_readsSum_54 : decode cX10_readsSum 54 = .ok (.if_icmp .ne 7, 3) := by decide +kernel
theorem dX10_readsSum_57 : decode cX10_readsSum 57 = .ok (.iconst 3, 1) := by decide +kernel
theorem dX10_readsSum_58 : decode cX10_readsSum 58 = .ok (.goto 4, 3) := by decide +kernel
theorem dX10_readsSum_61 : decode cX10_readsSum 61 = .ok (.iconst 4, 1) := by decide +kernel
theorem dX10_readsSum_62 : decode cX10_readsSum 62 = .ok (.iload_n 1, 1) := by decide +kernel
theorem dX10_readsSum_63 : decode cX10_readsSum 63 = .ok (.iload_n 3, 1) := by decide +kernel
theorem dX10_readsSum_64 : decode cX10_readsSum 64 = .ok (.iconst 0, 1) := by decide +kernel
theorem dX10_readsSum_65 : decode cX10_readsSum 65 = .ok (.invokevirtual 87, 3) := by decide +kernel
theorem dX10_readsSum_68 : decode cX10_readsSum 68 = .ok (.istore_n 1, 1) := by decide +kernel
theorem dX10_readsSum_69 : decode cX10_readsSum 69 = .ok (.goto (-64), 3) := by decide +kernel
theorem dX10_readsSum_72 : decode cX10_readsSum 72 = .ok (.iload_n 1, 1) := by decide +kernel
theorem dX10_readsSum_73 : decode cX10_readsSum 73 = .ok (.ireturn, 1) := by decide +kernel
theorem dX10_readsProgram_0 : decode cX10_readsProgram 0 = .ok (.aload_n 0, 1) := by decide +kernel
theorem dX10_readsProgram_1 : decode cX10_readsProgram 1 = .ok (.invokevirtual 101, 3) := by decide +kernel
theorem dX10_readsProgram_4 : decode cX10_readsProgram 4 = .ok (.istore_n 1, 1) := by decide +kernel
theorem dX10_readsProgram_5 : decode cX10_readsProgram 5 = .ok (.iload_n 1, 1) := by decide +kernel
theorem dX10_readsProgram_6 : decode cX10_readsProgram 6 = .ok (.istore_n 2, 1) := by decide +kernel
theorem dX10_readsProgram_7 : decode cX10_readsProgram 7 = .ok (.aload_n 0, 1) := by decide +kernel
theorem dX10_readsProgram_8 : decode cX10_readsProgram 8 = .ok (.bipush 59, 2) := by decide +kernel
theorem dX10_readsProgram_10 : decode cX10_readsProgram 10 = .ok (.invokevirtual 65, 3) := by decide +kernel
theorem dX10_readsProgram_13 : decode cX10_readsProgram 13 = .ok (.ifCond .eq 36, 3) := by decide +kernel
theorem dX10_readsProgram_16 : decode cX10_readsProgram 16 = .ok (.aload_n 0, 1) := by decide +kernel
theorem dX10_readsProgram_17 : decode cX10_readsProgram 17 = .ok (.invokevirtual 101, 3) := by decide +kernel
theorem dX10_readsProgram_20 : decode cX10_readsProgram 20 = .ok (.istore_n 3, 1) := by decide +kernel
theorem dX10_readsProgram_21 : decode cX10_readsProgram 21 = .ok (.aload_n 0, 1) := by decide +kernel
theorem dX10_readsProgram_22 : decode cX10_readsProgram 22 = .ok (.getfield 26, 3) := by decide +kernel
theorem dX10_readsProgram_25 : decode cX10_readsProgram 25 = .ok (.iload_n 2, 1) := by decide +kernel
theorem dX10_readsProgram_26 : decode cX10_readsProgram 26 = .ok (.aload_n 0, 1) := by decide +kernel
theorem dX10_readsProgram_27 : decode cX10_readsProgram 27 = .ok (.getfield 58, 3) := by decide +kernel
theorem dX10_readsProgram_30 : decode cX10_readsProgram 30 = .ok (.ifCond .lt 12, 3) := by decide +kernel
theorem dX10_readsProgram_33 : decode cX10_readsProgram 33 = .ok (.aload_n 0, 1) := by decide +kernel
theorem dX10_readsProgram_34 : decode cX10_readsProgram 34 = .ok (.getfield 26, 3) := by decide +kernel
theorem dX10_readsProgram_37 : decode cX10_readsProgram 37 = .ok (.iload_n 2, 1) := by decide +kernel
theorem dX10_readsProgram_38 : decode cX10_readsProgram 38 = .ok (.iaload, 1) := by decide +kernel
theorem dX10_readsProgram_39 : decode cX10_readsProgram 39 = .ok (.goto 4, 3) := by decide +kernel
theorem dX10_readsProgram_42 : decode cX10_readsProgram 42 = .ok (.iload_n 3, 1) := by decide +kernel
theorem dX10_readsProgram_43 : decode cX10_readsProgram 43 = .ok (.iastore, 1) := by decide +kernel
theorem dX10_readsProgram_44 : decode cX10_readsProgram 44 = .ok (.iload_n 3, 1) := by decide +kernel
theorem dX10_readsProgram_45 : decode cX10_readsProgram 45 = .ok (.istore_n 2, 1) := by decide +kernel
theorem dX10_readsProgram_46 : decode cX10_readsProgram 46 = .ok (.goto (-39), 3) := by decide +kernel
theorem dX10_readsProgram_49 : decode cX10_readsProgram 49 = .ok (.iload_n 1, 1) := by decide +kernel
theorem dX10_readsProgram_50 : decode cX10_readsProgram 50 = .ok (.ireturn, 1) := by decide +kernel
theorem dX10_readsStep_0 : decode cX10_readsStep 0 = .ok (.aload_n 0, 1) := by decide +kernel
theorem dX10_readsStep_1 : decode cX10_readsStep 1 = .ok (.getfield 58, 3) := by decide +kernel
theorem dX10_readsStep_4 : decode cX10_readsStep 4 = .ok (.ifCond .lt 5, 3) := by decide +kernel
theorem dX10_readsStep_7 : decode cX10_readsStep 7 = .ok (.iconst 0, 1) := by decide +kernel
theorem dX10_readsStep_8 : decode cX10_readsStep 8 = .ok (.ireturn, 1) := by decide +kernel
theorem dX10_readsStep_9 : decode cX10_readsStep 9 = .ok (.aload_n 0, 1) := by decide +kernel
theorem dX10_readsStep_10 : decode cX10_readsStep 10 = .ok (.getfield 104, 3) := by decide +kernel
theorem dX10_readsStep_13 : decode cX10_readsStep 13 = .ok (.bipush 40, 2) := by decide +kernel
theorem dX10_readsStep_15 : decode cX10_readsStep 15 = .ok (.if_icmp .ne 13, 3) := by decide +kernel
theorem dX10_readsStep_18 : decode cX10_readsStep 18 = .ok (.aload_n 0, 1) := by decide +kernel
theorem dX10_readsStep_19 : decode cX10_readsStep 19 = .ok (.aload_n 0, 1) := by decide +kernel
theorem dX10_readsStep_20 : decode cX10_readsStep 20 = .ok (.getfield 51, 3) := by decide +kernel
theorem dX10_readsStep_23 : decode cX10_readsStep 23 = .ok (.invokevirtual 69, 3) := by decide +kernel
theorem dX10_readsStep_26 : decode cX10_readsStep 26 = .ok (.iconst 0, 1) := by decide +kernel
theorem dX10_readsStep_27 : decode cX10_readsStep 27 = .ok (.ireturn, 1) := by decide +kernel
theorem dX10_readsStep_28 : decode cX10_readsStep 28 = .ok (.aload_n 0, 1) := by decide +kernel
theorem dX10_readsStep_29 : decode cX10_readsStep 29 = .ok (.dup, 1) := by decide +kernel
theorem dX10_readsStep_30 : decode cX10_readsStep 30 = .ok (.getfield 104, 3) := by decide +kernel
theorem dX10_readsStep_33 : decode cX10_readsStep 33 = .ok (.iconst 1, 1) := by decide +kernel
theorem dX10_readsStep_34 : decode cX10_readsStep 34 = .ok (.iadd, 1) := by decide +kernel
theorem dX10_readsStep_35 : decode cX10_readsStep 35 = .ok (.putfield 104, 3) := by decide +kernel
theorem dX10_readsStep_38 : decode cX10_readsStep 38 = .ok (.aload_n 0, 1) := by decide +kernel
theorem dX10_readsStep_39 : decode cX10_readsStep 39 = .ok (.invokevirtual 61, 3) := by decide +kernel
theorem dX10_readsStep_42 : decode cX10_readsStep 42 = .ok (.istore_n 1, 1) := by decide +kernel
theorem dX10_readsStep_43 : decode cX10_readsStep 43 = .ok (.aload_n 0, 1) := by decide +kernel
theorem dX10_readsStep_44 : decode cX10_readsStep 44 = .ok (.invokevirtual 83, 3) := by decide +kernel
theorem dX10_readsStep_47 : decode cX10_readsStep 47 = .ok (.ifCond .eq 85, 3) := by decide +kernel
theorem dX10_readsStep_50 : decode cX10_readsStep 50 = .ok (.aload_n 0, 1) := by decide +kernel
theorem dX10_readsStep_51 : decode cX10_readsStep 51 = .ok (.aload_n 0, 1) := by decide +kernel
theorem dX10_readsStep_52 : decode cX10_readsStep 52 = .ok (.getfield 51, 3) := by decide +kernel
theorem dX10_readsStep_55 : decode cX10_readsStep 55 = .ok (.iconst 1, 1) := by decide +kernel
theorem dX10_readsStep_56 : decode cX10_readsStep 56 = .ok (.iadd, 1) := by decide +kernel
theorem dX10_readsStep_57 : decode cX10_readsStep 57 = .ok (.invokevirtual 54, 3) := by decide +kernel
theorem dX10_readsStep_60 : decode cX10_readsStep 60 = .ok (.bipush 58, 2) := by decide +kernel
theorem dX10_readsStep_62 : decode cX10_readsStep 62 = .ok (.if_icmp .eq 18, 3) := by decide +kernel
theorem dX10_readsStep_65 : decode cX10_readsStep 65 = .ok (.aload_n 0, 1) := by decide +kernel
theorem dX10_readsStep_66 : decode cX10_readsStep 66 = .ok (.aload_n 0, 1) := by decide +kernel
theorem dX10_readsStep_67 : decode cX10_readsStep 67 = .ok (.getfield 51, 3) := by decide +kernel
theorem dX10_readsStep_70 : decode cX10_readsStep 70 = .ok (.iconst 1, 1) := by decide +kernel
theorem dX10_readsStep_71 : decode cX10_readsStep 71 = .ok (.iadd, 1) := by decide +kernel
theorem dX10_readsStep_72 : decode cX10_readsStep 72 = .ok (.invokevirtual 54, 3) := by decide +kernel
theorem dX10_readsStep_75 : decode cX10_readsStep 75 = .ok (.bipush 63, 2) := by decide +kernel
theorem dX10_readsStep_77 : decode cX10_readsStep 77 = .ok (.if_icmp .ne 55, 3) := by decide +kernel
theorem dX10_readsStep_80 : decode cX10_readsStep 80 = .ok (.aload_n 0, 1) := by decide +kernel
theorem dX10_readsStep_81 : decode cX10_readsStep 81 = .ok (.dup, 1) := by decide +kernel
theorem dX10_readsStep_82 : decode cX10_readsStep 82 = .ok (.getfield 51, 3) := by decide +kernel
theorem dX10_readsStep_85 : decode cX10_readsStep 85 = .ok (.iconst 2, 1) := by decide +kernel
theorem dX10_readsStep_86 : decode cX10_readsStep 86 = .ok (.iadd, 1) := by decide +kernel
theorem dX10_readsStep_87 : decode cX10_readsStep 87 = .ok (.putfield 51, 3) := by decide +kernel
theorem dX10_readsStep_90 : decode cX10_readsStep 90 = .ok (.aload_n 0, 1) := by decide +kernel
theorem dX10_readsStep_91 : decode cX10_readsStep 91 = .ok (.aload_n 0, 1) := by decide +kernel
theorem dX10_readsStep_92 : decode cX10_readsStep 92 = .ok (.getfield 51, 3) := by decide +kernel
theorem dX10_readsStep_95 : decode cX10_readsStep 95 = .ok (.iconst 1, 1) := by decide +kernel
theorem dX10_readsStep_96 : decode cX10_readsStep 96 = .ok (.isub, 1) := by decide +kernel
theorem dX10_readsStep_97 : decode cX10_readsStep 97 = .ok (.invokevirtual 54, 3) := by decide +kernel
theorem dX10_readsStep_100 : decode cX10_readsStep 100 = .ok (.bipush 58, 2) := by decide +kernel
theorem dX10_readsStep_102 : decode cX10_readsStep 102 = .ok (.if_icmp .ne 21, 3) := by decide +kernel
theorem dX10_readsStep_105 : decode cX10_readsStep 105 = .ok (.aload_n 0, 1) := by decide +kernel
theorem dX10_readsStep_106 : decode cX10_readsStep 106 = .ok (.bipush 7, 2) := by decide +kernel
theorem dX10_readsStep_108 : decode cX10_readsStep 108 = .ok (.iload_n 1, 1) := by decide +kernel
theorem dX10_readsStep_109 : decode cX10_readsStep 109 = .ok (.bipush 97, 2) := by decide +kernel
theorem dX10_readsStep_111 : decode cX10_readsStep 111 = .ok (.isub, 1) := by decide +kernel
theorem dX10_readsStep_112 : decode cX10_readsStep 112 = .ok (.aload_n 0, 1) := by decide +kernel
theorem dX10_readsStep_113 : decode cX10_readsStep 113 = .ok (.invokevirtual 107, 3) := by decide +kernel
theorem dX10_readsStep_116 : decode cX10_readsStep 116 = .ok (.iconst 0, 1) := by decide +kernel
theorem dX10_readsStep_117 : decode cX10_readsStep 117 = .ok (.invokevirtual 87, 3) := by decide +kernel
theorem dX10_readsStep_120 : decode cX10_readsStep 120 = .ok (.goto 11, 3) := by decide +kernel
theorem dX10_readsStep_123 : decode cX10_readsStep 123 = .ok (.aload_n 0, 1) := by decide +kernel
theorem dX10_readsStep_124 : decode cX10_readsStep 124 = .ok (.iload_n 1, 1) := by decide +kernel
theorem dX10_readsStep_125 : decode cX10_readsStep 125 = .ok (.bipush 97, 2) := by decide +kernel
theorem dX10_readsStep_127 : decode cX10_readsStep 127 = .ok (.isub, 1) := by decide +kernel
theorem dX10_readsStep_128 : decode cX10_readsStep 128 = .ok (.invokevirtual 110, 3) := by decide +kernel
theorem dX10_readsStep_131 : decode cX10_readsStep 131 = .ok (.ireturn, 1) := by decide +kernel
theorem dX10_readsStep_132 : decode cX10_readsStep 132 = .ok (.iload_n 1, 1) := by decide +kernel
theorem dX10_readsStep_133 : decode cX10_readsStep 133 = .ok (.i2l, 1) := by decide +kernel
theorem dX10_readsStep_134 : decode cX10_readsStep 134 = .ok (.ldc2_w 113, 3) := by decide +kernel
theorem dX10_readsStep_137 : decode cX10_readsStep 137 = .ok (.ldc2_w 96, 3) := by decide +kernel
theorem dX10_readsStep_140 : decode cX10_readsStep 140 = .ok (.invokestatic 43, 3) := by decide +kernel
theorem dX10_readsStep_143 : decode cX10_readsStep 143 = .ok (.ifCond .eq 65, 3) := by decide +kernel
theorem dX10_readsStep_146 : decode cX10_readsStep 146 = .ok (.aload_n 0, 1) := by decide +kernel
theorem dX10_readsStep_147 : decode cX10_readsStep 147 = .ok (.aload_n 0, 1) := by decide +kernel
theorem dX10_readsStep_148 : decode cX10_readsStep 148 = .ok (.getfield 51, 3) := by decide +kernel
theorem dX10_readsStep_151 : decode cX10_readsStep 151 = .ok (.iconst 1, 1) := by decide +kernel
theorem dX10_readsStep_152 : decode cX10_readsStep 152 = .ok (.iadd, 1) := by decide +kernel
theorem dX10_readsStep_153 : decode cX10_readsStep 153 = .ok (.invokevirtual 54, 3) := by decide +kernel
theorem dX10_readsStep_156 : decode cX10_readsStep 156 = .ok (.bipush 42, 2) := by decide +kernel
theorem dX10_readsStep_158 : decode cX10_readsStep 158 = .ok (.if_icmp .ne 50, 3) := by decide +kernel
theorem dX10_readsStep_161 : decode cX10_readsStep 161 = .ok (.aload_n 0, 1) := by decide +kernel
theorem dX10_readsStep_162 : decode cX10_readsStep 162 = .ok (.aload_n 0, 1) := by decide +kernel
theorem dX10_readsStep_163 : decode cX10_readsStep 163 = .ok (.getfield 51, 3) := by decide +kernel
theorem dX10_readsStep_166 : decode cX10_readsStep 166 = .ok (.iconst 2, 1) := by decide +kernel
theorem dX10_readsStep_167 : decode cX10_readsStep 167 = .ok (.iadd, 1) := by decide +kernel
theorem dX10_readsStep_168 : decode cX10_readsStep 168 = .ok (.invokevirtual 54, 3) := by decide +kernel
theorem dX10_readsStep_171 : decode cX10_readsStep 171 = .ok (.bipush 40, 2) := by decide +kernel
theorem dX10_readsStep_173 : decode cX10_readsStep 173 = .ok (.if_icmp .ne 35, 3) := by decide +kernel
theorem dX10_readsStep_176 : decode cX10_readsStep 176 = .ok (.aload_n 0, 1) := by decide +kernel
theorem dX10_readsStep_177 : decode cX10_readsStep 177 = .ok (.dup, 1) := by decide +kernel
theorem dX10_readsStep_178 : decode cX10_readsStep 178 = .ok (.getfield 51, 3) := by decide +kernel
theorem dX10_readsStep_181 : decode cX10_readsStep 181 = .ok (.iconst 2, 1) := by decide +kernel
theorem dX10_readsStep_182 : decode cX10_readsStep 182 = .ok (.iadd, 1) := by decide +kernel
theorem dX10_readsStep_183 : decode cX10_readsStep 183 = .ok (.putfield 51, 3) := by decide +kernel
theorem dX10_readsStep_186 : decode cX10_readsStep 186 = .ok (.aload_n 0, 1) := by decide +kernel
theorem dX10_readsStep_187 : decode cX10_readsStep 187 = .ok (.bipush 40, 2) := by decide +kernel
theorem dX10_readsStep_189 : decode cX10_readsStep 189 = .ok (.bipush 41, 2) := by decide +kernel
theorem dX10_readsStep_191 : decode cX10_readsStep 191 = .ok (.invokevirtual 115, 3) := by decide +kernel
theorem dX10_readsStep_194 : decode cX10_readsStep 194 = .ok (.istore_n 2, 1) := by decide +kernel
theorem dX10_readsStep_195 : decode cX10_readsStep 195 = .ok (.aload_n 0, 1) := by decide +kernel
theorem dX10_readsStep_196 : decode cX10_readsStep 196 = .ok (.bipush 16, 2) := by decide +kernel
theorem dX10_readsStep_198 : decode cX10_readsStep 198 = .ok (.iload_n 1, 1) := by decide +kernel
theorem dX10_readsStep_199 : decode cX10_readsStep 199 = .ok (.bipush 48, 2) := by decide +kernel
theorem dX10_readsStep_201 : decode cX10_readsStep 201 = .ok (.isub, 1) := by decide +kernel
theorem dX10_readsStep_202 : decode cX10_readsStep 202 = .ok (.iload_n 2, 1) := by decide +kernel
theorem dX10_readsStep_203 : decode cX10_readsStep 203 = .ok (.iconst 0, 1) := by decide +kernel
theorem dX10_readsStep_204 : decode cX10_readsStep 204 = .ok (.invokevirtual 87, 3) := by decide +kernel
theorem dX10_readsStep_207 : decode cX10_readsStep 207 = .ok (.ireturn, 1) := by decide +kernel
theorem dX10_readsStep_208 : decode cX10_readsStep 208 = .ok (.iload_n 1, 1) := by decide +kernel
theorem dX10_readsStep_209 : decode cX10_readsStep 209 = .ok (.lookupswitch 112 #[(33, 92), (40, 43), (91, 48), (126, 65)], 43) := by decide +kernel
theorem dX10_readsStep_252 : decode cX10_readsStep 252 = .ok (.aload_n 0, 1) := by decide +kernel
theorem dX10_readsStep_253 : decode cX10_readsStep 253 = .ok (.invokevirtual 119, 3) := by decide +kernel
theorem dX10_readsStep_256 : decode cX10_readsStep 256 = .ok (.ireturn, 1) := by decide +kernel
theorem dX10_readsStep_257 : decode cX10_readsStep 257 = .ok (.aload_n 0, 1) := by decide +kernel
theorem dX10_readsStep_258 : decode cX10_readsStep 258 = .ok (.bipush 13, 2) := by decide +kernel
theorem dX10_readsStep_260 : decode cX10_readsStep 260 = .ok (.aload_n 0, 1) := by decide +kernel
theorem dX10_readsStep_261 : decode cX10_readsStep 261 = .ok (.bipush 91, 2) := by decide +kernel
theorem dX10_readsStep_263 : decode cX10_readsStep 263 = .ok (.bipush 93, 2) := by decide +kernel
theorem dX10_readsStep_265 : decode cX10_readsStep 265 = .ok (.invokevirtual 115, 3) := by decide +kernel
theorem dX10_readsStep_268 : decode cX10_readsStep 268 = .ok (.iconst 0, 1) := by decide +kernel
theorem dX10_readsStep_269 : decode cX10_readsStep 269 = .ok (.iconst 0, 1) := by decide +kernel
theorem dX10_readsStep_270 : decode cX10_readsStep 270 = .ok (.invokevirtual 87, 3) := by decide +kernel
theorem dX10_readsStep_273 : decode cX10_readsStep 273 = .ok (.ireturn, 1) := by decide +kernel
theorem dX10_readsStep_274 : decode cX10_readsStep 274 = .ok (.aload_n 0, 1) := by decide +kernel
theorem dX10_readsStep_275 : decode cX10_readsStep 275 = .ok (.dup, 1) := by decide +kernel
theorem dX10_readsStep_276 : decode cX10_readsStep 276 = .ok (.getfield 51, 3) := by decide +kernel
theorem dX10_readsStep_279 : decode cX10_readsStep 279 = .ok (.iconst 1, 1) := by decide +kernel
theorem dX10_readsStep_280 : decode cX10_readsStep 280 = .ok (.iadd, 1) := by decide +kernel
theorem dX10_readsStep_281 : decode cX10_readsStep 281 = .ok (.putfield 51, 3) := by decide +kernel
theorem dX10_readsStep_284 : decode cX10_readsStep 284 = .ok (.aload_n 0, 1) := by decide +kernel
theorem dX10_readsStep_285 : decode cX10_readsStep 285 = .ok (.bipush 14, 2) := by decide +kernel
theorem dX10_readsStep_287 : decode cX10_readsStep 287 = .ok (.aload_n 0, 1) := by decide +kernel
theorem dX10_readsStep_288 : decode cX10_readsStep 288 = .ok (.bipush 91, 2) := by decide +kernel
theorem dX10_readsStep_290 : decode cX10_readsStep 290 = .ok (.bipush 93, 2) := by decide +kernel
theorem dX10_readsStep_292 : decode cX10_readsStep 292 = .ok (.invokevirtual 115, 3) := by decide +kernel
theorem dX10_readsStep_295 : decode cX10_readsStep 295 = .ok (.iconst 0, 1) := by decide +kernel
theorem dX10_readsStep_296 : decode cX10_readsStep 296 = .ok (.iconst 0, 1) := by decide +kernel
theorem dX10_readsStep_297 : decode cX10_readsStep 297 = .ok (.invokevirtual 87, 3) := by decide +kernel
theorem dX10_readsStep_300 : decode cX10_readsStep 300 = .ok (.ireturn, 1) := by decide +kernel
theorem dX10_readsStep_301 : decode cX10_readsStep 301 = .ok (.aload_n 0, 1) := by decide +kernel
theorem dX10_readsStep_302 : decode cX10_readsStep 302 = .ok (.dup, 1) := by decide +kernel
theorem dX10_readsStep_303 : decode cX10_readsStep 303 = .ok (.getfield 51, 3) := by decide +kernel
theorem dX10_readsStep_306 : decode cX10_readsStep 306 = .ok (.iconst 1, 1) := by decide +kernel
theorem dX10_readsStep_307 : decode cX10_readsStep 307 = .ok (.iadd, 1) := by decide +kernel
theorem dX10_readsStep_308 : decode cX10_readsStep 308 = .ok (.putfield 51, 3) := by decide +kernel
theorem dX10_readsStep_311 : decode cX10_readsStep 311 = .ok (.aload_n 0, 1) := by decide +kernel
theorem dX10_readsStep_312 : decode cX10_readsStep 312 = .ok (.bipush 15, 2) := by decide +kernel
theorem dX10_readsStep_314 : decode cX10_readsStep 314 = .ok (.iconst 0, 1) := by decide +kernel
theorem dX10_readsStep_315 : decode cX10_readsStep 315 = .ok (.iconst 0, 1) := by decide +kernel
theorem dX10_readsStep_316 : decode cX10_readsStep 316 = .ok (.iconst 0, 1) := by decide +kernel
theorem dX10_readsStep_317 : decode cX10_readsStep 317 = .ok (.invokevirtual 87, 3) := by decide +kernel
theorem dX10_readsStep_320 : decode cX10_readsStep 320 = .ok (.ireturn, 1) := by decide +kernel
theorem dX10_readsStep_321 : decode cX10_readsStep 321 = .ok (.aload_n 0, 1) := by decide +kernel
theorem dX10_readsStep_322 : decode cX10_readsStep 322 = .ok (.invokevirtual 122, 3) := by decide +kernel
theorem dX10_readsStep_325 : decode cX10_readsStep 325 = .ok (.ireturn, 1) := by decide +kernel
theorem dX10_readsTest_0 : decode cX10_readsTest 0 = .ok (.aload_n 0, 1) := by decide +kernel
theorem dX10_readsTest_1 : decode cX10_readsTest 1 = .ok (.invokevirtual 107, 3) := by decide +kernel
theorem dX10_readsTest_4 : decode cX10_readsTest 4 = .ok (.istore_n 1, 1) := by decide +kernel
theorem dX10_readsTest_5 : decode cX10_readsTest 5 = .ok (.aload_n 0, 1) := by decide +kernel
theorem dX10_readsTest_6 : decode cX10_readsTest 6 = .ok (.invokevirtual 61, 3) := by decide +kernel
theorem dX10_readsTest_9 : decode cX10_readsTest 9 = .ok (.istore_n 2, 1) := by decide +kernel
theorem dX10_readsTest_10 : decode cX10_readsTest 10 = .ok (.iload_n 2, 1) := by decide +kernel
theorem dX10_readsTest_11 : decode cX10_readsTest 11 = .ok (.bipush 60, 2) := by decide +kernel
theorem dX10_readsTest_13 : decode cX10_readsTest 13 = .ok (.if_icmp .eq 31, 3) := by decide +kernel
theorem dX10_readsTest_16 : decode cX10_readsTest 16 = .ok (.iload_n 2, 1) := by decide +kernel
theorem dX10_readsTest_17 : decode cX10_readsTest 17 = .ok (.bipush 61, 2) := by decide +kernel
theorem dX10_readsTest_19 : decode cX10_readsTest 19 = .ok (.if_icmp .eq 25, 3) := by decide +kernel
theorem dX10_readsTest_22 : decode cX10_readsTest 22 = .ok (.iload_n 2, 1) := by decide +kernel
theorem dX10_readsTest_23 : decode cX10_readsTest 23 = .ok (.bipush 62, 2) := by decide +kernel
theorem dX10_readsTest_25 : decode cX10_readsTest 25 = .ok (.if_icmp .eq 19, 3) := by decide +kernel
theorem dX10_readsTest_28 : decode cX10_readsTest 28 = .ok (.iload_n 2, 1) := by decide +kernel
theorem dX10_readsTest_29 : decode cX10_readsTest 29 = .ok (.bipush 35, 2) := by decide +kernel
theorem dX10_readsTest_31 : decode cX10_readsTest 31 = .ok (.if_icmp .eq 13, 3) := by decide +kernel
theorem dX10_readsTest_34 : decode cX10_readsTest 34 = .ok (.aload_n 0, 1) := by decide +kernel
theorem dX10_readsTest_35 : decode cX10_readsTest 35 = .ok (.aload_n 0, 1) := by decide +kernel
theorem dX10_readsTest_36 : decode cX10_readsTest 36 = .ok (.getfield 51, 3) := by decide +kernel
theorem dX10_readsTest_39 : decode cX10_readsTest 39 = .ok (.invokevirtual 69, 3) := by decide +kernel
theorem dX10_readsTest_42 : decode cX10_readsTest 42 = .ok (.iconst 0, 1) := by decide +kernel
theorem dX10_readsTest_43 : decode cX10_readsTest 43 = .ok (.ireturn, 1) := by decide +kernel
theorem dX10_readsTest_44 : decode cX10_readsTest 44 = .ok (.aload_n 0, 1) := by decide +kernel
theorem dX10_readsTest_45 : decode cX10_readsTest 45 = .ok (.dup, 1) := by decide +kernel
theorem dX10_readsTest_46 : decode cX10_readsTest 46 = .ok (.getfield 51, 3) := by decide +kernel
theorem dX10_readsTest_49 : decode cX10_readsTest 49 = .ok (.aload_n 0, 1) := by decide +kernel
theorem dX10_readsTest_50 : decode cX10_readsTest 50 = .ok (.getfield 58, 3) := by decide +kernel
theorem dX10_readsTest_53 : decode cX10_readsTest 53 = .ok (.ifCond .ge 7, 3) := by decide +kernel
theorem dX10_readsTest_56 : decode cX10_readsTest 56 = .ok (.iconst 1, 1) := by decide +kernel
theorem dX10_readsTest_57 : decode cX10_readsTest 57 = .ok (.goto 4, 3) := by decide +kernel
theorem dX10_readsTest_60 : decode cX10_readsTest 60 = .ok (.iconst 0, 1) := by decide +kernel
theorem dX10_readsTest_61 : decode cX10_readsTest 61 = .ok (.iadd, 1) := by decide +kernel
theorem dX10_readsTest_62 : decode cX10_readsTest 62 = .ok (.putfield 51, 3) := by decide +kernel
theorem dX10_readsTest_65 : decode cX10_readsTest 65 = .ok (.aload_n 0, 1) := by decide +kernel
theorem dX10_readsTest_66 : decode cX10_readsTest 66 = .ok (.invokevirtual 107, 3) := by decide +kernel
theorem dX10_readsTest_69 : decode cX10_readsTest 69 = .ok (.istore_n 3, 1) := by decide +kernel
theorem dX10_readsTest_70 : decode cX10_readsTest 70 = .ok (.aload_n 0, 1) := by decide +kernel
theorem dX10_readsTest_71 : decode cX10_readsTest 71 = .ok (.bipush 10, 2) := by decide +kernel
theorem dX10_readsTest_73 : decode cX10_readsTest 73 = .ok (.iload_n 1, 1) := by decide +kernel
theorem dX10_readsTest_74 : decode cX10_readsTest 74 = .ok (.iload_n 3, 1) := by decide +kernel
theorem dX10_readsTest_75 : decode cX10_readsTest 75 = .ok (.iload_n 2, 1) := by decide +kernel
theorem dX10_readsTest_76 : decode cX10_readsTest 76 = .ok (.invokevirtual 87, 3) := by decide +kernel
theorem dX10_readsTest_79 : decode cX10_readsTest 79 = .ok (.ireturn, 1) := by decide +kernel
theorem dX10_readsChoose_0 : decode cX10_readsChoose 0 = .ok (.aload_n 0, 1) := by decide +kernel
theorem dX10_readsChoose_1 : decode cX10_readsChoose 1 = .ok (.bipush 123, 2) := by decide +kernel
theorem dX10_readsChoose_3 : decode cX10_readsChoose 3 = .ok (.invokevirtual 65, 3) := by decide +kernel
theorem dX10_readsChoose_6 : decode cX10_readsChoose 6 = .ok (.ifCond .ne 29, 3) := by decide +kernel
theorem dX10_readsChoose_9 : decode cX10_readsChoose 9 = .ok (.aload_n 0, 1) := by decide +kernel
theorem dX10_readsChoose_10 : decode cX10_readsChoose 10 = .ok (.invokevirtual 107, 3) := by decide +kernel
theorem dX10_readsChoose_13 : decode cX10_readsChoose 13 = .ok (.istore_n 2, 1) := by decide +kernel
theorem dX10_readsChoose_14 : decode cX10_readsChoose 14 = .ok (.aload_n 0, 1) := by decide +kernel
theorem dX10_readsChoose_15 : decode cX10_readsChoose 15 = .ok (.bipush 44, 2) := by decide +kernel
theorem dX10_readsChoose_17 : decode cX10_readsChoose 17 = .ok (.invokevirtual 125, 3) := by decide +kernel
theorem dX10_readsChoose_20 : decode cX10_readsChoose 20 = .ok (.aload_n 0, 1) := by decide +kernel
theorem dX10_readsChoose_21 : decode cX10_readsChoose 21 = .ok (.invokevirtual 107, 3) := by decide +kernel
theorem dX10_readsChoose_24 : decode cX10_readsChoose 24 = .ok (.istore_n 3, 1) := by decide +kernel
theorem dX10_readsChoose_25 : decode cX10_readsChoose 25 = .ok (.aload_n 0, 1) := by decide +kernel
theorem dX10_readsChoose_26 : decode cX10_readsChoose 26 = .ok (.bipush 8, 2) := by decide +kernel
theorem dX10_readsChoose_28 : decode cX10_readsChoose 28 = .ok (.iload_n 1, 1) := by decide +kernel
theorem dX10_readsChoose_29 : decode cX10_readsChoose 29 = .ok (.iload_n 2, 1) := by decide +kernel
theorem dX10_readsChoose_30 : decode cX10_readsChoose 30 = .ok (.iload_n 3, 1) := by decide +kernel
theorem dX10_readsChoose_31 : decode cX10_readsChoose 31 = .ok (.invokevirtual 87, 3) := by decide +kernel
theorem dX10_readsChoose_34 : decode cX10_readsChoose 34 = .ok (.ireturn, 1) := by decide +kernel
theorem dX10_readsChoose_35 : decode cX10_readsChoose 35 = .ok (.iconst (-1), 1) := by decide +kernel
theorem dX10_readsChoose_36 : decode cX10_readsChoose 36 = .ok (.istore_n 2, 1) := by decide +kernel
theorem dX10_readsChoose_37 : decode cX10_readsChoose 37 = .ok (.iconst (-1), 1) := by decide +kernel
theorem dX10_readsChoose_38 : decode cX10_readsChoose 38 = .ok (.istore_n 3, 1) := by decide +kernel
theorem dX10_readsChoose_39 : decode cX10_readsChoose 39 = .ok (.iconst 0, 1) := by decide +kernel
theorem dX10_readsChoose_40 : decode cX10_readsChoose 40 = .ok (.istore 4, 2) := by decide +kernel
theorem dX10_readsChoose_42 : decode cX10_readsChoose 42 = .ok (.iconst 1, 1) := by decide +kernel
theorem dX10_readsChoose_43 : decode cX10_readsChoose 43 = .ok (.istore 5, 2) := by decide +kernel
theorem dX10_readsChoose_45 : decode cX10_readsChoose 45 = .ok (.iload 5, 2) := by decide +kernel
theorem dX10_readsChoose_47 : decode cX10_readsChoose 47 = .ok (.ifCond .eq 101, 3) := by decide +kernel
theorem dX10_readsChoose_50 : decode cX10_readsChoose 50 = .ok (.aload_n 0, 1) := by decide +kernel
theorem dX10_readsChoose_51 : decode cX10_readsChoose 51 = .ok (.getfield 58, 3) := by decide +kernel
theorem dX10_readsChoose_54 : decode cX10_readsChoose 54 = .ok (.ifCond .ge 94, 3) := by decide +kernel
theorem dX10_readsChoose_57 : decode cX10_readsChoose 57 = .ok (.aload_n 0, 1) := by decide +kernel
theorem dX10_readsChoose_58 : decode cX10_readsChoose 58 = .ok (.invokevirtual 107, 3) := by decide +kernel
theorem dX10_readsChoose_61 : decode cX10_readsChoose 61 = .ok (.istore 6, 2) := by decide +kernel
theorem dX10_readsChoose_63 : decode cX10_readsChoose 63 = .ok (.aload_n 0, 1) := by decide +kernel
theorem dX10_readsChoose_64 : decode cX10_readsChoose 64 = .ok (.bipush 12, 2) := by decide +kernel
theorem dX10_readsChoose_66 : decode cX10_readsChoose 66 = .ok (.iload 6, 2) := by decide +kernel
theorem dX10_readsChoose_68 : decode cX10_readsChoose 68 = .ok (.iconst 0, 1) := by decide +kernel
theorem dX10_readsChoose_69 : decode cX10_readsChoose 69 = .ok (.iconst 0, 1) := by decide +kernel
theorem dX10_readsChoose_70 : decode cX10_readsChoose 70 = .ok (.invokevirtual 87, 3) := by decide +kernel
theorem dX10_readsChoose_73 : decode cX10_readsChoose 73 = .ok (.istore 7, 2) := by decide +kernel
theorem dX10_readsChoose_75 : decode cX10_readsChoose 75 = .ok (.iload 4, 2) := by decide +kernel
theorem dX10_readsChoose_77 : decode cX10_readsChoose 77 = .ok (.ifCond .ne 8, 3) := by decide +kernel
theorem dX10_readsChoose_80 : decode cX10_readsChoose 80 = .ok (.iload 7, 2) := by decide +kernel
theorem dX10_readsChoose_82 : decode cX10_readsChoose 82 = .ok (.goto 4, 3) := by decide +kernel
theorem dX10_readsChoose_85 : decode cX10_readsChoose 85 = .ok (.iload_n 2, 1) := by decide +kernel
theorem dX10_readsChoose_86 : decode cX10_readsChoose 86 = .ok (.istore_n 2, 1) := by decide +kernel
theorem dX10_readsChoose_87 : decode cX10_readsChoose 87 = .ok (.iload 4, 2) := by decide +kernel
theorem dX10_readsChoose_89 : decode cX10_readsChoose 89 = .ok (.ifCond .le 18, 3) := by decide +kernel
theorem dX10_readsChoose_92 : decode cX10_readsChoose 92 = .ok (.aload_n 0, 1) := by decide +kernel
theorem dX10_readsChoose_93 : decode cX10_readsChoose 93 = .ok (.getfield 58, 3) := by decide +kernel
theorem dX10_readsChoose_96 : decode cX10_readsChoose 96 = .ok (.ifCond .ge 11, 3) := by decide +kernel
theorem dX10_readsChoose_99 : decode cX10_readsChoose 99 = .ok (.aload_n 0, 1) := by decide +kernel
theorem dX10_readsChoose_100 : decode cX10_readsChoose 100 = .ok (.getfield 26, 3) := by decide +kernel
theorem dX10_readsChoose_103 : decode cX10_readsChoose 103 = .ok (.iload_n 3, 1) := by decide +kernel
theorem dX10_readsChoose_104 : decode cX10_readsChoose 104 = .ok (.iload 7, 2) := by decide +kernel
theorem dX10_readsChoose_106 : decode cX10_readsChoose 106 = .ok (.iastore, 1) := by decide +kernel
theorem dX10_readsChoose_107 : decode cX10_readsChoose 107 = .ok (.iload 7, 2) := by decide +kernel
theorem dX10_readsChoose_109 : decode cX10_readsChoose 109 = .ok (.istore_n 3, 1) := by decide +kernel
theorem dX10_readsChoose_110 : decode cX10_readsChoose 110 = .ok (.iinc 4 1, 3) := by decide +kernel
theorem dX10_readsChoose_113 : decode cX10_readsChoose 113 = .ok (.iload 4, 2) := by decide +kernel
theorem dX10_readsChoose_115 : decode cX10_readsChoose 115 = .ok (.bipush 6, 2) := by decide +kernel
theorem dX10_readsChoose_117 : decode cX10_readsChoose 117 = .ok (.if_icmp .ne 20, 3) := by decide +kernel
theorem dX10_readsChoose_120 : decode cX10_readsChoose 120 = .ok (.aload_n 0, 1) := by decide +kernel
theorem dX10_readsChoose_121 : decode cX10_readsChoose 121 = .ok (.invokevirtual 61, 3) := by decide +kernel
theorem dX10_readsChoose_124 : decode cX10_readsChoose 124 = .ok (.bipush 44, 2) := by decide +kernel
theorem dX10_readsChoose_126 : decode cX10_readsChoose 126 = .ok (.if_icmp .ne 11, 3) := by decide +kernel
theorem dX10_readsChoose_129 : decode cX10_readsChoose 129 = .ok (.aload_n 0, 1) := by decide +kernel
theorem dX10_readsChoose_130 : decode cX10_readsChoose 130 = .ok (.aload_n 0, 1) := by decide +kernel
theorem dX10_readsChoose_131 : decode cX10_readsChoose 131 = .ok (.getfield 51, 3) := by decide +kernel
theorem dX10_readsChoose_134 : decode cX10_readsChoose 134 = .ok (.invokevirtual 69, 3) := by decide +kernel
theorem dX10_readsChoose_137 : decode cX10_readsChoose 137 = .ok (.aload_n 0, 1) := by decide +kernel
theorem dX10_readsChoose_138 : decode cX10_readsChoose 138 = .ok (.bipush 44, 2) := by decide +kernel
theorem dX10_readsChoose_140 : decode cX10_readsChoose 140 = .ok (.invokevirtual 65, 3) := by decide +kernel
theorem dX10_readsChoose_143 : decode cX10_readsChoose 143 = .ok (.istore 5, 2) := by decide +kernel
theorem dX10_readsChoose_145 : decode cX10_readsChoose 145 = .ok (.goto (-100), 3) := by decide +kernel
theorem dX10_readsChoose_148 : decode cX10_readsChoose 148 = .ok (.aload_n 0, 1) := by decide +kernel
theorem dX10_readsChoose_149 : decode cX10_readsChoose 149 = .ok (.bipush 125, 2) := by decide +kernel
theorem dX10_readsChoose_151 : decode cX10_readsChoose 151 = .ok (.invokevirtual 125, 3) := by decide +kernel
theorem dX10_readsChoose_154 : decode cX10_readsChoose 154 = .ok (.aload_n 0, 1) := by decide +kernel
theorem dX10_readsChoose_155 : decode cX10_readsChoose 155 = .ok (.bipush 9, 2) := by decide +kernel
theorem dX10_readsChoose_157 : decode cX10_readsChoose 157 = .ok (.iload_n 1, 1) := by decide +kernel
theorem dX10_readsChoose_158 : decode cX10_readsChoose 158 = .ok (.iload_n 2, 1) := by decide +kernel
theorem dX10_readsChoose_159 : decode cX10_readsChoose 159 = .ok (.iload 4, 2) := by decide +kernel
theorem dX10_readsChoose_161 : decode cX10_readsChoose 161 = .ok (.invokevirtual 87, 3) := by decide +kernel
theorem dX10_readsChoose_164 : decode cX10_readsChoose 164 = .ok (.ireturn, 1) := by decide +kernel
theorem dX10_opens_0 : decode cX10_opens 0 = .ok (.aload_n 0, 1) := by decide +kernel
theorem dX10_opens_1 : decode cX10_opens 1 = .ok (.getfield 58, 3) := by decide +kernel
theorem dX10_opens_4 : decode cX10_opens 4 = .ok (.ifCond .ge 28, 3) := by decide +kernel
theorem dX10_opens_7 : decode cX10_opens 7 = .ok (.aload_n 0, 1) := by decide +kernel
theorem dX10_opens_8 : decode cX10_opens 8 = .ok (.invokevirtual 61, 3) := by decide +kernel
theorem dX10_opens_11 : decode cX10_opens 11 = .ok (.iload_n 1, 1) := by decide +kernel
theorem dX10_opens_12 : decode cX10_opens 12 = .ok (.if_icmp .ne 20, 3) := by decide +kernel
theorem dX10_opens_15 : decode cX10_opens 15 = .ok (.aload_n 0, 1) := by decide +kernel
theorem dX10_opens_16 : decode cX10_opens 16 = .ok (.getfield 128, 3) := by decide +kernel
theorem dX10_opens_19 : decode cX10_opens 19 = .ok (.bipush 6, 2) := by decide +kernel
theorem dX10_opens_21 : decode cX10_opens 21 = .ok (.if_icmp .ne 11, 3) := by decide +kernel
theorem dX10_opens_24 : decode cX10_opens 24 = .ok (.aload_n 0, 1) := by decide +kernel
theorem dX10_opens_25 : decode cX10_opens 25 = .ok (.aload_n 0, 1) := by decide +kernel
theorem dX10_opens_26 : decode cX10_opens 26 = .ok (.getfield 51, 3) := by decide +kernel
theorem dX10_opens_29 : decode cX10_opens 29 = .ok (.invokevirtual 69, 3) := by decide +kernel
theorem dX10_opens_32 : decode cX10_opens 32 = .ok (.aload_n 0, 1) := by decide +kernel
theorem dX10_opens_33 : decode cX10_opens 33 = .ok (.iload_n 1, 1) := by decide +kernel
theorem dX10_opens_34 : decode cX10_opens 34 = .ok (.invokevirtual 125, 3) := by decide +kernel
theorem dX10_opens_37 : decode cX10_opens 37 = .ok (.aload_n 0, 1) := by decide +kernel
theorem dX10_opens_38 : decode cX10_opens 38 = .ok (.dup, 1) := by decide +kernel
theorem dX10_opens_39 : decode cX10_opens 39 = .ok (.getfield 128, 3) := by decide +kernel
theorem dX10_opens_42 : decode cX10_opens 42 = .ok (.iconst 1, 1) := by decide +kernel
theorem dX10_opens_43 : decode cX10_opens 43 = .ok (.iadd, 1) := by decide +kernel
theorem dX10_opens_44 : decode cX10_opens 44 = .ok (.putfield 128, 3) := by decide +kernel
theorem dX10_opens_47 : decode cX10_opens 47 = .ok (.aload_n 0, 1) := by decide +kernel
theorem dX10_opens_48 : decode cX10_opens 48 = .ok (.getfield 58, 3) := by decide +kernel
theorem dX10_opens_51 : decode cX10_opens 51 = .ok (.ifCond .ge 7, 3) := by decide +kernel
theorem dX10_opens_54 : decode cX10_opens 54 = .ok (.iconst 1, 1) := by decide +kernel
theorem dX10_opens_55 : decode cX10_opens 55 = .ok (.goto 4, 3) := by decide +kernel
theorem dX10_opens_58 : decode cX10_opens 58 = .ok (.iconst 0, 1) := by decide +kernel
theorem dX10_opens_59 : decode cX10_opens 59 = .ok (.ireturn, 1) := by decide +kernel
theorem dX10_readsBrackets_0 : decode cX10_readsBrackets 0 = .ok (.aload_n 0, 1) := by decide +kernel
theorem dX10_readsBrackets_1 : decode cX10_readsBrackets 1 = .ok (.iload_n 1, 1) := by decide +kernel
theorem dX10_readsBrackets_2 : decode cX10_readsBrackets 2 = .ok (.invokevirtual 131, 3) := by decide +kernel
theorem dX10_readsBrackets_5 : decode cX10_readsBrackets 5 = .ok (.ifCond .ne 5, 3) := by decide +kernel
theorem dX10_readsBrackets_8 : decode cX10_readsBrackets 8 = .ok (.iconst 0, 1) := by decide +kernel
theorem dX10_readsBrackets_9 : decode cX10_readsBrackets 9 = .ok (.ireturn, 1) := by decide +kernel
theorem dX10_readsBrackets_10 : decode cX10_readsBrackets 10 = .ok (.aload_n 0, 1) := by decide +kernel
theorem dX10_readsBrackets_11 : decode cX10_readsBrackets 11 = .ok (.invokevirtual 134, 3) := by decide +kernel
theorem dX10_readsBrackets_14 : decode cX10_readsBrackets 14 = .ok (.istore_n 3, 1) := by decide +kernel
theorem dX10_readsBrackets_15 : decode cX10_readsBrackets 15 = .ok (.aload_n 0, 1) := by decide +kernel
theorem dX10_readsBrackets_16 : decode cX10_readsBrackets 16 = .ok (.iload_n 2, 1) := by decide +kernel
theorem dX10_readsBrackets_17 : decode cX10_readsBrackets 17 = .ok (.invokevirtual 125, 3) := by decide +kernel
theorem dX10_readsBrackets_20 : decode cX10_readsBrackets 20 = .ok (.aload_n 0, 1) := by decide +kernel
theorem dX10_readsBrackets_21 : decode cX10_readsBrackets 21 = .ok (.dup, 1) := by decide +kernel
theorem dX10_readsBrackets_22 : decode cX10_readsBrackets 22 = .ok (.getfield 128, 3) := by decide +kernel
theorem dX10_readsBrackets_25 : decode cX10_readsBrackets 25 = .ok (.iconst 1, 1) := by decide +kernel
theorem dX10_readsBrackets_26 : decode cX10_readsBrackets 26 = .ok (.isub, 1) := by decide +kernel
theorem dX10_readsBrackets_27 : decode cX10_readsBrackets 27 = .ok (.putfield 128, 3) := by decide +kernel
theorem dX10_readsBrackets_30 : decode cX10_readsBrackets 30 = .ok (.iload_n 3, 1) := by decide +kernel
theorem dX10_readsBrackets_31 : decode cX10_readsBrackets 31 = .ok (.ireturn, 1) := by decide +kernel
theorem dX10_readsWays_0 : decode cX10_readsWays 0 = .ok (.aload_n 0, 1) := by decide +kernel
theorem dX10_readsWays_1 : decode cX10_readsWays 1 = .ok (.bipush 40, 2) := by decide +kernel
theorem dX10_readsWays_3 : decode cX10_readsWays 3 = .ok (.invokevirtual 131, 3) := by decide +kernel
theorem dX10_readsWays_6 : decode cX10_readsWays 6 = .ok (.ifCond .ne 5, 3) := by decide +kernel
theorem dX10_readsWays_9 : decode cX10_readsWays 9 = .ok (.iconst 0, 1) := by decide +kernel
theorem dX10_readsWays_10 : decode cX10_readsWays 10 = .ok (.ireturn, 1) := by decide +kernel
theorem dX10_readsWays_11 : decode cX10_readsWays 11 = .ok (.iconst (-1), 1) := by decide +kernel
theorem dX10_readsWays_12 : decode cX10_readsWays 12 = .ok (.istore_n 1, 1) := by decide +kernel
theorem dX10_readsWays_13 : decode cX10_readsWays 13 = .ok (.iconst (-1), 1) := by decide +kernel
theorem dX10_readsWays_14 : decode cX10_readsWays 14 = .ok (.istore_n 2, 1) := by decide +kernel
theorem dX10_readsWays_15 : decode cX10_readsWays 15 = .ok (.iconst 0, 1) := by decide +kernel
theorem dX10_readsWays_16 : decode cX10_readsWays 16 = .ok (.istore_n 3, 1) := by decide +kernel
theorem dX10_readsWays_17 : decode cX10_readsWays 17 = .ok (.iconst 1, 1) := by decide +kernel
theorem dX10_readsWays_18 : decode cX10_readsWays 18 = .ok (.istore 4, 2) := by decide +kernel
theorem dX10_readsWays_20 : decode cX10_readsWays 20 = .ok (.iload 4, 2) := by decide +kernel
theorem dX10_readsWays_22 : decode cX10_readsWays 22 = .ok (.ifCond .eq 98, 3) := by decide +kernel
theorem dX10_readsWays_25 : decode cX10_readsWays 25 = .ok (.aload_n 0, 1) := by decide +kernel
theorem dX10_readsWays_26 : decode cX10_readsWays 26 = .ok (.getfield 58, 3) := by decide +kernel
theorem dX10_readsWays_29 : decode cX10_readsWays 29 = .ok (.ifCond .ge 91, 3) := by decide +kernel
theorem dX10_readsWays_32 : decode cX10_readsWays 32 = .ok (.aload_n 0, 1) := by decide +kernel
theorem dX10_readsWays_33 : decode cX10_readsWays 33 = .ok (.invokevirtual 134, 3) := by decide +kernel
theorem dX10_readsWays_36 : decode cX10_readsWays 36 = .ok (.istore 5, 2) := by decide +kernel
theorem dX10_readsWays_38 : decode cX10_readsWays 38 = .ok (.aload_n 0, 1) := by decide +kernel
theorem dX10_readsWays_39 : decode cX10_readsWays 39 = .ok (.bipush 12, 2) := by decide +kernel
theorem dX10_readsWays_41 : decode cX10_readsWays 41 = .ok (.iload 5, 2) := by decide +kernel
theorem dX10_readsWays_43 : decode cX10_readsWays 43 = .ok (.iconst 0, 1) := by decide +kernel
theorem dX10_readsWays_44 : decode cX10_readsWays 44 = .ok (.iconst 0, 1) := by decide +kernel
theorem dX10_readsWays_45 : decode cX10_readsWays 45 = .ok (.invokevirtual 87, 3) := by decide +kernel
theorem dX10_readsWays_48 : decode cX10_readsWays 48 = .ok (.istore 6, 2) := by decide +kernel
theorem dX10_readsWays_50 : decode cX10_readsWays 50 = .ok (.iload_n 3, 1) := by decide +kernel
theorem dX10_readsWays_51 : decode cX10_readsWays 51 = .ok (.ifCond .ne 8, 3) := by decide +kernel
theorem dX10_readsWays_54 : decode cX10_readsWays 54 = .ok (.iload 6, 2) := by decide +kernel
theorem dX10_readsWays_56 : decode cX10_readsWays 56 = .ok (.goto 4, 3) := by decide +kernel
theorem dX10_readsWays_59 : decode cX10_readsWays 59 = .ok (.iload_n 1, 1) := by decide +kernel
theorem dX10_readsWays_60 : decode cX10_readsWays 60 = .ok (.istore_n 1, 1) := by decide +kernel
theorem dX10_readsWays_61 : decode cX10_readsWays 61 = .ok (.iload_n 3, 1) := by decide +kernel
theorem dX10_readsWays_62 : decode cX10_readsWays 62 = .ok (.ifCond .le 18, 3) := by decide +kernel
theorem dX10_readsWays_65 : decode cX10_readsWays 65 = .ok (.aload_n 0, 1) := by decide +kernel
theorem dX10_readsWays_66 : decode cX10_readsWays 66 = .ok (.getfield 58, 3) := by decide +kernel
theorem dX10_readsWays_69 : decode cX10_readsWays 69 = .ok (.ifCond .ge 11, 3) := by decide +kernel
theorem dX10_readsWays_72 : decode cX10_readsWays 72 = .ok (.aload_n 0, 1) := by decide +kernel
theorem dX10_readsWays_73 : decode cX10_readsWays 73 = .ok (.getfield 26, 3) := by decide +kernel
theorem dX10_readsWays_76 : decode cX10_readsWays 76 = .ok (.iload_n 2, 1) := by decide +kernel
theorem dX10_readsWays_77 : decode cX10_readsWays 77 = .ok (.iload 6, 2) := by decide +kernel
theorem dX10_readsWays_79 : decode cX10_readsWays 79 = .ok (.iastore, 1) := by decide +kernel
theorem dX10_readsWays_80 : decode cX10_readsWays 80 = .ok (.iload 6, 2) := by decide +kernel
theorem dX10_readsWays_82 : decode cX10_readsWays 82 = .ok (.istore_n 2, 1) := by decide +kernel
theorem dX10_readsWays_83 : decode cX10_readsWays 83 = .ok (.iinc 3 1, 3) := by decide +kernel
theorem dX10_readsWays_86 : decode cX10_readsWays 86 = .ok (.iload_n 3, 1) := by decide +kernel
theorem dX10_readsWays_87 : decode cX10_readsWays 87 = .ok (.bipush 6, 2) := by decide +kernel
theorem dX10_readsWays_89 : decode cX10_readsWays 89 = .ok (.if_icmp .ne 20, 3) := by decide +kernel
theorem dX10_readsWays_92 : decode cX10_readsWays 92 = .ok (.aload_n 0, 1) := by decide +kernel
theorem dX10_readsWays_93 : decode cX10_readsWays 93 = .ok (.invokevirtual 61, 3) := by decide +kernel
theorem dX10_readsWays_96 : decode cX10_readsWays 96 = .ok (.bipush 124, 2) := by decide +kernel
theorem dX10_readsWays_98 : decode cX10_readsWays 98 = .ok (.if_icmp .ne 11, 3) := by decide +kernel
theorem dX10_readsWays_101 : decode cX10_readsWays 101 = .ok (.aload_n 0, 1) := by decide +kernel
theorem dX10_readsWays_102 : decode cX10_readsWays 102 = .ok (.aload_n 0, 1) := by decide +kernel
theorem dX10_readsWays_103 : decode cX10_readsWays 103 = .ok (.getfield 51, 3) := by decide +kernel
theorem dX10_readsWays_106 : decode cX10_readsWays 106 = .ok (.invokevirtual 69, 3) := by decide +kernel
theorem dX10_readsWays_109 : decode cX10_readsWays 109 = .ok (.aload_n 0, 1) := by decide +kernel
theorem dX10_readsWays_110 : decode cX10_readsWays 110 = .ok (.bipush 124, 2) := by decide +kernel
theorem dX10_readsWays_112 : decode cX10_readsWays 112 = .ok (.invokevirtual 65, 3) := by decide +kernel
theorem dX10_readsWays_115 : decode cX10_readsWays 115 = .ok (.istore 4, 2) := by decide +kernel
theorem dX10_readsWays_117 : decode cX10_readsWays 117 = .ok (.goto (-97), 3) := by decide +kernel
theorem dX10_readsWays_120 : decode cX10_readsWays 120 = .ok (.aload_n 0, 1) := by decide +kernel
theorem dX10_readsWays_121 : decode cX10_readsWays 121 = .ok (.bipush 41, 2) := by decide +kernel
theorem dX10_readsWays_123 : decode cX10_readsWays 123 = .ok (.invokevirtual 125, 3) := by decide +kernel
theorem dX10_readsWays_126 : decode cX10_readsWays 126 = .ok (.aload_n 0, 1) := by decide +kernel
theorem dX10_readsWays_127 : decode cX10_readsWays 127 = .ok (.dup, 1) := by decide +kernel
theorem dX10_readsWays_128 : decode cX10_readsWays 128 = .ok (.getfield 128, 3) := by decide +kernel
theorem dX10_readsWays_131 : decode cX10_readsWays 131 = .ok (.iconst 1, 1) := by decide +kernel
theorem dX10_readsWays_132 : decode cX10_readsWays 132 = .ok (.isub, 1) := by decide +kernel
theorem dX10_readsWays_133 : decode cX10_readsWays 133 = .ok (.putfield 128, 3) := by decide +kernel
theorem dX10_readsWays_136 : decode cX10_readsWays 136 = .ok (.aload_n 0, 1) := by decide +kernel
theorem dX10_readsWays_137 : decode cX10_readsWays 137 = .ok (.bipush 11, 2) := by decide +kernel
theorem dX10_readsWays_139 : decode cX10_readsWays 139 = .ok (.iload_n 1, 1) := by decide +kernel
theorem dX10_readsWays_140 : decode cX10_readsWays 140 = .ok (.iload_n 3, 1) := by decide +kernel
theorem dX10_readsWays_141 : decode cX10_readsWays 141 = .ok (.iconst 0, 1) := by decide +kernel
theorem dX10_readsWays_142 : decode cX10_readsWays 142 = .ok (.invokevirtual 87, 3) := by decide +kernel
theorem dX10_readsWays_145 : decode cX10_readsWays 145 = .ok (.ireturn, 1) := by decide +kernel
theorem dX10_starts_0 : decode cX10_starts 0 = .ok (.aload_n 0, 1) := by decide +kernel
theorem dX10_starts_1 : decode cX10_starts 1 = .ok (.iconst 0, 1) := by decide +kernel
theorem dX10_starts_2 : decode cX10_starts 2 = .ok (.putfield 51, 3) := by decide +kernel
theorem dX10_starts_5 : decode cX10_starts 5 = .ok (.aload_n 0, 1) := by decide +kernel
theorem dX10_starts_6 : decode cX10_starts 6 = .ok (.iconst (-1), 1) := by decide +kernel
theorem dX10_starts_7 : decode cX10_starts 7 = .ok (.putfield 58, 3) := by decide +kernel
theorem dX10_starts_10 : decode cX10_starts 10 = .ok (.aload_n 0, 1) := by decide +kernel
theorem dX10_starts_11 : decode cX10_starts 11 = .ok (.iconst 0, 1) := by decide +kernel
theorem dX10_starts_12 : decode cX10_starts 12 = .ok (.putfield 128, 3) := by decide +kernel
theorem dX10_starts_15 : decode cX10_starts 15 = .ok (.aload_n 0, 1) := by decide +kernel
theorem dX10_starts_16 : decode cX10_starts 16 = .ok (.iconst 0, 1) := by decide +kernel
theorem dX10_starts_17 : decode cX10_starts 17 = .ok (.putfield 104, 3) := by decide +kernel
theorem dX10_starts_20 : decode cX10_starts 20 = .ok (.aload_n 0, 1) := by decide +kernel
theorem dX10_starts_21 : decode cX10_starts 21 = .ok (.iconst 0, 1) := by decide +kernel
theorem dX10_starts_22 : decode cX10_starts 22 = .ok (.putfield 76, 3) := by decide +kernel
theorem dX10_starts_25 : decode cX10_starts 25 = .ok (.return_, 1) := by decide +kernel
theorem dX10_ends_0 : decode cX10_ends 0 = .ok (.aload_n 0, 1) := by decide +kernel
theorem dX10_ends_1 : decode cX10_ends 1 = .ok (.getfield 51, 3) := by decide +kernel
theorem dX10_ends_4 : decode cX10_ends 4 = .ok (.aload_n 0, 1) := by decide +kernel
theorem dX10_ends_5 : decode cX10_ends 5 = .ok (.getfield 47, 3) := by decide +kernel
theorem dX10_ends_8 : decode cX10_ends 8 = .ok (.if_icmp .ge 11, 3) := by decide +kernel
theorem dX10_ends_11 : decode cX10_ends 11 = .ok (.aload_n 0, 1) := by decide +kernel
theorem dX10_ends_12 : decode cX10_ends 12 = .ok (.aload_n 0, 1) := by decide +kernel
theorem dX10_ends_13 : decode cX10_ends 13 = .ok (.getfield 51, 3) := by decide +kernel
theorem dX10_ends_16 : decode cX10_ends 16 = .ok (.invokevirtual 69, 3) := by decide +kernel
theorem dX10_ends_19 : decode cX10_ends 19 = .ok (.aload_n 0, 1) := by decide +kernel
theorem dX10_ends_20 : decode cX10_ends 20 = .ok (.iconst 0, 1) := by decide +kernel
theorem dX10_ends_21 : decode cX10_ends 21 = .ok (.putfield 47, 3) := by decide +kernel
theorem dX10_ends_24 : decode cX10_ends 24 = .ok (.aload_n 0, 1) := by decide +kernel
theorem dX10_ends_25 : decode cX10_ends 25 = .ok (.getfield 58, 3) := by decide +kernel
theorem dX10_ends_28 : decode cX10_ends 28 = .ok (.ifCond .lt 13, 3) := by decide +kernel
theorem dX10_ends_31 : decode cX10_ends 31 = .ok (.bipush (-100), 2) := by decide +kernel
theorem dX10_ends_33 : decode cX10_ends 33 = .ok (.aload_n 0, 1) := by decide +kernel
theorem dX10_ends_34 : decode cX10_ends 34 = .ok (.getfield 58, 3) := by decide +kernel
theorem dX10_ends_37 : decode cX10_ends 37 = .ok (.isub, 1) := by decide +kernel
theorem dX10_ends_38 : decode cX10_ends 38 = .ok (.goto 4, 3) := by decide +kernel
theorem dX10_ends_41 : decode cX10_ends 41 = .ok (.iconst 0, 1) := by decide +kernel
theorem dX10_ends_42 : decode cX10_ends 42 = .ok (.ireturn, 1) := by decide +kernel
theorem dX10_program_0 : decode cX10_program 0 = .ok (.iload_n 1, 1) := by decide +kernel
theorem dX10_program_1 : decode cX10_program 1 = .ok (.i2l, 1) := by decide +kernel
theorem dX10_program_2 : decode cX10_program 2 = .ok (.lconst 0, 1) := by decide +kernel
theorem dX10_program_3 : decode cX10_program 3 = .ok (.ldc2_w 137, 3) := by decide +kernel
theorem dX10_program_6 : decode cX10_program 6 = .ok (.invokestatic 43, 3) := by decide +kernel
theorem dX10_program_9 : decode cX10_program 9 = .ok (.ifCond .ne 7, 3) := by decide +kernel
theorem dX10_program_12 : decode cX10_program 12 = .ok (.sipush (-2001), 3) := by decide +kernel
theorem dX10_program_15 : decode cX10_program 15 = .ok (.ireturn, 1) := by decide +kernel
theorem dX10_program_16 : decode cX10_program 16 = .ok (.aload_n 0, 1) := by decide +kernel
theorem dX10_program_17 : decode cX10_program 17 = .ok (.invokevirtual 139, 3) := by decide +kernel
theorem dX10_program_20 : decode cX10_program 20 = .ok (.aload_n 0, 1) := by decide +kernel
theorem dX10_program_21 : decode cX10_program 21 = .ok (.invokevirtual 134, 3) := by decide +kernel
theorem dX10_program_24 : decode cX10_program 24 = .ok (.istore_n 2, 1) := by decide +kernel
theorem dX10_program_25 : decode cX10_program 25 = .ok (.aload_n 0, 1) := by decide +kernel
theorem dX10_program_26 : decode cX10_program 26 = .ok (.invokevirtual 142, 3) := by decide +kernel
theorem dX10_program_29 : decode cX10_program 29 = .ok (.istore_n 3, 1) := by decide +kernel
theorem dX10_program_30 : decode cX10_program 30 = .ok (.iload_n 3, 1) := by decide +kernel
theorem dX10_program_31 : decode cX10_program 31 = .ok (.ifCond .ge 5, 3) := by decide +kernel
theorem dX10_program_34 : decode cX10_program 34 = .ok (.iload_n 3, 1) := by decide +kernel
theorem dX10_program_35 : decode cX10_program 35 = .ok (.ireturn, 1) := by decide +kernel
theorem dX10_program_36 : decode cX10_program 36 = .ok (.aload_n 0, 1) := by decide +kernel
theorem dX10_program_37 : decode cX10_program 37 = .ok (.getfield 29, 3) := by decide +kernel
theorem dX10_program_40 : decode cX10_program 40 = .ok (.iload_n 1, 1) := by decide +kernel
theorem dX10_program_41 : decode cX10_program 41 = .ok (.iload_n 2, 1) := by decide +kernel
theorem dX10_program_42 : decode cX10_program 42 = .ok (.iastore, 1) := by decide +kernel
theorem dX10_program_43 : decode cX10_program 43 = .ok (.aload_n 0, 1) := by decide +kernel
theorem dX10_program_44 : decode cX10_program 44 = .ok (.getfield 32, 3) := by decide +kernel
theorem dX10_program_47 : decode cX10_program 47 = .ok (.iload_n 1, 1) := by decide +kernel
theorem dX10_program_48 : decode cX10_program 48 = .ok (.iconst (-1), 1) := by decide +kernel
theorem dX10_program_49 : decode cX10_program 49 = .ok (.iastore, 1) := by decide +kernel
theorem dX10_program_50 : decode cX10_program 50 = .ok (.aload_n 0, 1) := by decide +kernel
theorem dX10_program_51 : decode cX10_program 51 = .ok (.dup, 1) := by decide +kernel
theorem dX10_program_52 : decode cX10_program 52 = .ok (.getfield 73, 3) := by decide +kernel
theorem dX10_program_55 : decode cX10_program 55 = .ok (.iconst 1, 1) := by decide +kernel
theorem dX10_program_56 : decode cX10_program 56 = .ok (.iadd, 1) := by decide +kernel
theorem dX10_program_57 : decode cX10_program 57 = .ok (.putfield 73, 3) := by decide +kernel
theorem dX10_program_60 : decode cX10_program 60 = .ok (.aload_n 0, 1) := by decide +kernel
theorem dX10_program_61 : decode cX10_program 61 = .ok (.getfield 104, 3) := by decide +kernel
theorem dX10_program_64 : decode cX10_program 64 = .ok (.ireturn, 1) := by decide +kernel
theorem dX10_cost_0 : decode cX10_cost 0 = .ok (.iload_n 1, 1) := by decide +kernel
theorem dX10_cost_1 : decode cX10_cost 1 = .ok (.i2l, 1) := by decide +kernel
theorem dX10_cost_2 : decode cX10_cost 2 = .ok (.lconst 0, 1) := by decide +kernel
theorem dX10_cost_3 : decode cX10_cost 3 = .ok (.ldc2_w 137, 3) := by decide +kernel
theorem dX10_cost_6 : decode cX10_cost 6 = .ok (.invokestatic 43, 3) := by decide +kernel
theorem dX10_cost_9 : decode cX10_cost 9 = .ok (.ifCond .ne 7, 3) := by decide +kernel
theorem dX10_cost_12 : decode cX10_cost 12 = .ok (.sipush (-2001), 3) := by decide +kernel
theorem dX10_cost_15 : decode cX10_cost 15 = .ok (.ireturn, 1) := by decide +kernel
theorem dX10_cost_16 : decode cX10_cost 16 = .ok (.aload_n 0, 1) := by decide +kernel
theorem dX10_cost_17 : decode cX10_cost 17 = .ok (.getfield 29, 3) := by decide +kernel
theorem dX10_cost_20 : decode cX10_cost 20 = .ok (.iload_n 1, 1) := by decide +kernel
theorem dX10_cost_21 : decode cX10_cost 21 = .ok (.iaload, 1) := by decide +kernel
theorem dX10_cost_22 : decode cX10_cost 22 = .ok (.iconst (-1), 1) := by decide +kernel
theorem dX10_cost_23 : decode cX10_cost 23 = .ok (.if_icmp .ne 7, 3) := by decide +kernel
theorem dX10_cost_26 : decode cX10_cost 26 = .ok (.sipush (-2003), 3) := by decide +kernel
theorem dX10_cost_29 : decode cX10_cost 29 = .ok (.ireturn, 1) := by decide +kernel
theorem dX10_cost_30 : decode cX10_cost 30 = .ok (.aload_n 0, 1) := by decide +kernel
theorem dX10_cost_31 : decode cX10_cost 31 = .ok (.invokevirtual 139, 3) := by decide +kernel
theorem dX10_cost_34 : decode cX10_cost 34 = .ok (.aload_n 0, 1) := by decide +kernel
theorem dX10_cost_35 : decode cX10_cost 35 = .ok (.invokevirtual 107, 3) := by decide +kernel
theorem dX10_cost_38 : decode cX10_cost 38 = .ok (.istore_n 2, 1) := by decide +kernel
theorem dX10_cost_39 : decode cX10_cost 39 = .ok (.aload_n 0, 1) := by decide +kernel
theorem dX10_cost_40 : decode cX10_cost 40 = .ok (.invokevirtual 142, 3) := by decide +kernel
theorem dX10_cost_43 : decode cX10_cost 43 = .ok (.istore_n 3, 1) := by decide +kernel
theorem dX10_cost_44 : decode cX10_cost 44 = .ok (.iload_n 3, 1) := by decide +kernel
theorem dX10_cost_45 : decode cX10_cost 45 = .ok (.ifCond .ge 5, 3) := by decide +kernel
theorem dX10_cost_48 : decode cX10_cost 48 = .ok (.iload_n 3, 1) := by decide +kernel
theorem dX10_cost_49 : decode cX10_cost 49 = .ok (.ireturn, 1) := by decide +kernel
theorem dX10_cost_50 : decode cX10_cost 50 = .ok (.aload_n 0, 1) := by decide +kernel
theorem dX10_cost_51 : decode cX10_cost 51 = .ok (.getfield 32, 3) := by decide +kernel
theorem dX10_cost_54 : decode cX10_cost 54 = .ok (.iload_n 1, 1) := by decide +kernel
theorem dX10_cost_55 : decode cX10_cost 55 = .ok (.iload_n 2, 1) := by decide +kernel
theorem dX10_cost_56 : decode cX10_cost 56 = .ok (.iastore, 1) := by decide +kernel
theorem dX10_cost_57 : decode cX10_cost 57 = .ok (.aload_n 0, 1) := by decide +kernel
theorem dX10_cost_58 : decode cX10_cost 58 = .ok (.dup, 1) := by decide +kernel
theorem dX10_cost_59 : decode cX10_cost 59 = .ok (.getfield 73, 3) := by decide +kernel
theorem dX10_cost_62 : decode cX10_cost 62 = .ok (.iconst 1, 1) := by decide +kernel
theorem dX10_cost_63 : decode cX10_cost 63 = .ok (.iadd, 1) := by decide +kernel
theorem dX10_cost_64 : decode cX10_cost 64 = .ok (.putfield 73, 3) := by decide +kernel
theorem dX10_cost_67 : decode cX10_cost 67 = .ok (.iconst 1, 1) := by decide +kernel
theorem dX10_cost_68 : decode cX10_cost 68 = .ok (.ireturn, 1) := by decide +kernel
theorem dX10_works_0 : decode cX10_works 0 = .ok (.iconst 0, 1) := by decide +kernel
theorem dX10_works_1 : decode cX10_works 1 = .ok (.istore_n 3, 1) := by decide +kernel
theorem dX10_works_2 : decode cX10_works 2 = .ok (.aload_n 0, 1) := by decide +kernel
theorem dX10_works_3 : decode cX10_works 3 = .ok (.getfield 14, 3) := by decide +kernel
theorem dX10_works_6 : decode cX10_works 6 = .ok (.iload_n 2, 1) := by decide +kernel
theorem dX10_works_7 : decode cX10_works 7 = .ok (.iaload, 1) := by decide +kernel
theorem dX10_works_8 : decode cX10_works 8 = .ok (.lookupswitch 79 #[(1, 36), (2, 46), (6, 63)], 36) := by decide +kernel
theorem dX10_works_44 : decode cX10_works 44 = .ok (.aload_n 0, 1) := by decide +kernel
theorem dX10_works_45 : decode cX10_works 45 = .ok (.getfield 17, 3) := by decide +kernel
theorem dX10_works_48 : decode cX10_works 48 = .ok (.iload_n 2, 1) := by decide +kernel
theorem dX10_works_49 : decode cX10_works 49 = .ok (.iaload, 1) := by decide +kernel
theorem dX10_works_50 : decode cX10_works 50 = .ok (.istore_n 3, 1) := by decide +kernel
theorem dX10_works_51 : decode cX10_works 51 = .ok (.goto 104, 3) := by decide +kernel
theorem dX10_works_54 : decode cX10_works 54 = .ok (.aload_n 0, 1) := by decide +kernel
theorem dX10_works_55 : decode cX10_works 55 = .ok (.getfield 35, 3) := by decide +kernel
theorem dX10_works_58 : decode cX10_works 58 = .ok (.iload_n 1, 1) := by decide +kernel
theorem dX10_works_59 : decode cX10_works 59 = .ok (.aload_n 0, 1) := by decide +kernel
theorem dX10_works_60 : decode cX10_works 60 = .ok (.getfield 17, 3) := by decide +kernel
theorem dX10_works_63 : decode cX10_works 63 = .ok (.iload_n 2, 1) := by decide +kernel
theorem dX10_works_64 : decode cX10_works 64 = .ok (.iaload, 1) := by decide +kernel
theorem dX10_works_65 : decode cX10_works 65 = .ok (.iadd, 1) := by decide +kernel
theorem dX10_works_66 : decode cX10_works 66 = .ok (.iaload, 1) := by decide +kernel
theorem dX10_works_67 : decode cX10_works 67 = .ok (.istore_n 3, 1) := by decide +kernel
theorem dX10_works_68 : decode cX10_works 68 = .ok (.goto 87, 3) := by decide +kernel
theorem dX10_works_71 : decode cX10_works 71 = .ok (.aload_n 0, 1) := by decide +kernel
theorem dX10_works_72 : decode cX10_works 72 = .ok (.iload_n 1, 1) := by decide +kernel
theorem dX10_works_73 : decode cX10_works 73 = .ok (.aload_n 0, 1) := by decide +kernel
theorem dX10_works_74 : decode cX10_works 74 = .ok (.getfield 17, 3) := by decide +kernel
theorem dX10_works_77 : decode cX10_works 77 = .ok (.iload_n 2, 1) := by decide +kernel
theorem dX10_works_78 : decode cX10_works 78 = .ok (.iaload, 1) := by decide +kernel
theorem dX10_works_79 : decode cX10_works 79 = .ok (.invokevirtual 145, 3) := by decide +kernel
theorem dX10_works_82 : decode cX10_works 82 = .ok (.ineg, 1) := by decide +kernel
theorem dX10_works_83 : decode cX10_works 83 = .ok (.istore_n 3, 1) := by decide +kernel
theorem dX10_works_84 : decode cX10_works 84 = .ok (.goto 71, 3) := by decide +kernel
theorem dX10_works_87 : decode cX10_works 87 = .ok (.aload_n 0, 1) := by decide +kernel
theorem dX10_works_88 : decode cX10_works 88 = .ok (.iload_n 1, 1) := by decide +kernel
theorem dX10_works_89 : decode cX10_works 89 = .ok (.aload_n 0, 1) := by decide +kernel
theorem dX10_works_90 : decode cX10_works 90 = .ok (.getfield 17, 3) := by decide +kernel
theorem dX10_works_93 : decode cX10_works 93 = .ok (.iload_n 2, 1) := by decide +kernel
theorem dX10_works_94 : decode cX10_works 94 = .ok (.iaload, 1) := by decide +kernel
theorem dX10_works_95 : decode cX10_works 95 = .ok (.invokevirtual 145, 3) := by decide +kernel
theorem dX10_works_98 : decode cX10_works 98 = .ok (.istore 4, 2) := by decide +kernel
theorem dX10_works_100 : decode cX10_works 100 = .ok (.aload_n 0, 1) := by decide +kernel
theorem dX10_works_101 : decode cX10_works 101 = .ok (.iload_n 1, 1) := by decide +kernel
theorem dX10_works_102 : decode cX10_works 102 = .ok (.aload_n 0, 1) := by decide +kernel
theorem dX10_works_103 : decode cX10_works 103 = .ok (.getfield 20, 3) := by decide +kernel
theorem dX10_works_106 : decode cX10_works 106 = .ok (.iload_n 2, 1) := by decide +kernel
theorem dX10_works_107 : decode cX10_works 107 = .ok (.iaload, 1) := by decide +kernel
theorem dX10_works_108 : decode cX10_works 108 = .ok (.invokevirtual 145, 3) := by decide +kernel
theorem dX10_works_111 : decode cX10_works 111 = .ok (.istore 5, 2) := by decide +kernel
theorem dX10_works_113 : decode cX10_works 113 = .ok (.aload_n 0, 1) := by decide +kernel
theorem dX10_works_114 : decode cX10_works 114 = .ok (.getfield 14, 3) := by decide +kernel
theorem dX10_works_117 : decode cX10_works 117 = .ok (.iload_n 2, 1) := by decide +kernel
theorem dX10_works_118 : decode cX10_works 118 = .ok (.iaload, 1) := by decide +kernel
theorem dX10_works_119 : decode cX10_works 119 = .ok (.iconst 3, 1) := by decide +kernel
theorem dX10_works_120 : decode cX10_works 120 = .ok (.if_icmp .ne 11, 3) := by decide +kernel
theorem dX10_works_123 : decode cX10_works 123 = .ok (.iload 4, 2) := by decide +kernel
theorem dX10_works_125 : decode cX10_works 125 = .ok (.iload 5, 2) := by decide +kernel
theorem dX10_works_127 : decode cX10_works 127 = .ok (.iadd, 1) := by decide +kernel
theorem dX10_works_128 : decode cX10_works 128 = .ok (.goto 26, 3) := by decide +kernel
theorem dX10_works_131 : decode cX10_works 131 = .ok (.aload_n 0, 1) := by decide +kernel
theorem dX10_works_132 : decode cX10_works 132 = .ok (.getfield 14, 3) := by decide +kernel
theorem dX10_works_135 : decode cX10_works 135 = .ok (.iload_n 2, 1) := by decide +kernel
theorem dX10_works_136 : decode cX10_works 136 = .ok (.iaload, 1) := by decide +kernel
theorem dX10_works_137 : decode cX10_works 137 = .ok (.iconst 4, 1) := by decide +kernel
theorem dX10_works_138 : decode cX10_works 138 = .ok (.if_icmp .ne 11, 3) := by decide +kernel
theorem dX10_works_141 : decode cX10_works 141 = .ok (.iload 4, 2) := by decide +kernel
theorem dX10_works_143 : decode cX10_works 143 = .ok (.iload 5, 2) := by decide +kernel
theorem dX10_works_145 : decode cX10_works 145 = .ok (.isub, 1) := by decide +kernel
theorem dX10_works_146 : decode cX10_works 146 = .ok (.goto 8, 3) := by decide +kernel
theorem dX10_works_149 : decode cX10_works 149 = .ok (.iload 4, 2) := by decide +kernel
theorem dX10_works_151 : decode cX10_works 151 = .ok (.iload 5, 2) := by decide +kernel
theorem dX10_works_153 : decode cX10_works 153 = .ok (.imul, 1) := by decide +kernel
theorem dX10_works_154 : decode cX10_works 154 = .ok (.istore_n 3, 1) := by decide +kernel
theorem dX10_works_155 : decode cX10_works 155 = .ok (.aload_n 0, 1) := by decide +kernel
theorem dX10_works_156 : decode cX10_works 156 = .ok (.aload_n 0, 1) := by decide +kernel
theorem dX10_works_157 : decode cX10_works 157 = .ok (.getfield 148, 3) := by decide +kernel
theorem dX10_works_160 : decode cX10_works 160 = .ok (.ifCond .eq 21, 3) := by decide +kernel
theorem dX10_works_163 : decode cX10_works 163 = .ok (.iload_n 3, 1) := by decide +kernel
theorem dX10_works_164 : decode cX10_works 164 = .ok (.i2l, 1) := by decide +kernel
theorem dX10_works_165 : decode cX10_works 165 = .ok (.ldc2_w 152, 3) := by decide +kernel
theorem dX10_works_168 : decode cX10_works 168 = .ok (.ldc2_w 154, 3) := by decide +kernel
theorem dX10_works_171 : decode cX10_works 171 = .ok (.invokestatic 43, 3) := by decide +kernel
theorem dX10_works_174 : decode cX10_works 174 = .ok (.ifCond .eq 7, 3) := by decide +kernel
theorem dX10_works_177 : decode cX10_works 177 = .ok (.iconst 1, 1) := by decide +kernel
theorem dX10_works_178 : decode cX10_works 178 = .ok (.goto 4, 3) := by decide +kernel
theorem dX10_works_181 : decode cX10_works 181 = .ok (.iconst 0, 1) := by decide +kernel
theorem dX10_works_182 : decode cX10_works 182 = .ok (.putfield 148, 3) := by decide +kernel
theorem dX10_works_185 : decode cX10_works 185 = .ok (.aload_n 0, 1) := by decide +kernel
theorem dX10_works_186 : decode cX10_works 186 = .ok (.getfield 148, 3) := by decide +kernel
theorem dX10_works_189 : decode cX10_works 189 = .ok (.ifCond .eq 7, 3) := by decide +kernel
theorem dX10_works_192 : decode cX10_works 192 = .ok (.iload_n 3, 1) := by decide +kernel
theorem dX10_works_193 : decode cX10_works 193 = .ok (.goto 4, 3) := by decide +kernel
theorem dX10_works_196 : decode cX10_works 196 = .ok (.iconst 0, 1) := by decide +kernel
theorem dX10_works_197 : decode cX10_works 197 = .ok (.ireturn, 1) := by decide +kernel
theorem dX10_costOf_0 : decode cX10_costOf 0 = .ok (.aload_n 0, 1) := by decide +kernel
theorem dX10_costOf_1 : decode cX10_costOf 1 = .ok (.getfield 35, 3) := by decide +kernel
theorem dX10_costOf_4 : decode cX10_costOf 4 = .ok (.aload_n 0, 1) := by decide +kernel
theorem dX10_costOf_5 : decode cX10_costOf 5 = .ok (.getfield 156, 3) := by decide +kernel
theorem dX10_costOf_8 : decode cX10_costOf 8 = .ok (.iconst 3, 1) := by decide +kernel
theorem dX10_costOf_9 : decode cX10_costOf 9 = .ok (.iadd, 1) := by decide +kernel
theorem dX10_costOf_10 : decode cX10_costOf 10 = .ok (.iaload, 1) := by decide +kernel
theorem dX10_costOf_11 : decode cX10_costOf 11 = .ok (.iconst (-1), 1) := by decide +kernel
theorem dX10_costOf_12 : decode cX10_costOf 12 = .ok (.if_icmp .ne 5, 3) := by decide +kernel
theorem dX10_costOf_15 : decode cX10_costOf 15 = .ok (.iconst 0, 1) := by decide +kernel
theorem dX10_costOf_16 : decode cX10_costOf 16 = .ok (.ireturn, 1) := by decide +kernel
theorem dX10_costOf_17 : decode cX10_costOf 17 = .ok (.aload_n 0, 1) := by decide +kernel
theorem dX10_costOf_18 : decode cX10_costOf 18 = .ok (.iconst 1, 1) := by decide +kernel
theorem dX10_costOf_19 : decode cX10_costOf 19 = .ok (.putfield 148, 3) := by decide +kernel
theorem dX10_costOf_22 : decode cX10_costOf 22 = .ok (.aload_n 0, 1) := by decide +kernel
theorem dX10_costOf_23 : decode cX10_costOf 23 = .ok (.iload_n 1, 1) := by decide +kernel
theorem dX10_costOf_24 : decode cX10_costOf 24 = .ok (.aload_n 0, 1) := by decide +kernel
theorem dX10_costOf_25 : decode cX10_costOf 25 = .ok (.getfield 35, 3) := by decide +kernel
theorem dX10_costOf_28 : decode cX10_costOf 28 = .ok (.aload_n 0, 1) := by decide +kernel
theorem dX10_costOf_29 : decode cX10_costOf 29 = .ok (.getfield 156, 3) := by decide +kernel
theorem dX10_costOf_32 : decode cX10_costOf 32 = .ok (.iconst 3, 1) := by decide +kernel
theorem dX10_costOf_33 : decode cX10_costOf 33 = .ok (.iadd, 1) := by decide +kernel
theorem dX10_costOf_34 : decode cX10_costOf 34 = .ok (.iaload, 1) := by decide +kernel
theorem dX10_costOf_35 : decode cX10_costOf 35 = .ok (.invokevirtual 145, 3) := by decide +kernel
theorem dX10_costOf_38 : decode cX10_costOf 38 = .ok (.istore_n 2, 1) := by decide +kernel
theorem dX10_costOf_39 : decode cX10_costOf 39 = .ok (.aload_n 0, 1) := by decide +kernel
theorem dX10_costOf_40 : decode cX10_costOf 40 = .ok (.getfield 148, 3) := by decide +kernel
theorem dX10_costOf_43 : decode cX10_costOf 43 = .ok (.ifCond .eq 7, 3) := by decide +kernel
theorem dX10_costOf_46 : decode cX10_costOf 46 = .ok (.iload_n 2, 1) := by decide +kernel
theorem dX10_costOf_47 : decode cX10_costOf 47 = .ok (.goto 5, 3) := by decide +kernel
theorem dX10_costOf_50 : decode cX10_costOf 50 = .ok (.ldc 159, 2) := by decide +kernel
theorem dX10_costOf_52 : decode cX10_costOf 52 = .ok (.ireturn, 1) := by decide +kernel
theorem dX10_pointAt_0 : decode cX10_pointAt 0 = .ok (.aload_n 0, 1) := by decide +kernel
theorem dX10_pointAt_1 : decode cX10_pointAt 1 = .ok (.getfield 156, 3) := by decide +kernel
theorem dX10_pointAt_4 : decode cX10_pointAt 4 = .ok (.sipush 262, 3) := by decide +kernel
theorem dX10_pointAt_7 : decode cX10_pointAt 7 = .ok (.iadd, 1) := by decide +kernel
theorem dX10_pointAt_8 : decode cX10_pointAt 8 = .ok (.bipush 47, 2) := by decide +kernel
theorem dX10_pointAt_10 : decode cX10_pointAt 10 = .ok (.iload_n 1, 1) := by decide +kernel
theorem dX10_pointAt_11 : decode cX10_pointAt 11 = .ok (.imul, 1) := by decide +kernel
theorem dX10_pointAt_12 : decode cX10_pointAt 12 = .ok (.iadd, 1) := by decide +kernel
theorem dX10_pointAt_13 : decode cX10_pointAt 13 = .ok (.ireturn, 1) := by decide +kernel
theorem dX10_level_0 : decode cX10_level 0 = .ok (.aload_n 0, 1) := by decide +kernel
theorem dX10_level_1 : decode cX10_level 1 = .ok (.getfield 35, 3) := by decide +kernel
theorem dX10_level_4 : decode cX10_level 4 = .ok (.aload_n 0, 1) := by decide +kernel
theorem dX10_level_5 : decode cX10_level 5 = .ok (.getfield 156, 3) := by decide +kernel
theorem dX10_level_8 : decode cX10_level 8 = .ok (.bipush 13, 2) := by decide +kernel
theorem dX10_level_10 : decode cX10_level 10 = .ok (.iadd, 1) := by decide +kernel
theorem dX10_level_11 : decode cX10_level 11 = .ok (.iaload, 1) := by decide +kernel
theorem dX10_level_12 : decode cX10_level 12 = .ok (.ireturn, 1) := by decide +kernel
theorem dX10_atLevel_0 : decode cX10_atLevel 0 = .ok (.aload_n 0, 1) := by decide +kernel
theorem dX10_atLevel_1 : decode cX10_atLevel 1 = .ok (.getfield 35, 3) := by decide +kernel
theorem dX10_atLevel_4 : decode cX10_atLevel 4 = .ok (.aload_n 0, 1) := by decide +kernel
theorem dX10_atLevel_5 : decode cX10_atLevel 5 = .ok (.getfield 156, 3) := by decide +kernel
theorem dX10_atLevel_8 : decode cX10_atLevel 8 = .ok (.bipush 13, 2) := by decide +kernel
theorem dX10_atLevel_10 : decode cX10_atLevel 10 = .ok (.iadd, 1) := by decide +kernel
theorem dX10_atLevel_11 : decode cX10_atLevel 11 = .ok (.iload_n 1, 1) := by decide +kernel
theorem dX10_atLevel_12 : decode cX10_atLevel 12 = .ok (.iastore, 1) := by decide +kernel
theorem dX10_atLevel_13 : decode cX10_atLevel 13 = .ok (.aload_n 0, 1) := by decide +kernel
theorem dX10_atLevel_14 : decode cX10_atLevel 14 = .ok (.aload_n 0, 1) := by decide +kernel
theorem dX10_atLevel_15 : decode cX10_atLevel 15 = .ok (.getfield 156, 3) := by decide +kernel
theorem dX10_atLevel_18 : decode cX10_atLevel 18 = .ok (.bipush 17, 2) := by decide +kernel
theorem dX10_atLevel_20 : decode cX10_atLevel 20 = .ok (.iadd, 1) := by decide +kernel
theorem dX10_atLevel_21 : decode cX10_atLevel 21 = .ok (.bipush 35, 2) := by decide +kernel
theorem dX10_atLevel_23 : decode cX10_atLevel 23 = .ok (.iload_n 1, 1) := by decide +kernel
theorem dX10_atLevel_24 : decode cX10_atLevel 24 = .ok (.imul, 1) := by decide +kernel
theorem dX10_atLevel_25 : decode cX10_atLevel 25 = .ok (.iadd, 1) := by decide +kernel
theorem dX10_atLevel_26 : decode cX10_atLevel 26 = .ok (.putfield 160, 3) := by decide +kernel
theorem dX10_atLevel_29 : decode cX10_atLevel 29 = .ok (.return_, 1) := by decide +kernel
theorem dX10_openMany_0 : decode cX10_openMany 0 = .ok (.iconst 0, 1) := by decide +kernel
theorem dX10_openMany_1 : decode cX10_openMany 1 = .ok (.istore_n 1, 1) := by decide +kernel
theorem dX10_openMany_2 : decode cX10_openMany 2 = .ok (.iconst 0, 1) := by decide +kernel
theorem dX10_openMany_3 : decode cX10_openMany 3 = .ok (.istore_n 2, 1) := by decide +kernel
theorem dX10_openMany_4 : decode cX10_openMany 4 = .ok (.iload_n 2, 1) := by decide +kernel
theorem dX10_openMany_5 : decode cX10_openMany 5 = .ok (.aload_n 0, 1) := by decide +kernel
theorem dX10_openMany_6 : decode cX10_openMany 6 = .ok (.getfield 35, 3) := by decide +kernel
theorem dX10_openMany_9 : decode cX10_openMany 9 = .ok (.aload_n 0, 1) := by decide +kernel
theorem dX10_openMany_10 : decode cX10_openMany 10 = .ok (.getfield 156, 3) := by decide +kernel
theorem dX10_openMany_13 : decode cX10_openMany 13 = .ok (.bipush 14, 2) := by decide +kernel
theorem dX10_openMany_15 : decode cX10_openMany 15 = .ok (.iadd, 1) := by decide +kernel
theorem dX10_openMany_16 : decode cX10_openMany 16 = .ok (.iaload, 1) := by decide +kernel
theorem dX10_openMany_17 : decode cX10_openMany 17 = .ok (.if_icmp .ge 33, 3) := by decide +kernel
theorem dX10_openMany_20 : decode cX10_openMany 20 = .ok (.iload_n 1, 1) := by decide +kernel
theorem dX10_openMany_21 : decode cX10_openMany 21 = .ok (.aload_n 0, 1) := by decide +kernel
theorem dX10_openMany_22 : decode cX10_openMany 22 = .ok (.getfield 35, 3) := by decide +kernel
theorem dX10_openMany_25 : decode cX10_openMany 25 = .ok (.aload_n 0, 1) := by decide +kernel
theorem dX10_openMany_26 : decode cX10_openMany 26 = .ok (.iload_n 2, 1) := by decide +kernel
theorem dX10_openMany_27 : decode cX10_openMany 27 = .ok (.invokevirtual 163, 3) := by decide +kernel
theorem dX10_openMany_30 : decode cX10_openMany 30 = .ok (.bipush 45, 2) := by decide +kernel
theorem dX10_openMany_32 : decode cX10_openMany 32 = .ok (.iadd, 1) := by decide +kernel
theorem dX10_openMany_33 : decode cX10_openMany 33 = .ok (.iaload, 1) := by decide +kernel
theorem dX10_openMany_34 : decode cX10_openMany 34 = .ok (.ifCond .ne 7, 3) := by decide +kernel
theorem dX10_openMany_37 : decode cX10_openMany 37 = .ok (.iconst 1, 1) := by decide +kernel
theorem dX10_openMany_38 : decode cX10_openMany 38 = .ok (.goto 4, 3) := by decide +kernel
theorem dX10_openMany_41 : decode cX10_openMany 41 = .ok (.iconst 0, 1) := by decide +kernel
theorem dX10_openMany_42 : decode cX10_openMany 42 = .ok (.iadd, 1) := by decide +kernel
theorem dX10_openMany_43 : decode cX10_openMany 43 = .ok (.istore_n 1, 1) := by decide +kernel
theorem dX10_openMany_44 : decode cX10_openMany 44 = .ok (.iinc 2 1, 3) := by decide +kernel
theorem dX10_openMany_47 : decode cX10_openMany 47 = .ok (.goto (-43), 3) := by decide +kernel
theorem dX10_openMany_50 : decode cX10_openMany 50 = .ok (.iload_n 1, 1) := by decide +kernel
theorem dX10_openMany_51 : decode cX10_openMany 51 = .ok (.ireturn, 1) := by decide +kernel
theorem dX10_comesBy_0 : decode cX10_comesBy 0 = .ok (.iconst 0, 1) := by decide +kernel
theorem dX10_comesBy_1 : decode cX10_comesBy 1 = .ok (.istore_n 3, 1) := by decide +kernel
theorem dX10_comesBy_2 : decode cX10_comesBy 2 = .ok (.iload_n 3, 1) := by decide +kernel
theorem dX10_comesBy_3 : decode cX10_comesBy 3 = .ok (.aload_n 0, 1) := by decide +kernel
theorem dX10_comesBy_4 : decode cX10_comesBy 4 = .ok (.getfield 35, 3) := by decide +kernel
theorem dX10_comesBy_7 : decode cX10_comesBy 7 = .ok (.aload_n 0, 1) := by decide +kernel
theorem dX10_comesBy_8 : decode cX10_comesBy 8 = .ok (.getfield 156, 3) := by decide +kernel
theorem dX10_comesBy_11 : decode cX10_comesBy 11 = .ok (.bipush 14, 2) := by decide +kernel
theorem dX10_comesBy_13 : decode cX10_comesBy 13 = .ok (.iadd, 1) := by decide +kernel
theorem dX10_comesBy_14 : decode cX10_comesBy 14 = .ok (.iaload, 1) := by decide +kernel
theorem dX10_comesBy_15 : decode cX10_comesBy 15 = .ok (.if_icmp .ge 54, 3) := by decide +kernel
theorem dX10_comesBy_18 : decode cX10_comesBy 18 = .ok (.aload_n 0, 1) := by decide +kernel
theorem dX10_comesBy_19 : decode cX10_comesBy 19 = .ok (.iload_n 3, 1) := by decide +kernel
theorem dX10_comesBy_20 : decode cX10_comesBy 20 = .ok (.invokevirtual 163, 3) := by decide +kernel
theorem dX10_comesBy_23 : decode cX10_comesBy 23 = .ok (.istore 4, 2) := by decide +kernel
theorem dX10_comesBy_25 : decode cX10_comesBy 25 = .ok (.aload_n 0, 1) := by decide +kernel
theorem dX10_comesBy_26 : decode cX10_comesBy 26 = .ok (.getfield 35, 3) := by decide +kernel
theorem dX10_comesBy_29 : decode cX10_comesBy 29 = .ok (.iload 4, 2) := by decide +kernel
theorem dX10_comesBy_31 : decode cX10_comesBy 31 = .ok (.bipush 34, 2) := by decide +kernel
theorem dX10_comesBy_33 : decode cX10_comesBy 33 = .ok (.iadd, 1) := by decide +kernel
theorem dX10_comesBy_34 : decode cX10_comesBy 34 = .ok (.aload_n 0, 1) := by decide +kernel
theorem dX10_comesBy_35 : decode cX10_comesBy 35 = .ok (.getfield 35, 3) := by decide +kernel
theorem dX10_comesBy_38 : decode cX10_comesBy 38 = .ok (.iload 4, 2) := by decide +kernel
theorem dX10_comesBy_40 : decode cX10_comesBy 40 = .ok (.bipush 34, 2) := by decide +kernel
theorem dX10_comesBy_42 : decode cX10_comesBy 42 = .ok (.iadd, 1) := by decide +kernel
theorem dX10_comesBy_43 : decode cX10_comesBy 43 = .ok (.iaload, 1) := by decide +kernel
theorem dX10_comesBy_44 : decode cX10_comesBy 44 = .ok (.iload_n 1, 1) := by decide +kernel
theorem dX10_comesBy_45 : decode cX10_comesBy 45 = .ok (.if_icmp .ne 7, 3) := by decide +kernel
theorem dX10_comesBy_48 : decode cX10_comesBy 48 = .ok (.iload_n 2, 1) := by decide +kernel
theorem dX10_comesBy_49 : decode cX10_comesBy 49 = .ok (.goto 13, 3) := by decide +kernel
theorem dX10_comesBy_52 : decode cX10_comesBy 52 = .ok (.aload_n 0, 1) := by decide +kernel
theorem dX10_comesBy_53 : decode cX10_comesBy 53 = .ok (.getfield 35, 3) := by decide +kernel
theorem dX10_comesBy_56 : decode cX10_comesBy 56 = .ok (.iload 4, 2) := by decide +kernel
theorem dX10_comesBy_58 : decode cX10_comesBy 58 = .ok (.bipush 34, 2) := by decide +kernel
theorem dX10_comesBy_60 : decode cX10_comesBy 60 = .ok (.iadd, 1) := by decide +kernel
theorem dX10_comesBy_61 : decode cX10_comesBy 61 = .ok (.iaload, 1) := by decide +kernel
theorem dX10_comesBy_62 : decode cX10_comesBy 62 = .ok (.iastore, 1) := by decide +kernel
theorem dX10_comesBy_63 : decode cX10_comesBy 63 = .ok (.iinc 3 1, 3) := by decide +kernel
theorem dX10_comesBy_66 : decode cX10_comesBy 66 = .ok (.goto (-64), 3) := by decide +kernel
theorem dX10_comesBy_69 : decode cX10_comesBy 69 = .ok (.iconst 0, 1) := by decide +kernel
theorem dX10_comesBy_70 : decode cX10_comesBy 70 = .ok (.istore_n 3, 1) := by decide +kernel
theorem dX10_comesBy_71 : decode cX10_comesBy 71 = .ok (.iload_n 3, 1) := by decide +kernel
theorem dX10_comesBy_72 : decode cX10_comesBy 72 = .ok (.aload_n 0, 1) := by decide +kernel
theorem dX10_comesBy_73 : decode cX10_comesBy 73 = .ok (.invokevirtual 166, 3) := by decide +kernel
theorem dX10_comesBy_76 : decode cX10_comesBy 76 = .ok (.if_icmp .gt 61, 3) := by decide +kernel
theorem dX10_comesBy_79 : decode cX10_comesBy 79 = .ok (.aload_n 0, 1) := by decide +kernel
theorem dX10_comesBy_80 : decode cX10_comesBy 80 = .ok (.getfield 156, 3) := by decide +kernel
theorem dX10_comesBy_83 : decode cX10_comesBy 83 = .ok (.bipush 17, 2) := by decide +kernel
theorem dX10_comesBy_85 : decode cX10_comesBy 85 = .ok (.iadd, 1) := by decide +kernel
theorem dX10_comesBy_86 : decode cX10_comesBy 86 = .ok (.bipush 35, 2) := by decide +kernel
theorem dX10_comesBy_88 : decode cX10_comesBy 88 = .ok (.iload_n 3, 1) := by decide +kernel
theorem dX10_comesBy_89 : decode cX10_comesBy 89 = .ok (.imul, 1) := by decide +kernel
theorem dX10_comesBy_90 : decode cX10_comesBy 90 = .ok (.iadd, 1) := by decide +kernel
theorem dX10_comesBy_91 : decode cX10_comesBy 91 = .ok (.istore 4, 2) := by decide +kernel
theorem dX10_comesBy_93 : decode cX10_comesBy 93 = .ok (.aload_n 0, 1) := by decide +kernel
theorem dX10_comesBy_94 : decode cX10_comesBy 94 = .ok (.getfield 35, 3) := by decide +kernel
theorem dX10_comesBy_97 : decode cX10_comesBy 97 = .ok (.iload 4, 2) := by decide +kernel
theorem dX10_comesBy_99 : decode cX10_comesBy 99 = .ok (.bipush 34, 2) := by decide +kernel
theorem dX10_comesBy_101 : decode cX10_comesBy 101 = .ok (.iadd, 1) := by decide +kernel
theorem dX10_comesBy_102 : decode cX10_comesBy 102 = .ok (.aload_n 0, 1) := by decide +kernel
theorem dX10_comesBy_103 : decode cX10_comesBy 103 = .ok (.getfield 35, 3) := by decide +kernel
theorem dX10_comesBy_106 : decode cX10_comesBy 106 = .ok (.iload 4, 2) := by decide +kernel
theorem dX10_comesBy_108 : decode cX10_comesBy 108 = .ok (.bipush 34, 2) := by decide +kernel
theorem dX10_comesBy_110 : decode cX10_comesBy 110 = .ok (.iadd, 1) := by decide +kernel
theorem dX10_comesBy_111 : decode cX10_comesBy 111 = .ok (.iaload, 1) := by decide +kernel
theorem dX10_comesBy_112 : decode cX10_comesBy 112 = .ok (.iload_n 1, 1) := by decide +kernel
theorem dX10_comesBy_113 : decode cX10_comesBy 113 = .ok (.if_icmp .ne 7, 3) := by decide +kernel
theorem dX10_comesBy_116 : decode cX10_comesBy 116 = .ok (.iload_n 2, 1) := by decide +kernel
theorem dX10_comesBy_117 : decode cX10_comesBy 117 = .ok (.goto 13, 3) := by decide +kernel
theorem dX10_comesBy_120 : decode cX10_comesBy 120 = .ok (.aload_n 0, 1) := by decide +kernel
theorem dX10_comesBy_121 : decode cX10_comesBy 121 = .ok (.getfield 35, 3) := by decide +kernel
theorem dX10_comesBy_124 : decode cX10_comesBy 124 = .ok (.iload 4, 2) := by decide +kernel
theorem dX10_comesBy_126 : decode cX10_comesBy 126 = .ok (.bipush 34, 2) := by decide +kernel
theorem dX10_comesBy_128 : decode cX10_comesBy 128 = .ok (.iadd, 1) := by decide +kernel
theorem dX10_comesBy_129 : decode cX10_comesBy 129 = .ok (.iaload, 1) := by decide +kernel
theorem dX10_comesBy_130 : decode cX10_comesBy 130 = .ok (.iastore, 1) := by decide +kernel
theorem dX10_comesBy_131 : decode cX10_comesBy 131 = .ok (.iinc 3 1, 3) := by decide +kernel
theorem dX10_comesBy_134 : decode cX10_comesBy 134 = .ok (.goto (-63), 3) := by decide +kernel
theorem dX10_comesBy_137 : decode cX10_comesBy 137 = .ok (.return_, 1) := by decide +kernel
theorem dX10_takesOff_0 : decode cX10_takesOff 0 = .ok (.aload_n 0, 1) := by decide +kernel
theorem dX10_takesOff_1 : decode cX10_takesOff 1 = .ok (.iload_n 1, 1) := by decide +kernel
theorem dX10_takesOff_2 : decode cX10_takesOff 2 = .ok (.invokevirtual 163, 3) := by decide +kernel
theorem dX10_takesOff_5 : decode cX10_takesOff 5 = .ok (.istore_n 2, 1) := by decide +kernel
theorem dX10_takesOff_6 : decode cX10_takesOff 6 = .ok (.aload_n 0, 1) := by decide +kernel
theorem dX10_takesOff_7 : decode cX10_takesOff 7 = .ok (.aload_n 0, 1) := by decide +kernel
theorem dX10_takesOff_8 : decode cX10_takesOff 8 = .ok (.getfield 35, 3) := by decide +kernel
theorem dX10_takesOff_11 : decode cX10_takesOff 11 = .ok (.iload_n 2, 1) := by decide +kernel
theorem dX10_takesOff_12 : decode cX10_takesOff 12 = .ok (.bipush 44, 2) := by decide +kernel
theorem dX10_takesOff_14 : decode cX10_takesOff 14 = .ok (.iadd, 1) := by decide +kernel
theorem dX10_takesOff_15 : decode cX10_takesOff 15 = .ok (.iaload, 1) := by decide +kernel
theorem dX10_takesOff_16 : decode cX10_takesOff 16 = .ok (.aload_n 0, 1) := by decide +kernel
theorem dX10_takesOff_17 : decode cX10_takesOff 17 = .ok (.getfield 35, 3) := by decide +kernel
theorem dX10_takesOff_20 : decode cX10_takesOff 20 = .ok (.iload_n 2, 1) := by decide +kernel
theorem dX10_takesOff_21 : decode cX10_takesOff 21 = .ok (.bipush 34, 2) := by decide +kernel
theorem dX10_takesOff_23 : decode cX10_takesOff 23 = .ok (.iadd, 1) := by decide +kernel
theorem dX10_takesOff_24 : decode cX10_takesOff 24 = .ok (.iaload, 1) := by decide +kernel
theorem dX10_takesOff_25 : decode cX10_takesOff 25 = .ok (.invokevirtual 169, 3) := by decide +kernel
theorem dX10_takesOff_28 : decode cX10_takesOff 28 = .ok (.aload_n 0, 1) := by decide +kernel
theorem dX10_takesOff_29 : decode cX10_takesOff 29 = .ok (.getfield 35, 3) := by decide +kernel
theorem dX10_takesOff_32 : decode cX10_takesOff 32 = .ok (.aload_n 0, 1) := by decide +kernel
theorem dX10_takesOff_33 : decode cX10_takesOff 33 = .ok (.getfield 156, 3) := by decide +kernel
theorem dX10_takesOff_36 : decode cX10_takesOff 36 = .ok (.bipush 14, 2) := by decide +kernel
theorem dX10_takesOff_38 : decode cX10_takesOff 38 = .ok (.iadd, 1) := by decide +kernel
theorem dX10_takesOff_39 : decode cX10_takesOff 39 = .ok (.iaload, 1) := by decide +kernel
theorem dX10_takesOff_40 : decode cX10_takesOff 40 = .ok (.iconst 1, 1) := by decide +kernel
theorem dX10_takesOff_41 : decode cX10_takesOff 41 = .ok (.isub, 1) := by decide +kernel
theorem dX10_takesOff_42 : decode cX10_takesOff 42 = .ok (.iload_n 1, 1) := by decide +kernel
theorem dX10_takesOff_43 : decode cX10_takesOff 43 = .ok (.isub, 1) := by decide +kernel
theorem dX10_takesOff_44 : decode cX10_takesOff 44 = .ok (.istore_n 3, 1) := by decide +kernel
theorem dX10_takesOff_45 : decode cX10_takesOff 45 = .ok (.aload_n 0, 1) := by decide +kernel
theorem dX10_takesOff_46 : decode cX10_takesOff 46 = .ok (.getfield 35, 3) := by decide +kernel
theorem dX10_takesOff_49 : decode cX10_takesOff 49 = .ok (.iload_n 2, 1) := by decide +kernel
theorem dX10_takesOff_50 : decode cX10_takesOff 50 = .ok (.bipush 47, 2) := by decide +kernel
theorem dX10_takesOff_52 : decode cX10_takesOff 52 = .ok (.iadd, 1) := by decide +kernel
theorem dX10_takesOff_53 : decode cX10_takesOff 53 = .ok (.aload_n 0, 1) := by decide +kernel
theorem dX10_takesOff_54 : decode cX10_takesOff 54 = .ok (.getfield 35, 3) := by decide +kernel
theorem dX10_takesOff_57 : decode cX10_takesOff 57 = .ok (.iload_n 2, 1) := by decide +kernel
theorem dX10_takesOff_58 : decode cX10_takesOff 58 = .ok (.iload_n 3, 1) := by decide +kernel
theorem dX10_takesOff_59 : decode cX10_takesOff 59 = .ok (.bipush 47, 2) := by decide +kernel
theorem dX10_takesOff_61 : decode cX10_takesOff 61 = .ok (.imul, 1) := by decide +kernel
theorem dX10_takesOff_62 : decode cX10_takesOff 62 = .ok (.invokestatic 173, 3) := by decide +kernel
theorem dX10_takesOff_65 : decode cX10_takesOff 65 = .ok (.aload_n 0, 1) := by decide +kernel
theorem dX10_takesOff_66 : decode cX10_takesOff 66 = .ok (.getfield 35, 3) := by decide +kernel
theorem dX10_takesOff_69 : decode cX10_takesOff 69 = .ok (.aload_n 0, 1) := by decide +kernel
theorem dX10_takesOff_70 : decode cX10_takesOff 70 = .ok (.getfield 156, 3) := by decide +kernel
theorem dX10_takesOff_73 : decode cX10_takesOff 73 = .ok (.bipush 14, 2) := by decide +kernel
theorem dX10_takesOff_75 : decode cX10_takesOff 75 = .ok (.iadd, 1) := by decide +kernel
theorem dX10_takesOff_76 : decode cX10_takesOff 76 = .ok (.dup2, 1) := by decide +kernel
theorem dX10_takesOff_77 : decode cX10_takesOff 77 = .ok (.iaload, 1) := by decide +kernel
theorem dX10_takesOff_78 : decode cX10_takesOff 78 = .ok (.iconst 1, 1) := by decide +kernel
theorem dX10_takesOff_79 : decode cX10_takesOff 79 = .ok (.isub, 1) := by decide +kernel
theorem dX10_takesOff_80 : decode cX10_takesOff 80 = .ok (.iastore, 1) := by decide +kernel
theorem dX10_takesOff_81 : decode cX10_takesOff 81 = .ok (.return_, 1) := by decide +kernel
theorem dX10_pointOf_0 : decode cX10_pointOf 0 = .ok (.iconst 0, 1) := by decide +kernel
theorem dX10_pointOf_1 : decode cX10_pointOf 1 = .ok (.istore_n 2, 1) := by decide +kernel
theorem dX10_pointOf_2 : decode cX10_pointOf 2 = .ok (.iload_n 2, 1) := by decide +kernel
theorem dX10_pointOf_3 : decode cX10_pointOf 3 = .ok (.aload_n 0, 1) := by decide +kernel
theorem dX10_pointOf_4 : decode cX10_pointOf 4 = .ok (.getfield 35, 3) := by decide +kernel
theorem dX10_pointOf_7 : decode cX10_pointOf 7 = .ok (.aload_n 0, 1) := by decide +kernel
theorem dX10_pointOf_8 : decode cX10_pointOf 8 = .ok (.getfield 156, 3) := by decide +kernel
theorem dX10_pointOf_11 : decode cX10_pointOf 11 = .ok (.bipush 14, 2) := by decide +kernel
theorem dX10_pointOf_13 : decode cX10_pointOf 13 = .ok (.iadd, 1) := by decide +kernel
theorem dX10_pointOf_14 : decode cX10_pointOf 14 = .ok (.iaload, 1) := by decide +kernel
theorem dX10_pointOf_15 : decode cX10_pointOf 15 = .ok (.if_icmp .ge 28, 3) := by decide +kernel
theorem dX10_pointOf_18 : decode cX10_pointOf 18 = .ok (.aload_n 0, 1) := by decide +kernel
theorem dX10_pointOf_19 : decode cX10_pointOf 19 = .ok (.getfield 35, 3) := by decide +kernel
theorem dX10_pointOf_22 : decode cX10_pointOf 22 = .ok (.aload_n 0, 1) := by decide +kernel
theorem dX10_pointOf_23 : decode cX10_pointOf 23 = .ok (.iload_n 2, 1) := by decide +kernel
theorem dX10_pointOf_24 : decode cX10_pointOf 24 = .ok (.invokevirtual 163, 3) := by decide +kernel
theorem dX10_pointOf_27 : decode cX10_pointOf 27 = .ok (.bipush 44, 2) := by decide +kernel
theorem dX10_pointOf_29 : decode cX10_pointOf 29 = .ok (.iadd, 1) := by decide +kernel
theorem dX10_pointOf_30 : decode cX10_pointOf 30 = .ok (.iaload, 1) := by decide +kernel
theorem dX10_pointOf_31 : decode cX10_pointOf 31 = .ok (.iload_n 1, 1) := by decide +kernel
theorem dX10_pointOf_32 : decode cX10_pointOf 32 = .ok (.if_icmp .ne 5, 3) := by decide +kernel
theorem dX10_pointOf_35 : decode cX10_pointOf 35 = .ok (.iload_n 2, 1) := by decide +kernel
theorem dX10_pointOf_36 : decode cX10_pointOf 36 = .ok (.ireturn, 1) := by decide +kernel
theorem dX10_pointOf_37 : decode cX10_pointOf 37 = .ok (.iinc 2 1, 3) := by decide +kernel
theorem dX10_pointOf_40 : decode cX10_pointOf 40 = .ok (.goto (-38), 3) := by decide +kernel
theorem dX10_pointOf_43 : decode cX10_pointOf 43 = .ok (.iconst (-1), 1) := by decide +kernel
theorem dX10_pointOf_44 : decode cX10_pointOf 44 = .ok (.ireturn, 1) := by decide +kernel
theorem dX10_cuts_0 : decode cX10_cuts 0 = .ok (.aload_n 0, 1) := by decide +kernel
theorem dX10_cuts_1 : decode cX10_cuts 1 = .ok (.aload_n 0, 1) := by decide +kernel
theorem dX10_cuts_2 : decode cX10_cuts 2 = .ok (.getfield 35, 3) := by decide +kernel
theorem dX10_cuts_5 : decode cX10_cuts 5 = .ok (.aload_n 0, 1) := by decide +kernel
theorem dX10_cuts_6 : decode cX10_cuts 6 = .ok (.getfield 160, 3) := by decide +kernel
theorem dX10_cuts_9 : decode cX10_cuts 9 = .ok (.bipush 34, 2) := by decide +kernel
theorem dX10_cuts_11 : decode cX10_cuts 11 = .ok (.iadd, 1) := by decide +kernel
theorem dX10_cuts_12 : decode cX10_cuts 12 = .ok (.iaload, 1) := by decide +kernel
theorem dX10_cuts_13 : decode cX10_cuts 13 = .ok (.invokevirtual 179, 3) := by decide +kernel
theorem dX10_cuts_16 : decode cX10_cuts 16 = .ok (.istore_n 2, 1) := by decide +kernel
theorem dX10_cuts_17 : decode cX10_cuts 17 = .ok (.iload_n 2, 1) := by decide +kernel
theorem dX10_cuts_18 : decode cX10_cuts 18 = .ok (.iconst (-1), 1) := by decide +kernel
theorem dX10_cuts_19 : decode cX10_cuts 19 = .ok (.if_icmp .eq 72, 3) := by decide +kernel
theorem dX10_cuts_22 : decode cX10_cuts 22 = .ok (.aload_n 0, 1) := by decide +kernel
theorem dX10_cuts_23 : decode cX10_cuts 23 = .ok (.getfield 35, 3) := by decide +kernel
theorem dX10_cuts_26 : decode cX10_cuts 26 = .ok (.aload_n 0, 1) := by decide +kernel
theorem dX10_cuts_27 : decode cX10_cuts 27 = .ok (.iload_n 2, 1) := by decide +kernel
theorem dX10_cuts_28 : decode cX10_cuts 28 = .ok (.invokevirtual 163, 3) := by decide +kernel
theorem dX10_cuts_31 : decode cX10_cuts 31 = .ok (.bipush 32, 2) := by decide +kernel
theorem dX10_cuts_33 : decode cX10_cuts 33 = .ok (.iadd, 1) := by decide +kernel
theorem dX10_cuts_34 : decode cX10_cuts 34 = .ok (.iaload, 1) := by decide +kernel
theorem dX10_cuts_35 : decode cX10_cuts 35 = .ok (.iload_n 1, 1) := by decide +kernel
theorem dX10_cuts_36 : decode cX10_cuts 36 = .ok (.if_icmp .lt 55, 3) := by decide +kernel
theorem dX10_cuts_39 : decode cX10_cuts 39 = .ok (.aload_n 0, 1) := by decide +kernel
theorem dX10_cuts_40 : decode cX10_cuts 40 = .ok (.getfield 35, 3) := by decide +kernel
theorem dX10_cuts_43 : decode cX10_cuts 43 = .ok (.aload_n 0, 1) := by decide +kernel
theorem dX10_cuts_44 : decode cX10_cuts 44 = .ok (.getfield 156, 3) := by decide +kernel
theorem dX10_cuts_47 : decode cX10_cuts 47 = .ok (.bipush 7, 2) := by decide +kernel
theorem dX10_cuts_49 : decode cX10_cuts 49 = .ok (.iadd, 1) := by decide +kernel
theorem dX10_cuts_50 : decode cX10_cuts 50 = .ok (.dup2, 1) := by decide +kernel
theorem dX10_cuts_51 : decode cX10_cuts 51 = .ok (.iaload, 1) := by decide +kernel
theorem dX10_cuts_52 : decode cX10_cuts 52 = .ok (.aload_n 0, 1) := by decide +kernel
theorem dX10_cuts_53 : decode cX10_cuts 53 = .ok (.invokevirtual 166, 3) := by decide +kernel
theorem dX10_cuts_56 : decode cX10_cuts 56 = .ok (.ifCond .ne 7, 3) := by decide +kernel
theorem dX10_cuts_59 : decode cX10_cuts 59 = .ok (.iconst 1, 1) := by decide +kernel
theorem dX10_cuts_60 : decode cX10_cuts 60 = .ok (.goto 4, 3) := by decide +kernel
theorem dX10_cuts_63 : decode cX10_cuts 63 = .ok (.iconst 0, 1) := by decide +kernel
theorem dX10_cuts_64 : decode cX10_cuts 64 = .ok (.iadd, 1) := by decide +kernel
theorem dX10_cuts_65 : decode cX10_cuts 65 = .ok (.iastore, 1) := by decide +kernel
theorem dX10_cuts_66 : decode cX10_cuts 66 = .ok (.aload_n 0, 1) := by decide +kernel
theorem dX10_cuts_67 : decode cX10_cuts 67 = .ok (.iload_n 2, 1) := by decide +kernel
theorem dX10_cuts_68 : decode cX10_cuts 68 = .ok (.invokevirtual 182, 3) := by decide +kernel
theorem dX10_cuts_71 : decode cX10_cuts 71 = .ok (.aload_n 0, 1) := by decide +kernel
theorem dX10_cuts_72 : decode cX10_cuts 72 = .ok (.aload_n 0, 1) := by decide +kernel
theorem dX10_cuts_73 : decode cX10_cuts 73 = .ok (.getfield 35, 3) := by decide +kernel
theorem dX10_cuts_76 : decode cX10_cuts 76 = .ok (.aload_n 0, 1) := by decide +kernel
theorem dX10_cuts_77 : decode cX10_cuts 77 = .ok (.getfield 160, 3) := by decide +kernel
theorem dX10_cuts_80 : decode cX10_cuts 80 = .ok (.bipush 34, 2) := by decide +kernel
theorem dX10_cuts_82 : decode cX10_cuts 82 = .ok (.iadd, 1) := by decide +kernel
theorem dX10_cuts_83 : decode cX10_cuts 83 = .ok (.iaload, 1) := by decide +kernel
theorem dX10_cuts_84 : decode cX10_cuts 84 = .ok (.invokevirtual 179, 3) := by decide +kernel
theorem dX10_cuts_87 : decode cX10_cuts 87 = .ok (.istore_n 2, 1) := by decide +kernel
theorem dX10_cuts_88 : decode cX10_cuts 88 = .ok (.goto (-71), 3) := by decide +kernel
theorem dX10_cuts_91 : decode cX10_cuts 91 = .ok (.return_, 1) := by decide +kernel
theorem dX10_begins_0 : decode cX10_begins 0 = .ok (.aload_n 0, 1) := by decide +kernel
theorem dX10_begins_1 : decode cX10_begins 1 = .ok (.getfield 35, 3) := by decide +kernel
theorem dX10_begins_4 : decode cX10_begins 4 = .ok (.aload_n 0, 1) := by decide +kernel
theorem dX10_begins_5 : decode cX10_begins 5 = .ok (.getfield 160, 3) := by decide +kernel
theorem dX10_begins_8 : decode cX10_begins 8 = .ok (.bipush 8, 2) := by decide +kernel
theorem dX10_begins_10 : decode cX10_begins 10 = .ok (.iadd, 1) := by decide +kernel
theorem dX10_begins_11 : decode cX10_begins 11 = .ok (.iload_n 1, 1) := by decide +kernel
theorem dX10_begins_12 : decode cX10_begins 12 = .ok (.iastore, 1) := by decide +kernel
theorem dX10_begins_13 : decode cX10_begins 13 = .ok (.aload_n 0, 1) := by decide +kernel
theorem dX10_begins_14 : decode cX10_begins 14 = .ok (.getfield 35, 3) := by decide +kernel
theorem dX10_begins_17 : decode cX10_begins 17 = .ok (.aload_n 0, 1) := by decide +kernel
theorem dX10_begins_18 : decode cX10_begins 18 = .ok (.getfield 160, 3) := by decide +kernel
theorem dX10_begins_21 : decode cX10_begins 21 = .ok (.bipush 9, 2) := by decide +kernel
theorem dX10_begins_23 : decode cX10_begins 23 = .ok (.iadd, 1) := by decide +kernel
theorem dX10_begins_24 : decode cX10_begins 24 = .ok (.iconst 0, 1) := by decide +kernel
theorem dX10_begins_25 : decode cX10_begins 25 = .ok (.iastore, 1) := by decide +kernel
theorem dX10_begins_26 : decode cX10_begins 26 = .ok (.aload_n 0, 1) := by decide +kernel
theorem dX10_begins_27 : decode cX10_begins 27 = .ok (.getfield 35, 3) := by decide +kernel
theorem dX10_begins_30 : decode cX10_begins 30 = .ok (.aload_n 0, 1) := by decide +kernel
theorem dX10_begins_31 : decode cX10_begins 31 = .ok (.getfield 160, 3) := by decide +kernel
theorem dX10_begins_34 : decode cX10_begins 34 = .ok (.bipush 31, 2) := by decide +kernel
theorem dX10_begins_36 : decode cX10_begins 36 = .ok (.iadd, 1) := by decide +kernel
theorem dX10_begins_37 : decode cX10_begins 37 = .ok (.iconst 0, 1) := by decide +kernel
theorem dX10_begins_38 : decode cX10_begins 38 = .ok (.iastore, 1) := by decide +kernel
theorem dX10_begins_39 : decode cX10_begins 39 = .ok (.aload_n 0, 1) := by decide +kernel
theorem dX10_begins_40 : decode cX10_begins 40 = .ok (.getfield 35, 3) := by decide +kernel
theorem dX10_begins_43 : decode cX10_begins 43 = .ok (.aload_n 0, 1) := by decide +kernel
theorem dX10_begins_44 : decode cX10_begins 44 = .ok (.getfield 160, 3) := by decide +kernel
theorem dX10_begins_47 : decode cX10_begins 47 = .ok (.bipush 32, 2) := by decide +kernel
theorem dX10_begins_49 : decode cX10_begins 49 = .ok (.iadd, 1) := by decide +kernel
theorem dX10_begins_50 : decode cX10_begins 50 = .ok (.iconst 0, 1) := by decide +kernel
theorem dX10_begins_51 : decode cX10_begins 51 = .ok (.iastore, 1) := by decide +kernel
theorem dX10_begins_52 : decode cX10_begins 52 = .ok (.aload_n 0, 1) := by decide +kernel
theorem dX10_begins_53 : decode cX10_begins 53 = .ok (.getfield 35, 3) := by decide +kernel
theorem dX10_begins_56 : decode cX10_begins 56 = .ok (.aload_n 0, 1) := by decide +kernel
theorem dX10_begins_57 : decode cX10_begins 57 = .ok (.getfield 160, 3) := by decide +kernel
theorem dX10_begins_60 : decode cX10_begins 60 = .ok (.bipush 33, 2) := by decide +kernel
theorem dX10_begins_62 : decode cX10_begins 62 = .ok (.iadd, 1) := by decide +kernel
theorem dX10_begins_63 : decode cX10_begins 63 = .ok (.iconst 0, 1) := by decide +kernel
theorem dX10_begins_64 : decode cX10_begins 64 = .ok (.iastore, 1) := by decide +kernel
theorem dX10_begins_65 : decode cX10_begins 65 = .ok (.aload_n 0, 1) := by decide +kernel
theorem dX10_begins_66 : decode cX10_begins 66 = .ok (.getfield 35, 3) := by decide +kernel
theorem dX10_begins_69 : decode cX10_begins 69 = .ok (.aload_n 0, 1) := by decide +kernel
theorem dX10_begins_70 : decode cX10_begins 70 = .ok (.getfield 160, 3) := by decide +kernel
theorem dX10_begins_73 : decode cX10_begins 73 = .ok (.bipush 34, 2) := by decide +kernel
theorem dX10_begins_75 : decode cX10_begins 75 = .ok (.iadd, 1) := by decide +kernel
theorem dX10_begins_76 : decode cX10_begins 76 = .ok (.iconst (-1), 1) := by decide +kernel
theorem dX10_begins_77 : decode cX10_begins 77 = .ok (.iastore, 1) := by decide +kernel
theorem dX10_begins_78 : decode cX10_begins 78 = .ok (.return_, 1) := by decide +kernel
theorem dX10_enters_0 : decode cX10_enters 0 = .ok (.aload_n 0, 1) := by decide +kernel
theorem dX10_enters_1 : decode cX10_enters 1 = .ok (.getfield 160, 3) := by decide +kernel
theorem dX10_enters_4 : decode cX10_enters 4 = .ok (.bipush 10, 2) := by decide +kernel
theorem dX10_enters_6 : decode cX10_enters 6 = .ok (.iadd, 1) := by decide +kernel
theorem dX10_enters_7 : decode cX10_enters 7 = .ok (.iconst 3, 1) := by decide +kernel
theorem dX10_enters_8 : decode cX10_enters 8 = .ok (.aload_n 0, 1) := by decide +kernel
theorem dX10_enters_9 : decode cX10_enters 9 = .ok (.getfield 35, 3) := by decide +kernel
theorem dX10_enters_12 : decode cX10_enters 12 = .ok (.aload_n 0, 1) := by decide +kernel
theorem dX10_enters_13 : decode cX10_enters 13 = .ok (.getfield 160, 3) := by decide +kernel
theorem dX10_enters_16 : decode cX10_enters 16 = .ok (.bipush 9, 2) := by decide +kernel
theorem dX10_enters_18 : decode cX10_enters 18 = .ok (.iadd, 1) := by decide +kernel
theorem dX10_enters_19 : decode cX10_enters 19 = .ok (.iaload, 1) := by decide +kernel
theorem dX10_enters_20 : decode cX10_enters 20 = .ok (.imul, 1) := by decide +kernel
theorem dX10_enters_21 : decode cX10_enters 21 = .ok (.iadd, 1) := by decide +kernel
theorem dX10_enters_22 : decode cX10_enters 22 = .ok (.istore 4, 2) := by decide +kernel
theorem dX10_enters_24 : decode cX10_enters 24 = .ok (.aload_n 0, 1) := by decide +kernel
theorem dX10_enters_25 : decode cX10_enters 25 = .ok (.getfield 35, 3) := by decide +kernel
theorem dX10_enters_28 : decode cX10_enters 28 = .ok (.iload 4, 2) := by decide +kernel
theorem dX10_enters_30 : decode cX10_enters 30 = .ok (.iload_n 1, 1) := by decide +kernel
theorem dX10_enters_31 : decode cX10_enters 31 = .ok (.iastore, 1) := by decide +kernel
theorem dX10_enters_32 : decode cX10_enters 32 = .ok (.aload_n 0, 1) := by decide +kernel
theorem dX10_enters_33 : decode cX10_enters 33 = .ok (.getfield 35, 3) := by decide +kernel
theorem dX10_enters_36 : decode cX10_enters 36 = .ok (.iload 4, 2) := by decide +kernel
theorem dX10_enters_38 : decode cX10_enters 38 = .ok (.iconst 1, 1) := by decide +kernel
theorem dX10_enters_39 : decode cX10_enters 39 = .ok (.iadd, 1) := by decide +kernel
theorem dX10_enters_40 : decode cX10_enters 40 = .ok (.aload_n 0, 1) := by decide +kernel
theorem dX10_enters_41 : decode cX10_enters 41 = .ok (.getfield 35, 3) := by decide +kernel
theorem dX10_enters_44 : decode cX10_enters 44 = .ok (.aload_n 0, 1) := by decide +kernel
theorem dX10_enters_45 : decode cX10_enters 45 = .ok (.getfield 160, 3) := by decide +kernel
theorem dX10_enters_48 : decode cX10_enters 48 = .ok (.bipush 31, 2) := by decide +kernel
theorem dX10_enters_50 : decode cX10_enters 50 = .ok (.iadd, 1) := by decide +kernel
theorem dX10_enters_51 : decode cX10_enters 51 = .ok (.iaload, 1) := by decide +kernel
theorem dX10_enters_52 : decode cX10_enters 52 = .ok (.iastore, 1) := by decide +kernel
theorem dX10_enters_53 : decode cX10_enters 53 = .ok (.aload_n 0, 1) := by decide +kernel
theorem dX10_enters_54 : decode cX10_enters 54 = .ok (.getfield 35, 3) := by decide +kernel
theorem dX10_enters_57 : decode cX10_enters 57 = .ok (.iload 4, 2) := by decide +kernel
theorem dX10_enters_59 : decode cX10_enters 59 = .ok (.iconst 2, 1) := by decide +kernel
theorem dX10_enters_60 : decode cX10_enters 60 = .ok (.iadd, 1) := by decide +kernel
theorem dX10_enters_61 : decode cX10_enters 61 = .ok (.iload_n 3, 1) := by decide +kernel
theorem dX10_enters_62 : decode cX10_enters 62 = .ok (.iastore, 1) := by decide +kernel
theorem dX10_enters_63 : decode cX10_enters 63 = .ok (.aload_n 0, 1) := by decide +kernel
theorem dX10_enters_64 : decode cX10_enters 64 = .ok (.getfield 35, 3) := by decide +kernel
theorem dX10_enters_67 : decode cX10_enters 67 = .ok (.aload_n 0, 1) := by decide +kernel
theorem dX10_enters_68 : decode cX10_enters 68 = .ok (.getfield 160, 3) := by decide +kernel
theorem dX10_enters_71 : decode cX10_enters 71 = .ok (.bipush 9, 2) := by decide +kernel
theorem dX10_enters_73 : decode cX10_enters 73 = .ok (.iadd, 1) := by decide +kernel
theorem dX10_enters_74 : decode cX10_enters 74 = .ok (.dup2, 1) := by decide +kernel
theorem dX10_enters_75 : decode cX10_enters 75 = .ok (.iaload, 1) := by decide +kernel
theorem dX10_enters_76 : decode cX10_enters 76 = .ok (.iconst 1, 1) := by decide +kernel
theorem dX10_enters_77 : decode cX10_enters 77 = .ok (.iadd, 1) := by decide +kernel
theorem dX10_enters_78 : decode cX10_enters 78 = .ok (.iastore, 1) := by decide +kernel
theorem dX10_enters_79 : decode cX10_enters 79 = .ok (.aload_n 0, 1) := by decide +kernel
theorem dX10_enters_80 : decode cX10_enters 80 = .ok (.getfield 35, 3) := by decide +kernel
theorem dX10_enters_83 : decode cX10_enters 83 = .ok (.aload_n 0, 1) := by decide +kernel
theorem dX10_enters_84 : decode cX10_enters 84 = .ok (.getfield 160, 3) := by decide +kernel
theorem dX10_enters_87 : decode cX10_enters 87 = .ok (.bipush 31, 2) := by decide +kernel
theorem dX10_enters_89 : decode cX10_enters 89 = .ok (.iadd, 1) := by decide +kernel
theorem dX10_enters_90 : decode cX10_enters 90 = .ok (.aload_n 0, 1) := by decide +kernel
theorem dX10_enters_91 : decode cX10_enters 91 = .ok (.getfield 35, 3) := by decide +kernel
theorem dX10_enters_94 : decode cX10_enters 94 = .ok (.aload_n 0, 1) := by decide +kernel
theorem dX10_enters_95 : decode cX10_enters 95 = .ok (.getfield 160, 3) := by decide +kernel
theorem dX10_enters_98 : decode cX10_enters 98 = .ok (.bipush 32, 2) := by decide +kernel
theorem dX10_enters_100 : decode cX10_enters 100 = .ok (.iadd, 1) := by decide +kernel
theorem dX10_enters_101 : decode cX10_enters 101 = .ok (.iaload, 1) := by decide +kernel
theorem dX10_enters_102 : decode cX10_enters 102 = .ok (.iastore, 1) := by decide +kernel
theorem dX10_enters_103 : decode cX10_enters 103 = .ok (.aload_n 0, 1) := by decide +kernel
theorem dX10_enters_104 : decode cX10_enters 104 = .ok (.getfield 35, 3) := by decide +kernel
theorem dX10_enters_107 : decode cX10_enters 107 = .ok (.aload_n 0, 1) := by decide +kernel
theorem dX10_enters_108 : decode cX10_enters 108 = .ok (.getfield 160, 3) := by decide +kernel
theorem dX10_enters_111 : decode cX10_enters 111 = .ok (.bipush 8, 2) := by decide +kernel
theorem dX10_enters_113 : decode cX10_enters 113 = .ok (.iadd, 1) := by decide +kernel
theorem dX10_enters_114 : decode cX10_enters 114 = .ok (.iload_n 2, 1) := by decide +kernel
theorem dX10_enters_115 : decode cX10_enters 115 = .ok (.iastore, 1) := by decide +kernel
theorem dX10_enters_116 : decode cX10_enters 116 = .ok (.return_, 1) := by decide +kernel
theorem dX10_mayStep_0 : decode cX10_mayStep 0 = .ok (.aload_n 0, 1) := by decide +kernel
theorem dX10_mayStep_1 : decode cX10_mayStep 1 = .ok (.getfield 185, 3) := by decide +kernel
theorem dX10_mayStep_4 : decode cX10_mayStep 4 = .ok (.ifCond .ne 5, 3) := by decide +kernel
theorem dX10_mayStep_7 : decode cX10_mayStep 7 = .ok (.iconst 0, 1) := by decide +kernel
theorem dX10_mayStep_8 : decode cX10_mayStep 8 = .ok (.ireturn, 1) := by decide +kernel
theorem dX10_mayStep_9 : decode cX10_mayStep 9 = .ok (.aload_n 0, 1) := by decide +kernel
theorem dX10_mayStep_10 : decode cX10_mayStep 10 = .ok (.dup, 1) := by decide +kernel
theorem dX10_mayStep_11 : decode cX10_mayStep 11 = .ok (.getfield 185, 3) := by decide +kernel
theorem dX10_mayStep_14 : decode cX10_mayStep 14 = .ok (.iconst 1, 1) := by decide +kernel
theorem dX10_mayStep_15 : decode cX10_mayStep 15 = .ok (.isub, 1) := by decide +kernel
theorem dX10_mayStep_16 : decode cX10_mayStep 16 = .ok (.putfield 185, 3) := by decide +kernel
theorem dX10_mayStep_19 : decode cX10_mayStep 19 = .ok (.aload_n 0, 1) := by decide +kernel
theorem dX10_mayStep_20 : decode cX10_mayStep 20 = .ok (.getfield 35, 3) := by decide +kernel
theorem dX10_mayStep_23 : decode cX10_mayStep 23 = .ok (.aload_n 0, 1) := by decide +kernel
theorem dX10_mayStep_24 : decode cX10_mayStep 24 = .ok (.getfield 156, 3) := by decide +kernel
theorem dX10_mayStep_27 : decode cX10_mayStep 27 = .ok (.iconst 4, 1) := by decide +kernel
theorem dX10_mayStep_28 : decode cX10_mayStep 28 = .ok (.iadd, 1) := by decide +kernel
theorem dX10_mayStep_29 : decode cX10_mayStep 29 = .ok (.dup2, 1) := by decide +kernel
theorem dX10_mayStep_30 : decode cX10_mayStep 30 = .ok (.iaload, 1) := by decide +kernel
theorem dX10_mayStep_31 : decode cX10_mayStep 31 = .ok (.iconst 1, 1) := by decide +kernel
theorem dX10_mayStep_32 : decode cX10_mayStep 32 = .ok (.iadd, 1) := by decide +kernel
theorem dX10_mayStep_33 : decode cX10_mayStep 33 = .ok (.iastore, 1) := by decide +kernel
theorem dX10_mayStep_34 : decode cX10_mayStep 34 = .ok (.iconst 1, 1) := by decide +kernel
theorem dX10_mayStep_35 : decode cX10_mayStep 35 = .ok (.ireturn, 1) := by decide +kernel
theorem dX10_leaves_0 : decode cX10_leaves 0 = .ok (.aload_n 0, 1) := by decide +kernel
theorem dX10_leaves_1 : decode cX10_leaves 1 = .ok (.getfield 35, 3) := by decide +kernel
theorem dX10_leaves_4 : decode cX10_leaves 4 = .ok (.aload_n 0, 1) := by decide +kernel
theorem dX10_leaves_5 : decode cX10_leaves 5 = .ok (.getfield 160, 3) := by decide +kernel
theorem dX10_leaves_8 : decode cX10_leaves 8 = .ok (.bipush 9, 2) := by decide +kernel
theorem dX10_leaves_10 : decode cX10_leaves 10 = .ok (.iadd, 1) := by decide +kernel
theorem dX10_leaves_11 : decode cX10_leaves 11 = .ok (.iaload, 1) := by decide +kernel
theorem dX10_leaves_12 : decode cX10_leaves 12 = .ok (.istore_n 1, 1) := by decide +kernel
theorem dX10_leaves_13 : decode cX10_leaves 13 = .ok (.iload_n 1, 1) := by decide +kernel
theorem dX10_leaves_14 : decode cX10_leaves 14 = .ok (.ifCond .ne 6, 3) := by decide +kernel
theorem dX10_leaves_17 : decode cX10_leaves 17 = .ok (.bipush 7, 2) := by decide +kernel
theorem dX10_leaves_19 : decode cX10_leaves 19 = .ok (.ireturn, 1) := by decide +kernel
theorem dX10_leaves_20 : decode cX10_leaves 20 = .ok (.aload_n 0, 1) := by decide +kernel
theorem dX10_leaves_21 : decode cX10_leaves 21 = .ok (.getfield 160, 3) := by decide +kernel
theorem dX10_leaves_24 : decode cX10_leaves 24 = .ok (.bipush 10, 2) := by decide +kernel
theorem dX10_leaves_26 : decode cX10_leaves 26 = .ok (.iadd, 1) := by decide +kernel
theorem dX10_leaves_27 : decode cX10_leaves 27 = .ok (.iconst 3, 1) := by decide +kernel
theorem dX10_leaves_28 : decode cX10_leaves 28 = .ok (.iload_n 1, 1) := by decide +kernel
theorem dX10_leaves_29 : decode cX10_leaves 29 = .ok (.iconst 1, 1) := by decide +kernel
theorem dX10_leaves_30 : decode cX10_leaves 30 = .ok (.isub, 1) := by decide +kernel
theorem dX10_leaves_31 : decode cX10_leaves 31 = .ok (.imul, 1) := by decide +kernel
theorem dX10_leaves_32 : decode cX10_leaves 32 = .ok (.iadd, 1) := by decide +kernel
theorem dX10_leaves_33 : decode cX10_leaves 33 = .ok (.istore_n 2, 1) := by decide +kernel
theorem dX10_leaves_34 : decode cX10_leaves 34 = .ok (.aload_n 0, 1) := by decide +kernel
theorem dX10_leaves_35 : decode cX10_leaves 35 = .ok (.getfield 35, 3) := by decide +kernel
theorem dX10_leaves_38 : decode cX10_leaves 38 = .ok (.iload_n 2, 1) := by decide +kernel
theorem dX10_leaves_39 : decode cX10_leaves 39 = .ok (.iaload, 1) := by decide +kernel
theorem dX10_leaves_40 : decode cX10_leaves 40 = .ok (.istore_n 3, 1) := by decide +kernel
theorem dX10_leaves_41 : decode cX10_leaves 41 = .ok (.aload_n 0, 1) := by decide +kernel
theorem dX10_leaves_42 : decode cX10_leaves 42 = .ok (.getfield 14, 3) := by decide +kernel
theorem dX10_leaves_45 : decode cX10_leaves 45 = .ok (.iload_n 3, 1) := by decide +kernel
theorem dX10_leaves_46 : decode cX10_leaves 46 = .ok (.iaload, 1) := by decide +kernel
theorem dX10_leaves_47 : decode cX10_leaves 47 = .ok (.bipush 16, 2) := by decide +kernel
theorem dX10_leaves_49 : decode cX10_leaves 49 = .ok (.if_icmp .ne 79, 3) := by decide +kernel
theorem dX10_leaves_52 : decode cX10_leaves 52 = .ok (.aload_n 0, 1) := by decide +kernel
theorem dX10_leaves_53 : decode cX10_leaves 53 = .ok (.getfield 35, 3) := by decide +kernel
theorem dX10_leaves_56 : decode cX10_leaves 56 = .ok (.iload_n 2, 1) := by decide +kernel
theorem dX10_leaves_57 : decode cX10_leaves 57 = .ok (.iconst 2, 1) := by decide +kernel
theorem dX10_leaves_58 : decode cX10_leaves 58 = .ok (.iadd, 1) := by decide +kernel
theorem dX10_leaves_59 : decode cX10_leaves 59 = .ok (.iaload, 1) := by decide +kernel
theorem dX10_leaves_60 : decode cX10_leaves 60 = .ok (.ifCond .le 68, 3) := by decide +kernel
theorem dX10_leaves_63 : decode cX10_leaves 63 = .ok (.aload_n 0, 1) := by decide +kernel
theorem dX10_leaves_64 : decode cX10_leaves 64 = .ok (.invokevirtual 188, 3) := by decide +kernel
theorem dX10_leaves_67 : decode cX10_leaves 67 = .ok (.ifCond .ne 5, 3) := by decide +kernel
theorem dX10_leaves_70 : decode cX10_leaves 70 = .ok (.iconst 2, 1) := by decide +kernel
theorem dX10_leaves_71 : decode cX10_leaves 71 = .ok (.ireturn, 1) := by decide +kernel
theorem dX10_leaves_72 : decode cX10_leaves 72 = .ok (.aload_n 0, 1) := by decide +kernel
theorem dX10_leaves_73 : decode cX10_leaves 73 = .ok (.getfield 35, 3) := by decide +kernel
theorem dX10_leaves_76 : decode cX10_leaves 76 = .ok (.iload_n 2, 1) := by decide +kernel
theorem dX10_leaves_77 : decode cX10_leaves 77 = .ok (.iconst 2, 1) := by decide +kernel
theorem dX10_leaves_78 : decode cX10_leaves 78 = .ok (.iadd, 1) := by decide +kernel
theorem dX10_leaves_79 : decode cX10_leaves 79 = .ok (.dup2, 1) := by decide +kernel
theorem dX10_leaves_80 : decode cX10_leaves 80 = .ok (.iaload, 1) := by decide +kernel
theorem dX10_leaves_81 : decode cX10_leaves 81 = .ok (.iconst 1, 1) := by decide +kernel
theorem dX10_leaves_82 : decode cX10_leaves 82 = .ok (.isub, 1) := by decide +kernel
theorem dX10_leaves_83 : decode cX10_leaves 83 = .ok (.iastore, 1) := by decide +kernel
theorem dX10_leaves_84 : decode cX10_leaves 84 = .ok (.aload_n 0, 1) := by decide +kernel
theorem dX10_leaves_85 : decode cX10_leaves 85 = .ok (.getfield 35, 3) := by decide +kernel
theorem dX10_leaves_88 : decode cX10_leaves 88 = .ok (.aload_n 0, 1) := by decide +kernel
theorem dX10_leaves_89 : decode cX10_leaves 89 = .ok (.getfield 160, 3) := by decide +kernel
theorem dX10_leaves_92 : decode cX10_leaves 92 = .ok (.bipush 31, 2) := by decide +kernel
theorem dX10_leaves_94 : decode cX10_leaves 94 = .ok (.iadd, 1) := by decide +kernel
theorem dX10_leaves_95 : decode cX10_leaves 95 = .ok (.aload_n 0, 1) := by decide +kernel
theorem dX10_leaves_96 : decode cX10_leaves 96 = .ok (.getfield 35, 3) := by decide +kernel
theorem dX10_leaves_99 : decode cX10_leaves 99 = .ok (.aload_n 0, 1) := by decide +kernel
theorem dX10_leaves_100 : decode cX10_leaves 100 = .ok (.getfield 160, 3) := by decide +kernel
theorem dX10_leaves_103 : decode cX10_leaves 103 = .ok (.bipush 32, 2) := by decide +kernel
theorem dX10_leaves_105 : decode cX10_leaves 105 = .ok (.iadd, 1) := by decide +kernel
theorem dX10_leaves_106 : decode cX10_leaves 106 = .ok (.iaload, 1) := by decide +kernel
theorem dX10_leaves_107 : decode cX10_leaves 107 = .ok (.iastore, 1) := by decide +kernel
theorem dX10_leaves_108 : decode cX10_leaves 108 = .ok (.aload_n 0, 1) := by decide +kernel
theorem dX10_leaves_109 : decode cX10_leaves 109 = .ok (.getfield 35, 3) := by decide +kernel
theorem dX10_leaves_112 : decode cX10_leaves 112 = .ok (.aload_n 0, 1) := by decide +kernel
theorem dX10_leaves_113 : decode cX10_leaves 113 = .ok (.getfield 160, 3) := by decide +kernel
theorem dX10_leaves_116 : decode cX10_leaves 116 = .ok (.bipush 8, 2) := by decide +kernel
theorem dX10_leaves_118 : decode cX10_leaves 118 = .ok (.iadd, 1) := by decide +kernel
theorem dX10_leaves_119 : decode cX10_leaves 119 = .ok (.aload_n 0, 1) := by decide +kernel
theorem dX10_leaves_120 : decode cX10_leaves 120 = .ok (.getfield 20, 3) := by decide +kernel
theorem dX10_leaves_123 : decode cX10_leaves 123 = .ok (.iload_n 3, 1) := by decide +kernel
theorem dX10_leaves_124 : decode cX10_leaves 124 = .ok (.iaload, 1) := by decide +kernel
theorem dX10_leaves_125 : decode cX10_leaves 125 = .ok (.iastore, 1) := by decide +kernel
theorem dX10_leaves_126 : decode cX10_leaves 126 = .ok (.iconst 0, 1) := by decide +kernel
theorem dX10_leaves_127 : decode cX10_leaves 127 = .ok (.ireturn, 1) := by decide +kernel
theorem dX10_leaves_128 : decode cX10_leaves 128 = .ok (.aload_n 0, 1) := by decide +kernel
theorem dX10_leaves_129 : decode cX10_leaves 129 = .ok (.getfield 14, 3) := by decide +kernel
theorem dX10_leaves_132 : decode cX10_leaves 132 = .ok (.iload_n 3, 1) := by decide +kernel
theorem dX10_leaves_133 : decode cX10_leaves 133 = .ok (.iaload, 1) := by decide +kernel
theorem dX10_leaves_134 : decode cX10_leaves 134 = .ok (.bipush 13, 2) := by decide +kernel
theorem dX10_leaves_136 : decode cX10_leaves 136 = .ok (.if_icmp .ne 19, 3) := by decide +kernel
theorem dX10_leaves_139 : decode cX10_leaves 139 = .ok (.aload_n 0, 1) := by decide +kernel
theorem dX10_leaves_140 : decode cX10_leaves 140 = .ok (.aload_n 0, 1) := by decide +kernel
theorem dX10_leaves_141 : decode cX10_leaves 141 = .ok (.getfield 35, 3) := by decide +kernel
theorem dX10_leaves_144 : decode cX10_leaves 144 = .ok (.aload_n 0, 1) := by decide +kernel
theorem dX10_leaves_145 : decode cX10_leaves 145 = .ok (.getfield 160, 3) := by decide +kernel
theorem dX10_leaves_148 : decode cX10_leaves 148 = .ok (.bipush 31, 2) := by decide +kernel
theorem dX10_leaves_150 : decode cX10_leaves 150 = .ok (.iadd, 1) := by decide +kernel
theorem dX10_leaves_151 : decode cX10_leaves 151 = .ok (.iaload, 1) := by decide +kernel
theorem dX10_leaves_152 : decode cX10_leaves 152 = .ok (.invokevirtual 191, 3) := by decide +kernel
theorem dX10_leaves_155 : decode cX10_leaves 155 = .ok (.aload_n 0, 1) := by decide +kernel
theorem dX10_leaves_156 : decode cX10_leaves 156 = .ok (.getfield 35, 3) := by decide +kernel
theorem dX10_leaves_159 : decode cX10_leaves 159 = .ok (.aload_n 0, 1) := by decide +kernel
theorem dX10_leaves_160 : decode cX10_leaves 160 = .ok (.getfield 160, 3) := by decide +kernel
theorem dX10_leaves_163 : decode cX10_leaves 163 = .ok (.bipush 31, 2) := by decide +kernel
theorem dX10_leaves_165 : decode cX10_leaves 165 = .ok (.iadd, 1) := by decide +kernel
theorem dX10_leaves_166 : decode cX10_leaves 166 = .ok (.aload_n 0, 1) := by decide +kernel
theorem dX10_leaves_167 : decode cX10_leaves 167 = .ok (.getfield 35, 3) := by decide +kernel
theorem dX10_leaves_170 : decode cX10_leaves 170 = .ok (.iload_n 2, 1) := by decide +kernel
theorem dX10_leaves_171 : decode cX10_leaves 171 = .ok (.iconst 1, 1) := by decide +kernel
theorem dX10_leaves_172 : decode cX10_leaves 172 = .ok (.iadd, 1) := by decide +kernel
theorem dX10_leaves_173 : decode cX10_leaves 173 = .ok (.iaload, 1) := by decide +kernel
theorem dX10_leaves_174 : decode cX10_leaves 174 = .ok (.iastore, 1) := by decide +kernel
theorem dX10_leaves_175 : decode cX10_leaves 175 = .ok (.aload_n 0, 1) := by decide +kernel
theorem dX10_leaves_176 : decode cX10_leaves 176 = .ok (.getfield 35, 3) := by decide +kernel
theorem dX10_leaves_179 : decode cX10_leaves 179 = .ok (.aload_n 0, 1) := by decide +kernel
theorem dX10_leaves_180 : decode cX10_leaves 180 = .ok (.getfield 160, 3) := by decide +kernel
theorem dX10_leaves_183 : decode cX10_leaves 183 = .ok (.bipush 9, 2) := by decide +kernel
theorem dX10_leaves_185 : decode cX10_leaves 185 = .ok (.iadd, 1) := by decide +kernel
theorem dX10_leaves_186 : decode cX10_leaves 186 = .ok (.dup2, 1) := by decide +kernel
theorem dX10_leaves_187 : decode cX10_leaves 187 = .ok (.iaload, 1) := by decide +kernel
theorem dX10_leaves_188 : decode cX10_leaves 188 = .ok (.iconst 1, 1) := by decide +kernel
theorem dX10_leaves_189 : decode cX10_leaves 189 = .ok (.isub, 1) := by decide +kernel
theorem dX10_leaves_190 : decode cX10_leaves 190 = .ok (.iastore, 1) := by decide +kernel
theorem dX10_leaves_191 : decode cX10_leaves 191 = .ok (.aload_n 0, 1) := by decide +kernel
theorem dX10_leaves_192 : decode cX10_leaves 192 = .ok (.getfield 35, 3) := by decide +kernel
theorem dX10_leaves_195 : decode cX10_leaves 195 = .ok (.aload_n 0, 1) := by decide +kernel
theorem dX10_leaves_196 : decode cX10_leaves 196 = .ok (.getfield 160, 3) := by decide +kernel
theorem dX10_leaves_199 : decode cX10_leaves 199 = .ok (.bipush 8, 2) := by decide +kernel
theorem dX10_leaves_201 : decode cX10_leaves 201 = .ok (.iadd, 1) := by decide +kernel
theorem dX10_leaves_202 : decode cX10_leaves 202 = .ok (.aload_n 0, 1) := by decide +kernel
theorem dX10_leaves_203 : decode cX10_leaves 203 = .ok (.getfield 26, 3) := by decide +kernel
theorem dX10_leaves_206 : decode cX10_leaves 206 = .ok (.iload_n 3, 1) := by decide +kernel
theorem dX10_leaves_207 : decode cX10_leaves 207 = .ok (.iaload, 1) := by decide +kernel
theorem dX10_leaves_208 : decode cX10_leaves 208 = .ok (.iastore, 1) := by decide +kernel
theorem dX10_leaves_209 : decode cX10_leaves 209 = .ok (.iconst 0, 1) := by decide +kernel
theorem dX10_leaves_210 : decode cX10_leaves 210 = .ok (.ireturn, 1) := by decide +kernel
theorem dX10_move_0 : decode cX10_move 0 = .ok (.aload_n 0, 1) := by decide +kernel
theorem dX10_move_1 : decode cX10_move 1 = .ok (.getfield 35, 3) := by decide +kernel
theorem dX10_move_4 : decode cX10_move 4 = .ok (.aload_n 0, 1) := by decide +kernel
theorem dX10_move_5 : decode cX10_move 5 = .ok (.getfield 160, 3) := by decide +kernel
theorem dX10_move_8 : decode cX10_move 8 = .ok (.bipush 8, 2) := by decide +kernel
theorem dX10_move_10 : decode cX10_move 10 = .ok (.iadd, 1) := by decide +kernel
theorem dX10_move_11 : decode cX10_move 11 = .ok (.iaload, 1) := by decide +kernel
theorem dX10_move_12 : decode cX10_move 12 = .ok (.istore_n 1, 1) := by decide +kernel
theorem dX10_move_13 : decode cX10_move 13 = .ok (.iload_n 1, 1) := by decide +kernel
theorem dX10_move_14 : decode cX10_move 14 = .ok (.iconst (-1), 1) := by decide +kernel
theorem dX10_move_15 : decode cX10_move 15 = .ok (.if_icmp .ne 8, 3) := by decide +kernel
theorem dX10_move_18 : decode cX10_move 18 = .ok (.aload_n 0, 1) := by decide +kernel
theorem dX10_move_19 : decode cX10_move 19 = .ok (.invokevirtual 194, 3) := by decide +kernel
theorem dX10_move_22 : decode cX10_move 22 = .ok (.ireturn, 1) := by decide +kernel
theorem dX10_move_23 : decode cX10_move 23 = .ok (.aload_n 0, 1) := by decide +kernel
theorem dX10_move_24 : decode cX10_move 24 = .ok (.invokevirtual 188, 3) := by decide +kernel
theorem dX10_move_27 : decode cX10_move 27 = .ok (.ifCond .ne 5, 3) := by decide +kernel
theorem dX10_move_30 : decode cX10_move 30 = .ok (.iconst 2, 1) := by decide +kernel
theorem dX10_move_31 : decode cX10_move 31 = .ok (.ireturn, 1) := by decide +kernel
theorem dX10_move_32 : decode cX10_move 32 = .ok (.aload_n 0, 1) := by decide +kernel
theorem dX10_move_33 : decode cX10_move 33 = .ok (.getfield 14, 3) := by decide +kernel
theorem dX10_move_36 : decode cX10_move 36 = .ok (.iload_n 1, 1) := by decide +kernel
theorem dX10_move_37 : decode cX10_move 37 = .ok (.iaload, 1) := by decide +kernel
theorem dX10_move_38 : decode cX10_move 38 = .ok (.tableswitch 222 7 16 #[54, 222, 222, 108, 222, 222, 142, 177, 119, 156], 54) := by decide +kernel
theorem dX10_move_92 : decode cX10_move 92 = .ok (.aload_n 0, 1) := by decide +kernel
theorem dX10_move_93 : decode cX10_move 93 = .ok (.iconst 1, 1) := by decide +kernel
theorem dX10_move_94 : decode cX10_move 94 = .ok (.putfield 148, 3) := by decide +kernel
theorem dX10_move_97 : decode cX10_move 97 = .ok (.aload_n 0, 1) := by decide +kernel
theorem dX10_move_98 : decode cX10_move 98 = .ok (.aload_n 0, 1) := by decide +kernel
theorem dX10_move_99 : decode cX10_move 99 = .ok (.getfield 160, 3) := by decide +kernel
theorem dX10_move_102 : decode cX10_move 102 = .ok (.aload_n 0, 1) := by decide +kernel
theorem dX10_move_103 : decode cX10_move 103 = .ok (.getfield 20, 3) := by decide +kernel
theorem dX10_move_106 : decode cX10_move 106 = .ok (.iload_n 1, 1) := by decide +kernel
theorem dX10_move_107 : decode cX10_move 107 = .ok (.iaload, 1) := by decide +kernel
theorem dX10_move_108 : decode cX10_move 108 = .ok (.invokevirtual 145, 3) := by decide +kernel
theorem dX10_move_111 : decode cX10_move 111 = .ok (.istore_n 2, 1) := by decide +kernel
theorem dX10_move_112 : decode cX10_move 112 = .ok (.aload_n 0, 1) := by decide +kernel
theorem dX10_move_113 : decode cX10_move 113 = .ok (.getfield 148, 3) := by decide +kernel
theorem dX10_move_116 : decode cX10_move 116 = .ok (.ifCond .eq 20, 3) := by decide +kernel
theorem dX10_move_119 : decode cX10_move 119 = .ok (.aload_n 0, 1) := by decide +kernel
theorem dX10_move_120 : decode cX10_move 120 = .ok (.getfield 35, 3) := by decide +kernel
theorem dX10_move_123 : decode cX10_move 123 = .ok (.aload_n 0, 1) := by decide +kernel
theorem dX10_move_124 : decode cX10_move 124 = .ok (.getfield 160, 3) := by decide +kernel
theorem dX10_move_127 : decode cX10_move 127 = .ok (.aload_n 0, 1) := by decide +kernel
theorem dX10_move_128 : decode cX10_move 128 = .ok (.getfield 17, 3) := by decide +kernel
theorem dX10_move_131 : decode cX10_move 131 = .ok (.iload_n 1, 1) := by decide +kernel
theorem dX10_move_132 : decode cX10_move 132 = .ok (.iaload, 1) := by decide +kernel
theorem dX10_move_133 : decode cX10_move 133 = .ok (.iadd, 1) := by decide +kernel
theorem dX10_move_134 : decode cX10_move 134 = .ok (.iload_n 2, 1) := by decide +kernel
theorem dX10_move_135 : decode cX10_move 135 = .ok (.iastore, 1) := by decide +kernel
theorem dX10_move_136 : decode cX10_move 136 = .ok (.aload_n 0, 1) := by decide +kernel
theorem dX10_move_137 : decode cX10_move 137 = .ok (.iload_n 1, 1) := by decide +kernel
theorem dX10_move_138 : decode cX10_move 138 = .ok (.aload_n 0, 1) := by decide +kernel
theorem dX10_move_139 : decode cX10_move 139 = .ok (.getfield 148, 3) := by decide +kernel
theorem dX10_move_142 : decode cX10_move 142 = .ok (.invokevirtual 197, 3) := by decide +kernel
theorem dX10_move_145 : decode cX10_move 145 = .ok (.ireturn, 1) := by decide +kernel
theorem dX10_move_146 : decode cX10_move 146 = .ok (.aload_n 0, 1) := by decide +kernel
theorem dX10_move_147 : decode cX10_move 147 = .ok (.iload_n 1, 1) := by decide +kernel
theorem dX10_move_148 : decode cX10_move 148 = .ok (.aload_n 0, 1) := by decide +kernel
theorem dX10_move_149 : decode cX10_move 149 = .ok (.iload_n 1, 1) := by decide +kernel
theorem dX10_move_150 : decode cX10_move 150 = .ok (.invokevirtual 201, 3) := by decide +kernel
theorem dX10_move_153 : decode cX10_move 153 = .ok (.invokevirtual 197, 3) := by decide +kernel
theorem dX10_move_156 : decode cX10_move 156 = .ok (.ireturn, 1) := by decide +kernel
theorem dX10_move_157 : decode cX10_move 157 = .ok (.aload_n 0, 1) := by decide +kernel
theorem dX10_move_158 : decode cX10_move 158 = .ok (.aload_n 0, 1) := by decide +kernel
theorem dX10_move_159 : decode cX10_move 159 = .ok (.getfield 35, 3) := by decide +kernel
theorem dX10_move_162 : decode cX10_move 162 = .ok (.aload_n 0, 1) := by decide +kernel
theorem dX10_move_163 : decode cX10_move 163 = .ok (.getfield 160, 3) := by decide +kernel
theorem dX10_move_166 : decode cX10_move 166 = .ok (.bipush 31, 2) := by decide +kernel
theorem dX10_move_168 : decode cX10_move 168 = .ok (.iadd, 1) := by decide +kernel
theorem dX10_move_169 : decode cX10_move 169 = .ok (.iaload, 1) := by decide +kernel
theorem dX10_move_170 : decode cX10_move 170 = .ok (.invokevirtual 191, 3) := by decide +kernel
theorem dX10_move_173 : decode cX10_move 173 = .ok (.aload_n 0, 1) := by decide +kernel
theorem dX10_move_174 : decode cX10_move 174 = .ok (.iload_n 1, 1) := by decide +kernel
theorem dX10_move_175 : decode cX10_move 175 = .ok (.iconst 1, 1) := by decide +kernel
theorem dX10_move_176 : decode cX10_move 176 = .ok (.invokevirtual 197, 3) := by decide +kernel
theorem dX10_move_179 : decode cX10_move 179 = .ok (.ireturn, 1) := by decide +kernel
theorem dX10_move_180 : decode cX10_move 180 = .ok (.aload_n 0, 1) := by decide +kernel
theorem dX10_move_181 : decode cX10_move 181 = .ok (.iload_n 1, 1) := by decide +kernel
theorem dX10_move_182 : decode cX10_move 182 = .ok (.aload_n 0, 1) := by decide +kernel
theorem dX10_move_183 : decode cX10_move 183 = .ok (.getfield 17, 3) := by decide +kernel
theorem dX10_move_186 : decode cX10_move 186 = .ok (.iload_n 1, 1) := by decide +kernel
theorem dX10_move_187 : decode cX10_move 187 = .ok (.iaload, 1) := by decide +kernel
theorem dX10_move_188 : decode cX10_move 188 = .ok (.iconst 0, 1) := by decide +kernel
theorem dX10_move_189 : decode cX10_move 189 = .ok (.invokevirtual 204, 3) := by decide +kernel
theorem dX10_move_192 : decode cX10_move 192 = .ok (.iconst 0, 1) := by decide +kernel
theorem dX10_move_193 : decode cX10_move 193 = .ok (.ireturn, 1) := by decide +kernel
theorem dX10_move_194 : decode cX10_move 194 = .ok (.aload_n 0, 1) := by decide +kernel
theorem dX10_move_195 : decode cX10_move 195 = .ok (.iload_n 1, 1) := by decide +kernel
theorem dX10_move_196 : decode cX10_move 196 = .ok (.aload_n 0, 1) := by decide +kernel
theorem dX10_move_197 : decode cX10_move 197 = .ok (.getfield 20, 3) := by decide +kernel
theorem dX10_move_200 : decode cX10_move 200 = .ok (.iload_n 1, 1) := by decide +kernel
theorem dX10_move_201 : decode cX10_move 201 = .ok (.iaload, 1) := by decide +kernel
theorem dX10_move_202 : decode cX10_move 202 = .ok (.aload_n 0, 1) := by decide +kernel
theorem dX10_move_203 : decode cX10_move 203 = .ok (.getfield 17, 3) := by decide +kernel
theorem dX10_move_206 : decode cX10_move 206 = .ok (.iload_n 1, 1) := by decide +kernel
theorem dX10_move_207 : decode cX10_move 207 = .ok (.iaload, 1) := by decide +kernel
theorem dX10_move_208 : decode cX10_move 208 = .ok (.iconst 1, 1) := by decide +kernel
theorem dX10_move_209 : decode cX10_move 209 = .ok (.isub, 1) := by decide +kernel
theorem dX10_move_210 : decode cX10_move 210 = .ok (.invokevirtual 204, 3) := by decide +kernel
theorem dX10_move_213 : decode cX10_move 213 = .ok (.iconst 0, 1) := by decide +kernel
theorem dX10_move_214 : decode cX10_move 214 = .ok (.ireturn, 1) := by decide +kernel
theorem dX10_move_215 : decode cX10_move 215 = .ok (.aload_n 0, 1) := by decide +kernel
theorem dX10_move_216 : decode cX10_move 216 = .ok (.getfield 160, 3) := by decide +kernel
theorem dX10_move_219 : decode cX10_move 219 = .ok (.istore_n 3, 1) := by decide +kernel
theorem dX10_move_220 : decode cX10_move 220 = .ok (.aload_n 0, 1) := by decide +kernel
theorem dX10_move_221 : decode cX10_move 221 = .ok (.aload_n 0, 1) := by decide +kernel
theorem dX10_move_222 : decode cX10_move 222 = .ok (.invokevirtual 166, 3) := by decide +kernel
theorem dX10_move_225 : decode cX10_move 225 = .ok (.iconst 1, 1) := by decide +kernel
theorem dX10_move_226 : decode cX10_move 226 = .ok (.iadd, 1) := by decide +kernel
theorem dX10_move_227 : decode cX10_move 227 = .ok (.invokevirtual 208, 3) := by decide +kernel
theorem dX10_move_230 : decode cX10_move 230 = .ok (.aload_n 0, 1) := by decide +kernel
theorem dX10_move_231 : decode cX10_move 231 = .ok (.getfield 35, 3) := by decide +kernel
theorem dX10_move_234 : decode cX10_move 234 = .ok (.iload_n 3, 1) := by decide +kernel
theorem dX10_move_235 : decode cX10_move 235 = .ok (.aload_n 0, 1) := by decide +kernel
theorem dX10_move_236 : decode cX10_move 236 = .ok (.getfield 35, 3) := by decide +kernel
theorem dX10_move_239 : decode cX10_move 239 = .ok (.aload_n 0, 1) := by decide +kernel
theorem dX10_move_240 : decode cX10_move 240 = .ok (.getfield 160, 3) := by decide +kernel
theorem dX10_move_243 : decode cX10_move 243 = .ok (.bipush 35, 2) := by decide +kernel
theorem dX10_move_245 : decode cX10_move 245 = .ok (.invokestatic 173, 3) := by decide +kernel
theorem dX10_move_248 : decode cX10_move 248 = .ok (.aload_n 0, 1) := by decide +kernel
theorem dX10_move_249 : decode cX10_move 249 = .ok (.aload_n 0, 1) := by decide +kernel
theorem dX10_move_250 : decode cX10_move 250 = .ok (.getfield 17, 3) := by decide +kernel
theorem dX10_move_253 : decode cX10_move 253 = .ok (.iload_n 1, 1) := by decide +kernel
theorem dX10_move_254 : decode cX10_move 254 = .ok (.iaload, 1) := by decide +kernel
theorem dX10_move_255 : decode cX10_move 255 = .ok (.invokevirtual 211, 3) := by decide +kernel
theorem dX10_move_258 : decode cX10_move 258 = .ok (.iconst 0, 1) := by decide +kernel
theorem dX10_move_259 : decode cX10_move 259 = .ok (.ireturn, 1) := by decide +kernel
theorem dX10_move_260 : decode cX10_move 260 = .ok (.aload_n 0, 1) := by decide +kernel
theorem dX10_move_261 : decode cX10_move 261 = .ok (.iload_n 1, 1) := by decide +kernel
theorem dX10_move_262 : decode cX10_move 262 = .ok (.invokevirtual 214, 3) := by decide +kernel
theorem dX10_move_265 : decode cX10_move 265 = .ok (.ireturn, 1) := by decide +kernel
theorem dX10_goesBehind_0 : decode cX10_goesBehind 0 = .ok (.aload_n 0, 1) := by decide +kernel
theorem dX10_goesBehind_1 : decode cX10_goesBehind 1 = .ok (.getfield 35, 3) := by decide +kernel
theorem dX10_goesBehind_4 : decode cX10_goesBehind 4 = .ok (.aload_n 0, 1) := by decide +kernel
theorem dX10_goesBehind_5 : decode cX10_goesBehind 5 = .ok (.getfield 160, 3) := by decide +kernel
theorem dX10_goesBehind_8 : decode cX10_goesBehind 8 = .ok (.bipush 8, 2) := by decide +kernel
theorem dX10_goesBehind_10 : decode cX10_goesBehind 10 = .ok (.iadd, 1) := by decide +kernel
theorem dX10_goesBehind_11 : decode cX10_goesBehind 11 = .ok (.iload_n 2, 1) := by decide +kernel
theorem dX10_goesBehind_12 : decode cX10_goesBehind 12 = .ok (.ifCond .eq 12, 3) := by decide +kernel
theorem dX10_goesBehind_15 : decode cX10_goesBehind 15 = .ok (.aload_n 0, 1) := by decide +kernel
theorem dX10_goesBehind_16 : decode cX10_goesBehind 16 = .ok (.getfield 26, 3) := by decide +kernel
theorem dX10_goesBehind_19 : decode cX10_goesBehind 19 = .ok (.iload_n 1, 1) := by decide +kernel
theorem dX10_goesBehind_20 : decode cX10_goesBehind 20 = .ok (.iaload, 1) := by decide +kernel
theorem dX10_goesBehind_21 : decode cX10_goesBehind 21 = .ok (.goto 15, 3) := by decide +kernel
theorem dX10_goesBehind_24 : decode cX10_goesBehind 24 = .ok (.aload_n 0, 1) := by decide +kernel
theorem dX10_goesBehind_25 : decode cX10_goesBehind 25 = .ok (.getfield 35, 3) := by decide +kernel
theorem dX10_goesBehind_28 : decode cX10_goesBehind 28 = .ok (.aload_n 0, 1) := by decide +kernel
theorem dX10_goesBehind_29 : decode cX10_goesBehind 29 = .ok (.getfield 160, 3) := by decide +kernel
theorem dX10_goesBehind_32 : decode cX10_goesBehind 32 = .ok (.bipush 8, 2) := by decide +kernel
theorem dX10_goesBehind_34 : decode cX10_goesBehind 34 = .ok (.iadd, 1) := by decide +kernel
theorem dX10_goesBehind_35 : decode cX10_goesBehind 35 = .ok (.iaload, 1) := by decide +kernel
theorem dX10_goesBehind_36 : decode cX10_goesBehind 36 = .ok (.iastore, 1) := by decide +kernel
theorem dX10_goesBehind_37 : decode cX10_goesBehind 37 = .ok (.iload_n 2, 1) := by decide +kernel
theorem dX10_goesBehind_38 : decode cX10_goesBehind 38 = .ok (.ifCond .eq 7, 3) := by decide +kernel
theorem dX10_goesBehind_41 : decode cX10_goesBehind 41 = .ok (.iconst 0, 1) := by decide +kernel
theorem dX10_goesBehind_42 : decode cX10_goesBehind 42 = .ok (.goto 5, 3) := by decide +kernel
theorem dX10_goesBehind_45 : decode cX10_goesBehind 45 = .ok (.bipush 6, 2) := by decide +kernel
theorem dX10_goesBehind_47 : decode cX10_goesBehind 47 = .ok (.ireturn, 1) := by decide +kernel
theorem dX10_isSo_0 : decode cX10_isSo 0 = .ok (.aload_n 0, 1) := by decide +kernel
theorem dX10_isSo_1 : decode cX10_isSo 1 = .ok (.iconst 1, 1) := by decide +kernel
theorem dX10_isSo_2 : decode cX10_isSo 2 = .ok (.putfield 148, 3) := by decide +kernel
theorem dX10_isSo_5 : decode cX10_isSo 5 = .ok (.aload_n 0, 1) := by decide +kernel
theorem dX10_isSo_6 : decode cX10_isSo 6 = .ok (.aload_n 0, 1) := by decide +kernel
theorem dX10_isSo_7 : decode cX10_isSo 7 = .ok (.getfield 160, 3) := by decide +kernel
theorem dX10_isSo_10 : decode cX10_isSo 10 = .ok (.aload_n 0, 1) := by decide +kernel
theorem dX10_isSo_11 : decode cX10_isSo 11 = .ok (.getfield 17, 3) := by decide +kernel
theorem dX10_isSo_14 : decode cX10_isSo 14 = .ok (.iload_n 1, 1) := by decide +kernel
theorem dX10_isSo_15 : decode cX10_isSo 15 = .ok (.iaload, 1) := by decide +kernel
theorem dX10_isSo_16 : decode cX10_isSo 16 = .ok (.invokevirtual 145, 3) := by decide +kernel
theorem dX10_isSo_19 : decode cX10_isSo 19 = .ok (.istore_n 2, 1) := by decide +kernel
theorem dX10_isSo_20 : decode cX10_isSo 20 = .ok (.aload_n 0, 1) := by decide +kernel
theorem dX10_isSo_21 : decode cX10_isSo 21 = .ok (.aload_n 0, 1) := by decide +kernel
theorem dX10_isSo_22 : decode cX10_isSo 22 = .ok (.getfield 160, 3) := by decide +kernel
theorem dX10_isSo_25 : decode cX10_isSo 25 = .ok (.aload_n 0, 1) := by decide +kernel
theorem dX10_isSo_26 : decode cX10_isSo 26 = .ok (.getfield 20, 3) := by decide +kernel
theorem dX10_isSo_29 : decode cX10_isSo 29 = .ok (.iload_n 1, 1) := by decide +kernel
theorem dX10_isSo_30 : decode cX10_isSo 30 = .ok (.iaload, 1) := by decide +kernel
theorem dX10_isSo_31 : decode cX10_isSo 31 = .ok (.invokevirtual 145, 3) := by decide +kernel
theorem dX10_isSo_34 : decode cX10_isSo 34 = .ok (.istore_n 3, 1) := by decide +kernel
theorem dX10_isSo_35 : decode cX10_isSo 35 = .ok (.aload_n 0, 1) := by decide +kernel
theorem dX10_isSo_36 : decode cX10_isSo 36 = .ok (.getfield 148, 3) := by decide +kernel
theorem dX10_isSo_39 : decode cX10_isSo 39 = .ok (.ifCond .eq 69, 3) := by decide +kernel
theorem dX10_isSo_42 : decode cX10_isSo 42 = .ok (.aload_n 0, 1) := by decide +kernel
theorem dX10_isSo_43 : decode cX10_isSo 43 = .ok (.getfield 23, 3) := by decide +kernel
theorem dX10_isSo_46 : decode cX10_isSo 46 = .ok (.iload_n 1, 1) := by decide +kernel
theorem dX10_isSo_47 : decode cX10_isSo 47 = .ok (.iaload, 1) := by decide +kernel
theorem dX10_isSo_48 : decode cX10_isSo 48 = .ok (.bipush 60, 2) := by decide +kernel
theorem dX10_isSo_50 : decode cX10_isSo 50 = .ok (.if_icmp .ne 11, 3) := by decide +kernel
theorem dX10_isSo_53 : decode cX10_isSo 53 = .ok (.iload_n 2, 1) := by decide +kernel
theorem dX10_isSo_54 : decode cX10_isSo 54 = .ok (.iload_n 3, 1) := by decide +kernel
theorem dX10_isSo_55 : decode cX10_isSo 55 = .ok (.if_icmp .ge 53, 3) := by decide +kernel
theorem dX10_isSo_58 : decode cX10_isSo 58 = .ok (.goto 46, 3) := by decide +kernel
theorem dX10_isSo_61 : decode cX10_isSo 61 = .ok (.aload_n 0, 1) := by decide +kernel
theorem dX10_isSo_62 : decode cX10_isSo 62 = .ok (.getfield 23, 3) := by decide +kernel
theorem dX10_isSo_65 : decode cX10_isSo 65 = .ok (.iload_n 1, 1) := by decide +kernel
theorem dX10_isSo_66 : decode cX10_isSo 66 = .ok (.iaload, 1) := by decide +kernel
theorem dX10_isSo_67 : decode cX10_isSo 67 = .ok (.bipush 61, 2) := by decide +kernel
theorem dX10_isSo_69 : decode cX10_isSo 69 = .ok (.if_icmp .ne 11, 3) := by decide +kernel
theorem dX10_isSo_72 : decode cX10_isSo 72 = .ok (.iload_n 2, 1) := by decide +kernel
theorem dX10_isSo_73 : decode cX10_isSo 73 = .ok (.iload_n 3, 1) := by decide +kernel
theorem dX10_isSo_74 : decode cX10_isSo 74 = .ok (.if_icmp .ne 34, 3) := by decide +kernel
theorem dX10_isSo_77 : decode cX10_isSo 77 = .ok (.goto 27, 3) := by decide +kernel
theorem dX10_isSo_80 : decode cX10_isSo 80 = .ok (.aload_n 0, 1) := by decide +kernel
theorem dX10_isSo_81 : decode cX10_isSo 81 = .ok (.getfield 23, 3) := by decide +kernel
theorem dX10_isSo_84 : decode cX10_isSo 84 = .ok (.iload_n 1, 1) := by decide +kernel
theorem dX10_isSo_85 : decode cX10_isSo 85 = .ok (.iaload, 1) := by decide +kernel
theorem dX10_isSo_86 : decode cX10_isSo 86 = .ok (.bipush 62, 2) := by decide +kernel
theorem dX10_isSo_88 : decode cX10_isSo 88 = .ok (.if_icmp .ne 11, 3) := by decide +kernel
theorem dX10_isSo_91 : decode cX10_isSo 91 = .ok (.iload_n 2, 1) := by decide +kernel
theorem dX10_isSo_92 : decode cX10_isSo 92 = .ok (.iload_n 3, 1) := by decide +kernel
theorem dX10_isSo_93 : decode cX10_isSo 93 = .ok (.if_icmp .le 15, 3) := by decide +kernel
theorem dX10_isSo_96 : decode cX10_isSo 96 = .ok (.goto 8, 3) := by decide +kernel
theorem dX10_isSo_99 : decode cX10_isSo 99 = .ok (.iload_n 2, 1) := by decide +kernel
theorem dX10_isSo_100 : decode cX10_isSo 100 = .ok (.iload_n 3, 1) := by decide +kernel
theorem dX10_isSo_101 : decode cX10_isSo 101 = .ok (.if_icmp .eq 7, 3) := by decide +kernel
theorem dX10_isSo_104 : decode cX10_isSo 104 = .ok (.iconst 1, 1) := by decide +kernel
theorem dX10_isSo_105 : decode cX10_isSo 105 = .ok (.goto 4, 3) := by decide +kernel
theorem dX10_isSo_108 : decode cX10_isSo 108 = .ok (.iconst 0, 1) := by decide +kernel
theorem dX10_isSo_109 : decode cX10_isSo 109 = .ok (.ireturn, 1) := by decide +kernel
theorem dX10_choices_0 : decode cX10_choices 0 = .ok (.aload_n 0, 1) := by decide +kernel
theorem dX10_choices_1 : decode cX10_choices 1 = .ok (.getfield 14, 3) := by decide +kernel
theorem dX10_choices_4 : decode cX10_choices 4 = .ok (.iload_n 1, 1) := by decide +kernel
theorem dX10_choices_5 : decode cX10_choices 5 = .ok (.iaload, 1) := by decide +kernel
theorem dX10_choices_6 : decode cX10_choices 6 = .ok (.bipush 11, 2) := by decide +kernel
theorem dX10_choices_8 : decode cX10_choices 8 = .ok (.if_icmp .ne 10, 3) := by decide +kernel
theorem dX10_choices_11 : decode cX10_choices 11 = .ok (.aload_n 0, 1) := by decide +kernel
theorem dX10_choices_12 : decode cX10_choices 12 = .ok (.getfield 20, 3) := by decide +kernel
theorem dX10_choices_15 : decode cX10_choices 15 = .ok (.iload_n 1, 1) := by decide +kernel
theorem dX10_choices_16 : decode cX10_choices 16 = .ok (.iaload, 1) := by decide +kernel
theorem dX10_choices_17 : decode cX10_choices 17 = .ok (.ireturn, 1) := by decide +kernel
theorem dX10_choices_18 : decode cX10_choices 18 = .ok (.aload_n 0, 1) := by decide +kernel
theorem dX10_choices_19 : decode cX10_choices 19 = .ok (.iconst 1, 1) := by decide +kernel
theorem dX10_choices_20 : decode cX10_choices 20 = .ok (.putfield 148, 3) := by decide +kernel
theorem dX10_choices_23 : decode cX10_choices 23 = .ok (.iconst 0, 1) := by decide +kernel
theorem dX10_choices_24 : decode cX10_choices 24 = .ok (.istore_n 2, 1) := by decide +kernel
theorem dX10_choices_25 : decode cX10_choices 25 = .ok (.aload_n 0, 1) := by decide +kernel
theorem dX10_choices_26 : decode cX10_choices 26 = .ok (.getfield 14, 3) := by decide +kernel
theorem dX10_choices_29 : decode cX10_choices 29 = .ok (.iload_n 1, 1) := by decide +kernel
theorem dX10_choices_30 : decode cX10_choices 30 = .ok (.iaload, 1) := by decide +kernel
theorem dX10_choices_31 : decode cX10_choices 31 = .ok (.bipush 8, 2) := by decide +kernel
theorem dX10_choices_33 : decode cX10_choices 33 = .ok (.if_icmp .ne 50, 3) := by decide +kernel
theorem dX10_choices_36 : decode cX10_choices 36 = .ok (.aload_n 0, 1) := by decide +kernel
theorem dX10_choices_37 : decode cX10_choices 37 = .ok (.getfield 38, 3) := by decide +kernel
theorem dX10_choices_40 : decode cX10_choices 40 = .ok (.iconst 0, 1) := by decide +kernel
theorem dX10_choices_41 : decode cX10_choices 41 = .ok (.aload_n 0, 1) := by decide +kernel
theorem dX10_choices_42 : decode cX10_choices 42 = .ok (.aload_n 0, 1) := by decide +kernel
theorem dX10_choices_43 : decode cX10_choices 43 = .ok (.getfield 160, 3) := by decide +kernel
theorem dX10_choices_46 : decode cX10_choices 46 = .ok (.aload_n 0, 1) := by decide +kernel
theorem dX10_choices_47 : decode cX10_choices 47 = .ok (.getfield 20, 3) := by decide +kernel
theorem dX10_choices_50 : decode cX10_choices 50 = .ok (.iload_n 1, 1) := by decide +kernel
theorem dX10_choices_51 : decode cX10_choices 51 = .ok (.iaload, 1) := by decide +kernel
theorem dX10_choices_52 : decode cX10_choices 52 = .ok (.invokevirtual 145, 3) := by decide +kernel
theorem dX10_choices_55 : decode cX10_choices 55 = .ok (.iastore, 1) := by decide +kernel
theorem dX10_choices_56 : decode cX10_choices 56 = .ok (.aload_n 0, 1) := by decide +kernel
theorem dX10_choices_57 : decode cX10_choices 57 = .ok (.aload_n 0, 1) := by decide +kernel
theorem dX10_choices_58 : decode cX10_choices 58 = .ok (.getfield 160, 3) := by decide +kernel
theorem dX10_choices_61 : decode cX10_choices 61 = .ok (.aload_n 0, 1) := by decide +kernel
theorem dX10_choices_62 : decode cX10_choices 62 = .ok (.getfield 23, 3) := by decide +kernel
theorem dX10_choices_65 : decode cX10_choices 65 = .ok (.iload_n 1, 1) := by decide +kernel
theorem dX10_choices_66 : decode cX10_choices 66 = .ok (.iaload, 1) := by decide +kernel
theorem dX10_choices_67 : decode cX10_choices 67 = .ok (.invokevirtual 145, 3) := by decide +kernel
theorem dX10_choices_70 : decode cX10_choices 70 = .ok (.aload_n 0, 1) := by decide +kernel
theorem dX10_choices_71 : decode cX10_choices 71 = .ok (.getfield 38, 3) := by decide +kernel
theorem dX10_choices_74 : decode cX10_choices 74 = .ok (.iconst 0, 1) := by decide +kernel
theorem dX10_choices_75 : decode cX10_choices 75 = .ok (.iaload, 1) := by decide +kernel
theorem dX10_choices_76 : decode cX10_choices 76 = .ok (.isub, 1) := by decide +kernel
theorem dX10_choices_77 : decode cX10_choices 77 = .ok (.iconst 1, 1) := by decide +kernel
theorem dX10_choices_78 : decode cX10_choices 78 = .ok (.iadd, 1) := by decide +kernel
theorem dX10_choices_79 : decode cX10_choices 79 = .ok (.istore_n 2, 1) := by decide +kernel
theorem dX10_choices_80 : decode cX10_choices 80 = .ok (.goto 57, 3) := by decide +kernel
theorem dX10_choices_83 : decode cX10_choices 83 = .ok (.aload_n 0, 1) := by decide +kernel
theorem dX10_choices_84 : decode cX10_choices 84 = .ok (.getfield 20, 3) := by decide +kernel
theorem dX10_choices_87 : decode cX10_choices 87 = .ok (.iload_n 1, 1) := by decide +kernel
theorem dX10_choices_88 : decode cX10_choices 88 = .ok (.iaload, 1) := by decide +kernel
theorem dX10_choices_89 : decode cX10_choices 89 = .ok (.istore_n 3, 1) := by decide +kernel
theorem dX10_choices_90 : decode cX10_choices 90 = .ok (.aload_n 0, 1) := by decide +kernel
theorem dX10_choices_91 : decode cX10_choices 91 = .ok (.getfield 23, 3) := by decide +kernel
theorem dX10_choices_94 : decode cX10_choices 94 = .ok (.iload_n 1, 1) := by decide +kernel
theorem dX10_choices_95 : decode cX10_choices 95 = .ok (.iaload, 1) := by decide +kernel
theorem dX10_choices_96 : decode cX10_choices 96 = .ok (.ifCond .le 41, 3) := by decide +kernel
theorem dX10_choices_99 : decode cX10_choices 99 = .ok (.iload_n 3, 1) := by decide +kernel
theorem dX10_choices_100 : decode cX10_choices 100 = .ok (.iconst (-1), 1) := by decide +kernel
theorem dX10_choices_101 : decode cX10_choices 101 = .ok (.if_icmp .eq 36, 3) := by decide +kernel
theorem dX10_choices_104 : decode cX10_choices 104 = .ok (.aload_n 0, 1) := by decide +kernel
theorem dX10_choices_105 : decode cX10_choices 105 = .ok (.getfield 38, 3) := by decide +kernel
theorem dX10_choices_108 : decode cX10_choices 108 = .ok (.iload_n 2, 1) := by decide +kernel
theorem dX10_choices_109 : decode cX10_choices 109 = .ok (.aload_n 0, 1) := by decide +kernel
theorem dX10_choices_110 : decode cX10_choices 110 = .ok (.aload_n 0, 1) := by decide +kernel
theorem dX10_choices_111 : decode cX10_choices 111 = .ok (.getfield 160, 3) := by decide +kernel
theorem dX10_choices_114 : decode cX10_choices 114 = .ok (.aload_n 0, 1) := by decide +kernel
theorem dX10_choices_115 : decode cX10_choices 115 = .ok (.getfield 17, 3) := by decide +kernel
theorem dX10_choices_118 : decode cX10_choices 118 = .ok (.iload_n 3, 1) := by decide +kernel
theorem dX10_choices_119 : decode cX10_choices 119 = .ok (.iaload, 1) := by decide +kernel
theorem dX10_choices_120 : decode cX10_choices 120 = .ok (.invokevirtual 145, 3) := by decide +kernel
theorem dX10_choices_123 : decode cX10_choices 123 = .ok (.iastore, 1) := by decide +kernel
theorem dX10_choices_124 : decode cX10_choices 124 = .ok (.iinc 2 1, 3) := by decide +kernel
theorem dX10_choices_127 : decode cX10_choices 127 = .ok (.aload_n 0, 1) := by decide +kernel
theorem dX10_choices_128 : decode cX10_choices 128 = .ok (.getfield 26, 3) := by decide +kernel
theorem dX10_choices_131 : decode cX10_choices 131 = .ok (.iload_n 3, 1) := by decide +kernel
theorem dX10_choices_132 : decode cX10_choices 132 = .ok (.iaload, 1) := by decide +kernel
theorem dX10_choices_133 : decode cX10_choices 133 = .ok (.istore_n 3, 1) := by decide +kernel
theorem dX10_choices_134 : decode cX10_choices 134 = .ok (.goto (-44), 3) := by decide +kernel
theorem dX10_choices_137 : decode cX10_choices 137 = .ok (.aload_n 0, 1) := by decide +kernel
theorem dX10_choices_138 : decode cX10_choices 138 = .ok (.getfield 148, 3) := by decide +kernel
theorem dX10_choices_141 : decode cX10_choices 141 = .ok (.ifCond .eq 7, 3) := by decide +kernel
theorem dX10_choices_144 : decode cX10_choices 144 = .ok (.iload_n 2, 1) := by decide +kernel
theorem dX10_choices_145 : decode cX10_choices 145 = .ok (.goto 4, 3) := by decide +kernel
theorem dX10_choices_148 : decode cX10_choices 148 = .ok (.iconst (-1), 1) := by decide +kernel
theorem dX10_choices_149 : decode cX10_choices 149 = .ok (.ireturn, 1) := by decide +kernel
theorem dX10_makes_0 : decode cX10_makes 0 = .ok (.aload_n 0, 1) := by decide +kernel
theorem dX10_makes_1 : decode cX10_makes 1 = .ok (.iload_n 1, 1) := by decide +kernel
theorem dX10_makes_2 : decode cX10_makes 2 = .ok (.invokevirtual 217, 3) := by decide +kernel
theorem dX10_makes_5 : decode cX10_makes 5 = .ok (.istore_n 2, 1) := by decide +kernel
theorem dX10_makes_6 : decode cX10_makes 6 = .ok (.iload_n 2, 1) := by decide +kernel
theorem dX10_makes_7 : decode cX10_makes 7 = .ok (.ifCond .gt 6, 3) := by decide +kernel
theorem dX10_makes_10 : decode cX10_makes 10 = .ok (.bipush 6, 2) := by decide +kernel
theorem dX10_makes_12 : decode cX10_makes 12 = .ok (.ireturn, 1) := by decide +kernel
theorem dX10_makes_13 : decode cX10_makes 13 = .ok (.aload_n 0, 1) := by decide +kernel
theorem dX10_makes_14 : decode cX10_makes 14 = .ok (.invokevirtual 166, 3) := by decide +kernel
theorem dX10_makes_17 : decode cX10_makes 17 = .ok (.ifCond .ne 61, 3) := by decide +kernel
theorem dX10_makes_20 : decode cX10_makes 20 = .ok (.aload_n 0, 1) := by decide +kernel
theorem dX10_makes_21 : decode cX10_makes 21 = .ok (.getfield 35, 3) := by decide +kernel
theorem dX10_makes_24 : decode cX10_makes 24 = .ok (.aload_n 0, 1) := by decide +kernel
theorem dX10_makes_25 : decode cX10_makes 25 = .ok (.getfield 156, 3) := by decide +kernel
theorem dX10_makes_28 : decode cX10_makes 28 = .ok (.iconst 1, 1) := by decide +kernel
theorem dX10_makes_29 : decode cX10_makes 29 = .ok (.iadd, 1) := by decide +kernel
theorem dX10_makes_30 : decode cX10_makes 30 = .ok (.iaload, 1) := by decide +kernel
theorem dX10_makes_31 : decode cX10_makes 31 = .ok (.iconst 5, 1) := by decide +kernel
theorem dX10_makes_32 : decode cX10_makes 32 = .ok (.if_icmp .ne 46, 3) := by decide +kernel
theorem dX10_makes_35 : decode cX10_makes 35 = .ok (.aload_n 0, 1) := by decide +kernel
theorem dX10_makes_36 : decode cX10_makes 36 = .ok (.getfield 35, 3) := by decide +kernel
theorem dX10_makes_39 : decode cX10_makes 39 = .ok (.aload_n 0, 1) := by decide +kernel
theorem dX10_makes_40 : decode cX10_makes 40 = .ok (.getfield 160, 3) := by decide +kernel
theorem dX10_makes_43 : decode cX10_makes 43 = .ok (.bipush 32, 2) := by decide +kernel
theorem dX10_makes_45 : decode cX10_makes 45 = .ok (.iadd, 1) := by decide +kernel
theorem dX10_makes_46 : decode cX10_makes 46 = .ok (.iaload, 1) := by decide +kernel
theorem dX10_makes_47 : decode cX10_makes 47 = .ok (.aload_n 0, 1) := by decide +kernel
theorem dX10_makes_48 : decode cX10_makes 48 = .ok (.getfield 35, 3) := by decide +kernel
theorem dX10_makes_51 : decode cX10_makes 51 = .ok (.aload_n 0, 1) := by decide +kernel
theorem dX10_makes_52 : decode cX10_makes 52 = .ok (.getfield 156, 3) := by decide +kernel
theorem dX10_makes_55 : decode cX10_makes 55 = .ok (.bipush 9, 2) := by decide +kernel
theorem dX10_makes_57 : decode cX10_makes 57 = .ok (.iadd, 1) := by decide +kernel
theorem dX10_makes_58 : decode cX10_makes 58 = .ok (.iaload, 1) := by decide +kernel
theorem dX10_makes_59 : decode cX10_makes 59 = .ok (.if_icmp .lt 19, 3) := by decide +kernel
theorem dX10_makes_62 : decode cX10_makes 62 = .ok (.aload_n 0, 1) := by decide +kernel
theorem dX10_makes_63 : decode cX10_makes 63 = .ok (.getfield 35, 3) := by decide +kernel
theorem dX10_makes_66 : decode cX10_makes 66 = .ok (.aload_n 0, 1) := by decide +kernel
theorem dX10_makes_67 : decode cX10_makes 67 = .ok (.getfield 156, 3) := by decide +kernel
theorem dX10_makes_70 : decode cX10_makes 70 = .ok (.bipush 10, 2) := by decide +kernel
theorem dX10_makes_72 : decode cX10_makes 72 = .ok (.iadd, 1) := by decide +kernel
theorem dX10_makes_73 : decode cX10_makes 73 = .ok (.iconst 1, 1) := by decide +kernel
theorem dX10_makes_74 : decode cX10_makes 74 = .ok (.iastore, 1) := by decide +kernel
theorem dX10_makes_75 : decode cX10_makes 75 = .ok (.bipush 6, 2) := by decide +kernel
theorem dX10_makes_77 : decode cX10_makes 77 = .ok (.ireturn, 1) := by decide +kernel
theorem dX10_makes_78 : decode cX10_makes 78 = .ok (.aload_n 0, 1) := by decide +kernel
theorem dX10_makes_79 : decode cX10_makes 79 = .ok (.invokevirtual 166, 3) := by decide +kernel
theorem dX10_makes_82 : decode cX10_makes 82 = .ok (.ifCond .ne 10, 3) := by decide +kernel
theorem dX10_makes_85 : decode cX10_makes 85 = .ok (.aload_n 0, 1) := by decide +kernel
theorem dX10_makes_86 : decode cX10_makes 86 = .ok (.invokevirtual 220, 3) := by decide +kernel
theorem dX10_makes_89 : decode cX10_makes 89 = .ok (.goto 20, 3) := by decide +kernel
theorem dX10_makes_92 : decode cX10_makes 92 = .ok (.aload_n 0, 1) := by decide +kernel
theorem dX10_makes_93 : decode cX10_makes 93 = .ok (.getfield 35, 3) := by decide +kernel
theorem dX10_makes_96 : decode cX10_makes 96 = .ok (.aload_n 0, 1) := by decide +kernel
theorem dX10_makes_97 : decode cX10_makes 97 = .ok (.getfield 156, 3) := by decide +kernel
theorem dX10_makes_100 : decode cX10_makes 100 = .ok (.bipush 14, 2) := by decide +kernel
theorem dX10_makes_102 : decode cX10_makes 102 = .ok (.iadd, 1) := by decide +kernel
theorem dX10_makes_103 : decode cX10_makes 103 = .ok (.iaload, 1) := by decide +kernel
theorem dX10_makes_104 : decode cX10_makes 104 = .ok (.aload_n 0, 1) := by decide +kernel
theorem dX10_makes_105 : decode cX10_makes 105 = .ok (.invokevirtual 220, 3) := by decide +kernel
theorem dX10_makes_108 : decode cX10_makes 108 = .ok (.isub, 1) := by decide +kernel
theorem dX10_makes_109 : decode cX10_makes 109 = .ok (.bipush 30, 2) := by decide +kernel
theorem dX10_makes_111 : decode cX10_makes 111 = .ok (.if_icmp .ne 5, 3) := by decide +kernel
theorem dX10_makes_114 : decode cX10_makes 114 = .ok (.iconst 4, 1) := by decide +kernel
theorem dX10_makes_115 : decode cX10_makes 115 = .ok (.ireturn, 1) := by decide +kernel
theorem dX10_makes_116 : decode cX10_makes 116 = .ok (.aload_n 0, 1) := by decide +kernel
theorem dX10_makes_117 : decode cX10_makes 117 = .ok (.aload_n 0, 1) := by decide +kernel
theorem dX10_makes_118 : decode cX10_makes 118 = .ok (.getfield 35, 3) := by decide +kernel
theorem dX10_makes_121 : decode cX10_makes 121 = .ok (.aload_n 0, 1) := by decide +kernel
theorem dX10_makes_122 : decode cX10_makes 122 = .ok (.getfield 156, 3) := by decide +kernel
theorem dX10_makes_125 : decode cX10_makes 125 = .ok (.bipush 14, 2) := by decide +kernel
theorem dX10_makes_127 : decode cX10_makes 127 = .ok (.iadd, 1) := by decide +kernel
theorem dX10_makes_128 : decode cX10_makes 128 = .ok (.iaload, 1) := by decide +kernel
theorem dX10_makes_129 : decode cX10_makes 129 = .ok (.invokevirtual 163, 3) := by decide +kernel
theorem dX10_makes_132 : decode cX10_makes 132 = .ok (.istore_n 3, 1) := by decide +kernel
theorem dX10_makes_133 : decode cX10_makes 133 = .ok (.aload_n 0, 1) := by decide +kernel
theorem dX10_makes_134 : decode cX10_makes 134 = .ok (.getfield 35, 3) := by decide +kernel
theorem dX10_makes_137 : decode cX10_makes 137 = .ok (.aload_n 0, 1) := by decide +kernel
theorem dX10_makes_138 : decode cX10_makes 138 = .ok (.getfield 160, 3) := by decide +kernel
theorem dX10_makes_141 : decode cX10_makes 141 = .ok (.aload_n 0, 1) := by decide +kernel
theorem dX10_makes_142 : decode cX10_makes 142 = .ok (.getfield 35, 3) := by decide +kernel
theorem dX10_makes_145 : decode cX10_makes 145 = .ok (.iload_n 3, 1) := by decide +kernel
theorem dX10_makes_146 : decode cX10_makes 146 = .ok (.bipush 35, 2) := by decide +kernel
theorem dX10_makes_148 : decode cX10_makes 148 = .ok (.invokestatic 173, 3) := by decide +kernel
theorem dX10_makes_151 : decode cX10_makes 151 = .ok (.aload_n 0, 1) := by decide +kernel
theorem dX10_makes_152 : decode cX10_makes 152 = .ok (.getfield 35, 3) := by decide +kernel
theorem dX10_makes_155 : decode cX10_makes 155 = .ok (.iload_n 3, 1) := by decide +kernel
theorem dX10_makes_156 : decode cX10_makes 156 = .ok (.bipush 35, 2) := by decide +kernel
theorem dX10_makes_158 : decode cX10_makes 158 = .ok (.iadd, 1) := by decide +kernel
theorem dX10_makes_159 : decode cX10_makes 159 = .ok (.iload_n 1, 1) := by decide +kernel
theorem dX10_makes_160 : decode cX10_makes 160 = .ok (.iastore, 1) := by decide +kernel
theorem dX10_makes_161 : decode cX10_makes 161 = .ok (.aload_n 0, 1) := by decide +kernel
theorem dX10_makes_162 : decode cX10_makes 162 = .ok (.getfield 35, 3) := by decide +kernel
theorem dX10_makes_165 : decode cX10_makes 165 = .ok (.iload_n 3, 1) := by decide +kernel
theorem dX10_makes_166 : decode cX10_makes 166 = .ok (.bipush 36, 2) := by decide +kernel
theorem dX10_makes_168 : decode cX10_makes 168 = .ok (.iadd, 1) := by decide +kernel
theorem dX10_makes_169 : decode cX10_makes 169 = .ok (.iconst 0, 1) := by decide +kernel
theorem dX10_makes_170 : decode cX10_makes 170 = .ok (.iastore, 1) := by decide +kernel
theorem dX10_makes_171 : decode cX10_makes 171 = .ok (.aload_n 0, 1) := by decide +kernel
theorem dX10_makes_172 : decode cX10_makes 172 = .ok (.getfield 35, 3) := by decide +kernel
theorem dX10_makes_175 : decode cX10_makes 175 = .ok (.iload_n 3, 1) := by decide +kernel
theorem dX10_makes_176 : decode cX10_makes 176 = .ok (.bipush 37, 2) := by decide +kernel
theorem dX10_makes_178 : decode cX10_makes 178 = .ok (.iadd, 1) := by decide +kernel
theorem dX10_makes_179 : decode cX10_makes 179 = .ok (.iload_n 2, 1) := by decide +kernel
theorem dX10_makes_180 : decode cX10_makes 180 = .ok (.iastore, 1) := by decide +kernel
theorem dX10_makes_181 : decode cX10_makes 181 = .ok (.aload_n 0, 1) := by decide +kernel
theorem dX10_makes_182 : decode cX10_makes 182 = .ok (.getfield 38, 3) := by decide +kernel
theorem dX10_makes_185 : decode cX10_makes 185 = .ok (.iconst 0, 1) := by decide +kernel
theorem dX10_makes_186 : decode cX10_makes 186 = .ok (.aload_n 0, 1) := by decide +kernel
theorem dX10_makes_187 : decode cX10_makes 187 = .ok (.getfield 35, 3) := by decide +kernel
theorem dX10_makes_190 : decode cX10_makes 190 = .ok (.iload_n 3, 1) := by decide +kernel
theorem dX10_makes_191 : decode cX10_makes 191 = .ok (.bipush 38, 2) := by decide +kernel
theorem dX10_makes_193 : decode cX10_makes 193 = .ok (.iadd, 1) := by decide +kernel
theorem dX10_makes_194 : decode cX10_makes 194 = .ok (.bipush 6, 2) := by decide +kernel
theorem dX10_makes_196 : decode cX10_makes 196 = .ok (.invokestatic 173, 3) := by decide +kernel
theorem dX10_makes_199 : decode cX10_makes 199 = .ok (.aload_n 0, 1) := by decide +kernel
theorem dX10_makes_200 : decode cX10_makes 200 = .ok (.getfield 35, 3) := by decide +kernel
theorem dX10_makes_203 : decode cX10_makes 203 = .ok (.iload_n 3, 1) := by decide +kernel
theorem dX10_makes_204 : decode cX10_makes 204 = .ok (.bipush 44, 2) := by decide +kernel
theorem dX10_makes_206 : decode cX10_makes 206 = .ok (.iadd, 1) := by decide +kernel
theorem dX10_makes_207 : decode cX10_makes 207 = .ok (.aload_n 0, 1) := by decide +kernel
theorem dX10_makes_208 : decode cX10_makes 208 = .ok (.getfield 35, 3) := by decide +kernel
theorem dX10_makes_211 : decode cX10_makes 211 = .ok (.aload_n 0, 1) := by decide +kernel
theorem dX10_makes_212 : decode cX10_makes 212 = .ok (.getfield 156, 3) := by decide +kernel
theorem dX10_makes_215 : decode cX10_makes 215 = .ok (.bipush 16, 2) := by decide +kernel
theorem dX10_makes_217 : decode cX10_makes 217 = .ok (.iadd, 1) := by decide +kernel
theorem dX10_makes_218 : decode cX10_makes 218 = .ok (.iaload, 1) := by decide +kernel
theorem dX10_makes_219 : decode cX10_makes 219 = .ok (.iastore, 1) := by decide +kernel
theorem dX10_makes_220 : decode cX10_makes 220 = .ok (.aload_n 0, 1) := by decide +kernel
theorem dX10_makes_221 : decode cX10_makes 221 = .ok (.getfield 35, 3) := by decide +kernel
theorem dX10_makes_224 : decode cX10_makes 224 = .ok (.iload_n 3, 1) := by decide +kernel
theorem dX10_makes_225 : decode cX10_makes 225 = .ok (.bipush 45, 2) := by decide +kernel
theorem dX10_makes_227 : decode cX10_makes 227 = .ok (.iadd, 1) := by decide +kernel
theorem dX10_makes_228 : decode cX10_makes 228 = .ok (.aload_n 0, 1) := by decide +kernel
theorem dX10_makes_229 : decode cX10_makes 229 = .ok (.invokevirtual 166, 3) := by decide +kernel
theorem dX10_makes_232 : decode cX10_makes 232 = .ok (.iastore, 1) := by decide +kernel
theorem dX10_makes_233 : decode cX10_makes 233 = .ok (.aload_n 0, 1) := by decide +kernel
theorem dX10_makes_234 : decode cX10_makes 234 = .ok (.getfield 35, 3) := by decide +kernel
theorem dX10_makes_237 : decode cX10_makes 237 = .ok (.iload_n 3, 1) := by decide +kernel
theorem dX10_makes_238 : decode cX10_makes 238 = .ok (.bipush 46, 2) := by decide +kernel
theorem dX10_makes_240 : decode cX10_makes 240 = .ok (.iadd, 1) := by decide +kernel
theorem dX10_makes_241 : decode cX10_makes 241 = .ok (.aload_n 0, 1) := by decide +kernel
theorem dX10_makes_242 : decode cX10_makes 242 = .ok (.iload_n 3, 1) := by decide +kernel
theorem dX10_makes_243 : decode cX10_makes 243 = .ok (.invokevirtual 223, 3) := by decide +kernel
theorem dX10_makes_246 : decode cX10_makes 246 = .ok (.iastore, 1) := by decide +kernel
theorem dX10_makes_247 : decode cX10_makes 247 = .ok (.aload_n 0, 1) := by decide +kernel
theorem dX10_makes_248 : decode cX10_makes 248 = .ok (.getfield 35, 3) := by decide +kernel
theorem dX10_makes_251 : decode cX10_makes 251 = .ok (.aload_n 0, 1) := by decide +kernel
theorem dX10_makes_252 : decode cX10_makes 252 = .ok (.getfield 156, 3) := by decide +kernel
theorem dX10_makes_255 : decode cX10_makes 255 = .ok (.bipush 16, 2) := by decide +kernel
theorem dX10_makes_257 : decode cX10_makes 257 = .ok (.iadd, 1) := by decide +kernel
theorem dX10_makes_258 : decode cX10_makes 258 = .ok (.dup2, 1) := by decide +kernel
theorem dX10_makes_259 : decode cX10_makes 259 = .ok (.iaload, 1) := by decide +kernel
theorem dX10_makes_260 : decode cX10_makes 260 = .ok (.iconst 1, 1) := by decide +kernel
theorem dX10_makes_261 : decode cX10_makes 261 = .ok (.iadd, 1) := by decide +kernel
theorem dX10_makes_262 : decode cX10_makes 262 = .ok (.iastore, 1) := by decide +kernel
theorem dX10_makes_263 : decode cX10_makes 263 = .ok (.aload_n 0, 1) := by decide +kernel
theorem dX10_makes_264 : decode cX10_makes 264 = .ok (.getfield 35, 3) := by decide +kernel
theorem dX10_makes_267 : decode cX10_makes 267 = .ok (.aload_n 0, 1) := by decide +kernel
theorem dX10_makes_268 : decode cX10_makes 268 = .ok (.getfield 156, 3) := by decide +kernel
theorem dX10_makes_271 : decode cX10_makes 271 = .ok (.bipush 14, 2) := by decide +kernel
theorem dX10_makes_273 : decode cX10_makes 273 = .ok (.iadd, 1) := by decide +kernel
theorem dX10_makes_274 : decode cX10_makes 274 = .ok (.dup2, 1) := by decide +kernel
theorem dX10_makes_275 : decode cX10_makes 275 = .ok (.iaload, 1) := by decide +kernel
theorem dX10_makes_276 : decode cX10_makes 276 = .ok (.iconst 1, 1) := by decide +kernel
theorem dX10_makes_277 : decode cX10_makes 277 = .ok (.iadd, 1) := by decide +kernel
theorem dX10_makes_278 : decode cX10_makes 278 = .ok (.iastore, 1) := by decide +kernel
theorem dX10_makes_279 : decode cX10_makes 279 = .ok (.aload_n 0, 1) := by decide +kernel
theorem dX10_makes_280 : decode cX10_makes 280 = .ok (.invokevirtual 166, 3) := by decide +kernel
theorem dX10_makes_283 : decode cX10_makes 283 = .ok (.ifCond .ne 49, 3) := by decide +kernel
theorem dX10_makes_286 : decode cX10_makes 286 = .ok (.aload_n 0, 1) := by decide +kernel
theorem dX10_makes_287 : decode cX10_makes 287 = .ok (.getfield 35, 3) := by decide +kernel
theorem dX10_makes_290 : decode cX10_makes 290 = .ok (.aload_n 0, 1) := by decide +kernel
theorem dX10_makes_291 : decode cX10_makes 291 = .ok (.getfield 156, 3) := by decide +kernel
theorem dX10_makes_294 : decode cX10_makes 294 = .ok (.iconst 5, 1) := by decide +kernel
theorem dX10_makes_295 : decode cX10_makes 295 = .ok (.iadd, 1) := by decide +kernel
theorem dX10_makes_296 : decode cX10_makes 296 = .ok (.dup2, 1) := by decide +kernel
theorem dX10_makes_297 : decode cX10_makes 297 = .ok (.iaload, 1) := by decide +kernel
theorem dX10_makes_298 : decode cX10_makes 298 = .ok (.iconst 1, 1) := by decide +kernel
theorem dX10_makes_299 : decode cX10_makes 299 = .ok (.iadd, 1) := by decide +kernel
theorem dX10_makes_300 : decode cX10_makes 300 = .ok (.iastore, 1) := by decide +kernel
theorem dX10_makes_301 : decode cX10_makes 301 = .ok (.aload_n 0, 1) := by decide +kernel
theorem dX10_makes_302 : decode cX10_makes 302 = .ok (.getfield 35, 3) := by decide +kernel
theorem dX10_makes_305 : decode cX10_makes 305 = .ok (.aload_n 0, 1) := by decide +kernel
theorem dX10_makes_306 : decode cX10_makes 306 = .ok (.getfield 156, 3) := by decide +kernel
theorem dX10_makes_309 : decode cX10_makes 309 = .ok (.bipush 11, 2) := by decide +kernel
theorem dX10_makes_311 : decode cX10_makes 311 = .ok (.iadd, 1) := by decide +kernel
theorem dX10_makes_312 : decode cX10_makes 312 = .ok (.aload_n 0, 1) := by decide +kernel
theorem dX10_makes_313 : decode cX10_makes 313 = .ok (.getfield 35, 3) := by decide +kernel
theorem dX10_makes_316 : decode cX10_makes 316 = .ok (.aload_n 0, 1) := by decide +kernel
theorem dX10_makes_317 : decode cX10_makes 317 = .ok (.getfield 156, 3) := by decide +kernel
theorem dX10_makes_320 : decode cX10_makes 320 = .ok (.bipush 11, 2) := by decide +kernel
theorem dX10_makes_322 : decode cX10_makes 322 = .ok (.iadd, 1) := by decide +kernel
theorem dX10_makes_323 : decode cX10_makes 323 = .ok (.iaload, 1) := by decide +kernel
theorem dX10_makes_324 : decode cX10_makes 324 = .ok (.aload_n 0, 1) := by decide +kernel
theorem dX10_makes_325 : decode cX10_makes 325 = .ok (.invokevirtual 220, 3) := by decide +kernel
theorem dX10_makes_328 : decode cX10_makes 328 = .ok (.invokestatic 226, 3) := by decide +kernel
theorem dX10_makes_331 : decode cX10_makes 331 = .ok (.iastore, 1) := by decide +kernel
theorem dX10_makes_332 : decode cX10_makes 332 = .ok (.bipush 6, 2) := by decide +kernel
theorem dX10_makes_334 : decode cX10_makes 334 = .ok (.ireturn, 1) := by decide +kernel
theorem dX10_rank_0 : decode cX10_rank 0 = .ok (.aload_n 0, 1) := by decide +kernel
theorem dX10_rank_1 : decode cX10_rank 1 = .ok (.getfield 35, 3) := by decide +kernel
theorem dX10_rank_4 : decode cX10_rank 4 = .ok (.aload_n 0, 1) := by decide +kernel
theorem dX10_rank_5 : decode cX10_rank 5 = .ok (.getfield 156, 3) := by decide +kernel
theorem dX10_rank_8 : decode cX10_rank 8 = .ok (.iconst 1, 1) := by decide +kernel
theorem dX10_rank_9 : decode cX10_rank 9 = .ok (.iadd, 1) := by decide +kernel
theorem dX10_rank_10 : decode cX10_rank 10 = .ok (.iaload, 1) := by decide +kernel
theorem dX10_rank_11 : decode cX10_rank 11 = .ok (.tableswitch 63 2 4 #[25, 25, 35], 25) := by decide +kernel
theorem dX10_rank_36 : decode cX10_rank 36 = .ok (.aload_n 0, 1) := by decide +kernel
theorem dX10_rank_37 : decode cX10_rank 37 = .ok (.getfield 35, 3) := by decide +kernel
theorem dX10_rank_40 : decode cX10_rank 40 = .ok (.iload_n 1, 1) := by decide +kernel
theorem dX10_rank_41 : decode cX10_rank 41 = .ok (.bipush 46, 2) := by decide +kernel
theorem dX10_rank_43 : decode cX10_rank 43 = .ok (.iadd, 1) := by decide +kernel
theorem dX10_rank_44 : decode cX10_rank 44 = .ok (.iaload, 1) := by decide +kernel
theorem dX10_rank_45 : decode cX10_rank 45 = .ok (.ireturn, 1) := by decide +kernel
theorem dX10_rank_46 : decode cX10_rank 46 = .ok (.aload_n 0, 1) := by decide +kernel
theorem dX10_rank_47 : decode cX10_rank 47 = .ok (.getfield 35, 3) := by decide +kernel
theorem dX10_rank_50 : decode cX10_rank 50 = .ok (.iload_n 1, 1) := by decide +kernel
theorem dX10_rank_51 : decode cX10_rank 51 = .ok (.bipush 33, 2) := by decide +kernel
theorem dX10_rank_53 : decode cX10_rank 53 = .ok (.iadd, 1) := by decide +kernel
theorem dX10_rank_54 : decode cX10_rank 54 = .ok (.iaload, 1) := by decide +kernel
theorem dX10_rank_55 : decode cX10_rank 55 = .ok (.aload_n 0, 1) := by decide +kernel
theorem dX10_rank_56 : decode cX10_rank 56 = .ok (.getfield 35, 3) := by decide +kernel
theorem dX10_rank_59 : decode cX10_rank 59 = .ok (.iload_n 1, 1) := by decide +kernel
theorem dX10_rank_60 : decode cX10_rank 60 = .ok (.bipush 36, 2) := by decide +kernel
theorem dX10_rank_62 : decode cX10_rank 62 = .ok (.iadd, 1) := by decide +kernel
theorem dX10_rank_63 : decode cX10_rank 63 = .ok (.iaload, 1) := by decide +kernel
theorem dX10_rank_64 : decode cX10_rank 64 = .ok (.ifCond .le 7, 3) := by decide +kernel
theorem dX10_rank_67 : decode cX10_rank 67 = .ok (.iconst 1, 1) := by decide +kernel
theorem dX10_rank_68 : decode cX10_rank 68 = .ok (.goto 4, 3) := by decide +kernel
theorem dX10_rank_71 : decode cX10_rank 71 = .ok (.iconst 0, 1) := by decide +kernel
theorem dX10_rank_72 : decode cX10_rank 72 = .ok (.iadd, 1) := by decide +kernel
theorem dX10_rank_73 : decode cX10_rank 73 = .ok (.ireturn, 1) := by decide +kernel
theorem dX10_rank_74 : decode cX10_rank 74 = .ok (.iconst 0, 1) := by decide +kernel
theorem dX10_rank_75 : decode cX10_rank 75 = .ok (.ireturn, 1) := by decide +kernel
theorem dX10_chosen_0 : decode cX10_chosen 0 = .ok (.iconst (-1), 1) := by decide +kernel
theorem dX10_chosen_1 : decode cX10_chosen 1 = .ok (.istore_n 1, 1) := by decide +kernel
theorem dX10_chosen_2 : decode cX10_chosen 2 = .ok (.aload_n 0, 1) := by decide +kernel
theorem dX10_chosen_3 : decode cX10_chosen 3 = .ok (.invokevirtual 166, 3) := by decide +kernel
theorem dX10_chosen_6 : decode cX10_chosen 6 = .ok (.ifCond .ne 29, 3) := by decide +kernel
theorem dX10_chosen_9 : decode cX10_chosen 9 = .ok (.aload_n 0, 1) := by decide +kernel
theorem dX10_chosen_10 : decode cX10_chosen 10 = .ok (.getfield 35, 3) := by decide +kernel
theorem dX10_chosen_13 : decode cX10_chosen 13 = .ok (.aload_n 0, 1) := by decide +kernel
theorem dX10_chosen_14 : decode cX10_chosen 14 = .ok (.getfield 156, 3) := by decide +kernel
theorem dX10_chosen_17 : decode cX10_chosen 17 = .ok (.iconst 1, 1) := by decide +kernel
theorem dX10_chosen_18 : decode cX10_chosen 18 = .ok (.iadd, 1) := by decide +kernel
theorem dX10_chosen_19 : decode cX10_chosen 19 = .ok (.iaload, 1) := by decide +kernel
theorem dX10_chosen_20 : decode cX10_chosen 20 = .ok (.i2l, 1) := by decide +kernel
theorem dX10_chosen_21 : decode cX10_chosen 21 = .ok (.lconst 1, 1) := by decide +kernel
theorem dX10_chosen_22 : decode cX10_chosen 22 = .ok (.ldc2_w 231, 3) := by decide +kernel
theorem dX10_chosen_25 : decode cX10_chosen 25 = .ok (.invokestatic 43, 3) := by decide +kernel
theorem dX10_chosen_28 : decode cX10_chosen 28 = .ok (.ifCond .eq 7, 3) := by decide +kernel
theorem dX10_chosen_31 : decode cX10_chosen 31 = .ok (.iconst 1, 1) := by decide +kernel
theorem dX10_chosen_32 : decode cX10_chosen 32 = .ok (.goto 4, 3) := by decide +kernel
theorem dX10_chosen_35 : decode cX10_chosen 35 = .ok (.iconst 0, 1) := by decide +kernel
theorem dX10_chosen_36 : decode cX10_chosen 36 = .ok (.istore_n 2, 1) := by decide +kernel
theorem dX10_chosen_37 : decode cX10_chosen 37 = .ok (.iconst 0, 1) := by decide +kernel
theorem dX10_chosen_38 : decode cX10_chosen 38 = .ok (.istore_n 3, 1) := by decide +kernel
theorem dX10_chosen_39 : decode cX10_chosen 39 = .ok (.iload_n 3, 1) := by decide +kernel
theorem dX10_chosen_40 : decode cX10_chosen 40 = .ok (.aload_n 0, 1) := by decide +kernel
theorem dX10_chosen_41 : decode cX10_chosen 41 = .ok (.getfield 35, 3) := by decide +kernel
theorem dX10_chosen_44 : decode cX10_chosen 44 = .ok (.aload_n 0, 1) := by decide +kernel
theorem dX10_chosen_45 : decode cX10_chosen 45 = .ok (.getfield 156, 3) := by decide +kernel
theorem dX10_chosen_48 : decode cX10_chosen 48 = .ok (.bipush 14, 2) := by decide +kernel
theorem dX10_chosen_50 : decode cX10_chosen 50 = .ok (.iadd, 1) := by decide +kernel
theorem dX10_chosen_51 : decode cX10_chosen 51 = .ok (.iaload, 1) := by decide +kernel
theorem dX10_chosen_52 : decode cX10_chosen 52 = .ok (.if_icmp .ge 106, 3) := by decide +kernel
theorem dX10_chosen_55 : decode cX10_chosen 55 = .ok (.aload_n 0, 1) := by decide +kernel
theorem dX10_chosen_56 : decode cX10_chosen 56 = .ok (.getfield 35, 3) := by decide +kernel
theorem dX10_chosen_59 : decode cX10_chosen 59 = .ok (.aload_n 0, 1) := by decide +kernel
theorem dX10_chosen_60 : decode cX10_chosen 60 = .ok (.iload_n 3, 1) := by decide +kernel
theorem dX10_chosen_61 : decode cX10_chosen 61 = .ok (.invokevirtual 163, 3) := by decide +kernel
theorem dX10_chosen_64 : decode cX10_chosen 64 = .ok (.bipush 45, 2) := by decide +kernel
theorem dX10_chosen_66 : decode cX10_chosen 66 = .ok (.iadd, 1) := by decide +kernel
theorem dX10_chosen_67 : decode cX10_chosen 67 = .ok (.iaload, 1) := by decide +kernel
theorem dX10_chosen_68 : decode cX10_chosen 68 = .ok (.aload_n 0, 1) := by decide +kernel
theorem dX10_chosen_69 : decode cX10_chosen 69 = .ok (.invokevirtual 166, 3) := by decide +kernel
theorem dX10_chosen_72 : decode cX10_chosen 72 = .ok (.if_icmp .eq 6, 3) := by decide +kernel
theorem dX10_chosen_75 : decode cX10_chosen 75 = .ok (.goto 77, 3) := by decide +kernel
theorem dX10_chosen_78 : decode cX10_chosen 78 = .ok (.aload_n 0, 1) := by decide +kernel
theorem dX10_chosen_79 : decode cX10_chosen 79 = .ok (.invokevirtual 166, 3) := by decide +kernel
theorem dX10_chosen_82 : decode cX10_chosen 82 = .ok (.ifCond .le 7, 3) := by decide +kernel
theorem dX10_chosen_85 : decode cX10_chosen 85 = .ok (.iconst 0, 1) := by decide +kernel
theorem dX10_chosen_86 : decode cX10_chosen 86 = .ok (.goto 12, 3) := by decide +kernel
theorem dX10_chosen_89 : decode cX10_chosen 89 = .ok (.aload_n 0, 1) := by decide +kernel
theorem dX10_chosen_90 : decode cX10_chosen 90 = .ok (.aload_n 0, 1) := by decide +kernel
theorem dX10_chosen_91 : decode cX10_chosen 91 = .ok (.iload_n 3, 1) := by decide +kernel
theorem dX10_chosen_92 : decode cX10_chosen 92 = .ok (.invokevirtual 163, 3) := by decide +kernel
theorem dX10_chosen_95 : decode cX10_chosen 95 = .ok (.invokevirtual 233, 3) := by decide +kernel
theorem dX10_chosen_98 : decode cX10_chosen 98 = .ok (.istore 4, 2) := by decide +kernel
theorem dX10_chosen_100 : decode cX10_chosen 100 = .ok (.iload_n 1, 1) := by decide +kernel
theorem dX10_chosen_101 : decode cX10_chosen 101 = .ok (.iconst (-1), 1) := by decide +kernel
theorem dX10_chosen_102 : decode cX10_chosen 102 = .ok (.if_icmp .eq 10, 3) := by decide +kernel
theorem dX10_chosen_105 : decode cX10_chosen 105 = .ok (.aload_n 0, 1) := by decide +kernel
theorem dX10_chosen_106 : decode cX10_chosen 106 = .ok (.invokevirtual 166, 3) := by decide +kernel
theorem dX10_chosen_109 : decode cX10_chosen 109 = .ok (.ifCond .le 7, 3) := by decide +kernel
theorem dX10_chosen_112 : decode cX10_chosen 112 = .ok (.iconst 0, 1) := by decide +kernel
theorem dX10_chosen_113 : decode cX10_chosen 113 = .ok (.goto 12, 3) := by decide +kernel
theorem dX10_chosen_116 : decode cX10_chosen 116 = .ok (.aload_n 0, 1) := by decide +kernel
theorem dX10_chosen_117 : decode cX10_chosen 117 = .ok (.aload_n 0, 1) := by decide +kernel
theorem dX10_chosen_118 : decode cX10_chosen 118 = .ok (.iload_n 1, 1) := by decide +kernel
theorem dX10_chosen_119 : decode cX10_chosen 119 = .ok (.invokevirtual 163, 3) := by decide +kernel
theorem dX10_chosen_122 : decode cX10_chosen 122 = .ok (.invokevirtual 233, 3) := by decide +kernel
theorem dX10_chosen_125 : decode cX10_chosen 125 = .ok (.istore 5, 2) := by decide +kernel
theorem dX10_chosen_127 : decode cX10_chosen 127 = .ok (.iload_n 1, 1) := by decide +kernel
theorem dX10_chosen_128 : decode cX10_chosen 128 = .ok (.iconst (-1), 1) := by decide +kernel
theorem dX10_chosen_129 : decode cX10_chosen 129 = .ok (.if_icmp .eq 21, 3) := by decide +kernel
theorem dX10_chosen_132 : decode cX10_chosen 132 = .ok (.iload 4, 2) := by decide +kernel
theorem dX10_chosen_134 : decode cX10_chosen 134 = .ok (.iload 5, 2) := by decide +kernel
theorem dX10_chosen_136 : decode cX10_chosen 136 = .ok (.if_icmp .lt 14, 3) := by decide +kernel
theorem dX10_chosen_139 : decode cX10_chosen 139 = .ok (.iload 4, 2) := by decide +kernel
theorem dX10_chosen_141 : decode cX10_chosen 141 = .ok (.iload 5, 2) := by decide +kernel
theorem dX10_chosen_143 : decode cX10_chosen 143 = .ok (.if_icmp .ne 9, 3) := by decide +kernel
theorem dX10_chosen_146 : decode cX10_chosen 146 = .ok (.iload_n 2, 1) := by decide +kernel
theorem dX10_chosen_147 : decode cX10_chosen 147 = .ok (.ifCond .ne 5, 3) := by decide +kernel
theorem dX10_chosen_150 : decode cX10_chosen 150 = .ok (.iload_n 3, 1) := by decide +kernel
theorem dX10_chosen_151 : decode cX10_chosen 151 = .ok (.istore_n 1, 1) := by decide +kernel
theorem dX10_chosen_152 : decode cX10_chosen 152 = .ok (.iinc 3 1, 3) := by decide +kernel
theorem dX10_chosen_155 : decode cX10_chosen 155 = .ok (.goto (-116), 3) := by decide +kernel
theorem dX10_chosen_158 : decode cX10_chosen 158 = .ok (.iload_n 1, 1) := by decide +kernel
theorem dX10_chosen_159 : decode cX10_chosen 159 = .ok (.ireturn, 1) := by decide +kernel
theorem dX10_takesPoint_0 : decode cX10_takesPoint 0 = .ok (.aload_n 0, 1) := by decide +kernel
theorem dX10_takesPoint_1 : decode cX10_takesPoint 1 = .ok (.iload_n 1, 1) := by decide +kernel
theorem dX10_takesPoint_2 : decode cX10_takesPoint 2 = .ok (.invokevirtual 163, 3) := by decide +kernel
theorem dX10_takesPoint_5 : decode cX10_takesPoint 5 = .ok (.istore_n 2, 1) := by decide +kernel
theorem dX10_takesPoint_6 : decode cX10_takesPoint 6 = .ok (.aload_n 0, 1) := by decide +kernel
theorem dX10_takesPoint_7 : decode cX10_takesPoint 7 = .ok (.invokevirtual 166, 3) := by decide +kernel
theorem dX10_takesPoint_10 : decode cX10_takesPoint 10 = .ok (.ifCond .ne 75, 3) := by decide +kernel
theorem dX10_takesPoint_13 : decode cX10_takesPoint 13 = .ok (.aload_n 0, 1) := by decide +kernel
theorem dX10_takesPoint_14 : decode cX10_takesPoint 14 = .ok (.getfield 35, 3) := by decide +kernel
theorem dX10_takesPoint_17 : decode cX10_takesPoint 17 = .ok (.aload_n 0, 1) := by decide +kernel
theorem dX10_takesPoint_18 : decode cX10_takesPoint 18 = .ok (.getfield 156, 3) := by decide +kernel
theorem dX10_takesPoint_21 : decode cX10_takesPoint 21 = .ok (.bipush 6, 2) := by decide +kernel
theorem dX10_takesPoint_23 : decode cX10_takesPoint 23 = .ok (.iadd, 1) := by decide +kernel
theorem dX10_takesPoint_24 : decode cX10_takesPoint 24 = .ok (.dup2, 1) := by decide +kernel
theorem dX10_takesPoint_25 : decode cX10_takesPoint 25 = .ok (.iaload, 1) := by decide +kernel
theorem dX10_takesPoint_26 : decode cX10_takesPoint 26 = .ok (.iconst 1, 1) := by decide +kernel
theorem dX10_takesPoint_27 : decode cX10_takesPoint 27 = .ok (.iadd, 1) := by decide +kernel
theorem dX10_takesPoint_28 : decode cX10_takesPoint 28 = .ok (.iastore, 1) := by decide +kernel
theorem dX10_takesPoint_29 : decode cX10_takesPoint 29 = .ok (.iconst 0, 1) := by decide +kernel
theorem dX10_takesPoint_30 : decode cX10_takesPoint 30 = .ok (.istore_n 3, 1) := by decide +kernel
theorem dX10_takesPoint_31 : decode cX10_takesPoint 31 = .ok (.iload_n 3, 1) := by decide +kernel
theorem dX10_takesPoint_32 : decode cX10_takesPoint 32 = .ok (.bipush 8, 2) := by decide +kernel
theorem dX10_takesPoint_34 : decode cX10_takesPoint 34 = .ok (.if_icmp .ge 51, 3) := by decide +kernel
theorem dX10_takesPoint_37 : decode cX10_takesPoint 37 = .ok (.aload_n 0, 1) := by decide +kernel
theorem dX10_takesPoint_38 : decode cX10_takesPoint 38 = .ok (.getfield 35, 3) := by decide +kernel
theorem dX10_takesPoint_41 : decode cX10_takesPoint 41 = .ok (.aload_n 0, 1) := by decide +kernel
theorem dX10_takesPoint_42 : decode cX10_takesPoint 42 = .ok (.getfield 156, 3) := by decide +kernel
theorem dX10_takesPoint_45 : decode cX10_takesPoint 45 = .ok (.bipush 8, 2) := by decide +kernel
theorem dX10_takesPoint_47 : decode cX10_takesPoint 47 = .ok (.iadd, 1) := by decide +kernel
theorem dX10_takesPoint_48 : decode cX10_takesPoint 48 = .ok (.dup2, 1) := by decide +kernel
theorem dX10_takesPoint_49 : decode cX10_takesPoint 49 = .ok (.iaload, 1) := by decide +kernel
theorem dX10_takesPoint_50 : decode cX10_takesPoint 50 = .ok (.aload_n 0, 1) := by decide +kernel
theorem dX10_takesPoint_51 : decode cX10_takesPoint 51 = .ok (.getfield 35, 3) := by decide +kernel
theorem dX10_takesPoint_54 : decode cX10_takesPoint 54 = .ok (.aload_n 0, 1) := by decide +kernel
theorem dX10_takesPoint_55 : decode cX10_takesPoint 55 = .ok (.getfield 160, 3) := by decide +kernel
theorem dX10_takesPoint_58 : decode cX10_takesPoint 58 = .ok (.iload_n 3, 1) := by decide +kernel
theorem dX10_takesPoint_59 : decode cX10_takesPoint 59 = .ok (.iadd, 1) := by decide +kernel
theorem dX10_takesPoint_60 : decode cX10_takesPoint 60 = .ok (.iaload, 1) := by decide +kernel
theorem dX10_takesPoint_61 : decode cX10_takesPoint 61 = .ok (.aload_n 0, 1) := by decide +kernel
theorem dX10_takesPoint_62 : decode cX10_takesPoint 62 = .ok (.getfield 35, 3) := by decide +kernel
theorem dX10_takesPoint_65 : decode cX10_takesPoint 65 = .ok (.iload_n 2, 1) := by decide +kernel
theorem dX10_takesPoint_66 : decode cX10_takesPoint 66 = .ok (.iload_n 3, 1) := by decide +kernel
theorem dX10_takesPoint_67 : decode cX10_takesPoint 67 = .ok (.iadd, 1) := by decide +kernel
theorem dX10_takesPoint_68 : decode cX10_takesPoint 68 = .ok (.iaload, 1) := by decide +kernel
theorem dX10_takesPoint_69 : decode cX10_takesPoint 69 = .ok (.if_icmp .ne 7, 3) := by decide +kernel
theorem dX10_takesPoint_72 : decode cX10_takesPoint 72 = .ok (.iconst 0, 1) := by decide +kernel
theorem dX10_takesPoint_73 : decode cX10_takesPoint 73 = .ok (.goto 4, 3) := by decide +kernel
theorem dX10_takesPoint_76 : decode cX10_takesPoint 76 = .ok (.iconst 1, 1) := by decide +kernel
theorem dX10_takesPoint_77 : decode cX10_takesPoint 77 = .ok (.iadd, 1) := by decide +kernel
theorem dX10_takesPoint_78 : decode cX10_takesPoint 78 = .ok (.iastore, 1) := by decide +kernel
theorem dX10_takesPoint_79 : decode cX10_takesPoint 79 = .ok (.iinc 3 1, 3) := by decide +kernel
theorem dX10_takesPoint_82 : decode cX10_takesPoint 82 = .ok (.goto (-51), 3) := by decide +kernel
theorem dX10_takesPoint_85 : decode cX10_takesPoint 85 = .ok (.aload_n 0, 1) := by decide +kernel
theorem dX10_takesPoint_86 : decode cX10_takesPoint 86 = .ok (.getfield 35, 3) := by decide +kernel
theorem dX10_takesPoint_89 : decode cX10_takesPoint 89 = .ok (.iload_n 2, 1) := by decide +kernel
theorem dX10_takesPoint_90 : decode cX10_takesPoint 90 = .ok (.bipush 35, 2) := by decide +kernel
theorem dX10_takesPoint_92 : decode cX10_takesPoint 92 = .ok (.iadd, 1) := by decide +kernel
theorem dX10_takesPoint_93 : decode cX10_takesPoint 93 = .ok (.iaload, 1) := by decide +kernel
theorem dX10_takesPoint_94 : decode cX10_takesPoint 94 = .ok (.istore_n 3, 1) := by decide +kernel
theorem dX10_takesPoint_95 : decode cX10_takesPoint 95 = .ok (.aload_n 0, 1) := by decide +kernel
theorem dX10_takesPoint_96 : decode cX10_takesPoint 96 = .ok (.getfield 35, 3) := by decide +kernel
theorem dX10_takesPoint_99 : decode cX10_takesPoint 99 = .ok (.iload_n 2, 1) := by decide +kernel
theorem dX10_takesPoint_100 : decode cX10_takesPoint 100 = .ok (.bipush 36, 2) := by decide +kernel
theorem dX10_takesPoint_102 : decode cX10_takesPoint 102 = .ok (.iadd, 1) := by decide +kernel
theorem dX10_takesPoint_103 : decode cX10_takesPoint 103 = .ok (.iaload, 1) := by decide +kernel
theorem dX10_takesPoint_104 : decode cX10_takesPoint 104 = .ok (.istore 4, 2) := by decide +kernel
theorem dX10_takesPoint_106 : decode cX10_takesPoint 106 = .ok (.aload_n 0, 1) := by decide +kernel
theorem dX10_takesPoint_107 : decode cX10_takesPoint 107 = .ok (.getfield 35, 3) := by decide +kernel
theorem dX10_takesPoint_110 : decode cX10_takesPoint 110 = .ok (.iload_n 2, 1) := by decide +kernel
theorem dX10_takesPoint_111 : decode cX10_takesPoint 111 = .ok (.aload_n 0, 1) := by decide +kernel
theorem dX10_takesPoint_112 : decode cX10_takesPoint 112 = .ok (.getfield 35, 3) := by decide +kernel
theorem dX10_takesPoint_115 : decode cX10_takesPoint 115 = .ok (.aload_n 0, 1) := by decide +kernel
theorem dX10_takesPoint_116 : decode cX10_takesPoint 116 = .ok (.getfield 160, 3) := by decide +kernel
theorem dX10_takesPoint_119 : decode cX10_takesPoint 119 = .ok (.bipush 35, 2) := by decide +kernel
theorem dX10_takesPoint_121 : decode cX10_takesPoint 121 = .ok (.invokestatic 173, 3) := by decide +kernel
theorem dX10_takesPoint_124 : decode cX10_takesPoint 124 = .ok (.aload_n 0, 1) := by decide +kernel
theorem dX10_takesPoint_125 : decode cX10_takesPoint 125 = .ok (.getfield 35, 3) := by decide +kernel
theorem dX10_takesPoint_128 : decode cX10_takesPoint 128 = .ok (.aload_n 0, 1) := by decide +kernel
theorem dX10_takesPoint_129 : decode cX10_takesPoint 129 = .ok (.getfield 160, 3) := by decide +kernel
theorem dX10_takesPoint_132 : decode cX10_takesPoint 132 = .ok (.bipush 34, 2) := by decide +kernel
theorem dX10_takesPoint_134 : decode cX10_takesPoint 134 = .ok (.iadd, 1) := by decide +kernel
theorem dX10_takesPoint_135 : decode cX10_takesPoint 135 = .ok (.aload_n 0, 1) := by decide +kernel
theorem dX10_takesPoint_136 : decode cX10_takesPoint 136 = .ok (.getfield 35, 3) := by decide +kernel
theorem dX10_takesPoint_139 : decode cX10_takesPoint 139 = .ok (.iload_n 2, 1) := by decide +kernel
theorem dX10_takesPoint_140 : decode cX10_takesPoint 140 = .ok (.bipush 44, 2) := by decide +kernel
theorem dX10_takesPoint_142 : decode cX10_takesPoint 142 = .ok (.iadd, 1) := by decide +kernel
theorem dX10_takesPoint_143 : decode cX10_takesPoint 143 = .ok (.iaload, 1) := by decide +kernel
theorem dX10_takesPoint_144 : decode cX10_takesPoint 144 = .ok (.iastore, 1) := by decide +kernel
theorem dX10_takesPoint_145 : decode cX10_takesPoint 145 = .ok (.aload_n 0, 1) := by decide +kernel
theorem dX10_takesPoint_146 : decode cX10_takesPoint 146 = .ok (.getfield 35, 3) := by decide +kernel
theorem dX10_takesPoint_149 : decode cX10_takesPoint 149 = .ok (.aload_n 0, 1) := by decide +kernel
theorem dX10_takesPoint_150 : decode cX10_takesPoint 150 = .ok (.getfield 160, 3) := by decide +kernel
theorem dX10_takesPoint_153 : decode cX10_takesPoint 153 = .ok (.bipush 32, 2) := by decide +kernel
theorem dX10_takesPoint_155 : decode cX10_takesPoint 155 = .ok (.iadd, 1) := by decide +kernel
theorem dX10_takesPoint_156 : decode cX10_takesPoint 156 = .ok (.dup2, 1) := by decide +kernel
theorem dX10_takesPoint_157 : decode cX10_takesPoint 157 = .ok (.iaload, 1) := by decide +kernel
theorem dX10_takesPoint_158 : decode cX10_takesPoint 158 = .ok (.iconst 1, 1) := by decide +kernel
theorem dX10_takesPoint_159 : decode cX10_takesPoint 159 = .ok (.iadd, 1) := by decide +kernel
theorem dX10_takesPoint_160 : decode cX10_takesPoint 160 = .ok (.iastore, 1) := by decide +kernel
theorem dX10_takesPoint_161 : decode cX10_takesPoint 161 = .ok (.aload_n 0, 1) := by decide +kernel
theorem dX10_takesPoint_162 : decode cX10_takesPoint 162 = .ok (.getfield 35, 3) := by decide +kernel
theorem dX10_takesPoint_165 : decode cX10_takesPoint 165 = .ok (.aload_n 0, 1) := by decide +kernel
theorem dX10_takesPoint_166 : decode cX10_takesPoint 166 = .ok (.getfield 160, 3) := by decide +kernel
theorem dX10_takesPoint_169 : decode cX10_takesPoint 169 = .ok (.bipush 33, 2) := by decide +kernel
theorem dX10_takesPoint_171 : decode cX10_takesPoint 171 = .ok (.iadd, 1) := by decide +kernel
theorem dX10_takesPoint_172 : decode cX10_takesPoint 172 = .ok (.dup2, 1) := by decide +kernel
theorem dX10_takesPoint_173 : decode cX10_takesPoint 173 = .ok (.iaload, 1) := by decide +kernel
theorem dX10_takesPoint_174 : decode cX10_takesPoint 174 = .ok (.iload 4, 2) := by decide +kernel
theorem dX10_takesPoint_176 : decode cX10_takesPoint 176 = .ok (.ifCond .le 7, 3) := by decide +kernel
theorem dX10_takesPoint_179 : decode cX10_takesPoint 179 = .ok (.iconst 1, 1) := by decide +kernel
theorem dX10_takesPoint_180 : decode cX10_takesPoint 180 = .ok (.goto 4, 3) := by decide +kernel
theorem dX10_takesPoint_183 : decode cX10_takesPoint 183 = .ok (.iconst 0, 1) := by decide +kernel
theorem dX10_takesPoint_184 : decode cX10_takesPoint 184 = .ok (.iadd, 1) := by decide +kernel
theorem dX10_takesPoint_185 : decode cX10_takesPoint 185 = .ok (.iastore, 1) := by decide +kernel
theorem dX10_takesPoint_186 : decode cX10_takesPoint 186 = .ok (.aload_n 0, 1) := by decide +kernel
theorem dX10_takesPoint_187 : decode cX10_takesPoint 187 = .ok (.getfield 14, 3) := by decide +kernel
theorem dX10_takesPoint_190 : decode cX10_takesPoint 190 = .ok (.iload_n 3, 1) := by decide +kernel
theorem dX10_takesPoint_191 : decode cX10_takesPoint 191 = .ok (.iaload, 1) := by decide +kernel
theorem dX10_takesPoint_192 : decode cX10_takesPoint 192 = .ok (.bipush 11, 2) := by decide +kernel
theorem dX10_takesPoint_194 : decode cX10_takesPoint 194 = .ok (.if_icmp .ne 52, 3) := by decide +kernel
theorem dX10_takesPoint_197 : decode cX10_takesPoint 197 = .ok (.aload_n 0, 1) := by decide +kernel
theorem dX10_takesPoint_198 : decode cX10_takesPoint 198 = .ok (.getfield 17, 3) := by decide +kernel
theorem dX10_takesPoint_201 : decode cX10_takesPoint 201 = .ok (.iload_n 3, 1) := by decide +kernel
theorem dX10_takesPoint_202 : decode cX10_takesPoint 202 = .ok (.iaload, 1) := by decide +kernel
theorem dX10_takesPoint_203 : decode cX10_takesPoint 203 = .ok (.istore 5, 2) := by decide +kernel
theorem dX10_takesPoint_205 : decode cX10_takesPoint 205 = .ok (.iconst 0, 1) := by decide +kernel
theorem dX10_takesPoint_206 : decode cX10_takesPoint 206 = .ok (.istore 6, 2) := by decide +kernel
theorem dX10_takesPoint_208 : decode cX10_takesPoint 208 = .ok (.iload 6, 2) := by decide +kernel
theorem dX10_takesPoint_210 : decode cX10_takesPoint 210 = .ok (.iload 4, 2) := by decide +kernel
theorem dX10_takesPoint_212 : decode cX10_takesPoint 212 = .ok (.if_icmp .ge 18, 3) := by decide +kernel
theorem dX10_takesPoint_215 : decode cX10_takesPoint 215 = .ok (.aload_n 0, 1) := by decide +kernel
theorem dX10_takesPoint_216 : decode cX10_takesPoint 216 = .ok (.getfield 26, 3) := by decide +kernel
theorem dX10_takesPoint_219 : decode cX10_takesPoint 219 = .ok (.iload 5, 2) := by decide +kernel
theorem dX10_takesPoint_221 : decode cX10_takesPoint 221 = .ok (.iaload, 1) := by decide +kernel
theorem dX10_takesPoint_222 : decode cX10_takesPoint 222 = .ok (.istore 5, 2) := by decide +kernel
theorem dX10_takesPoint_224 : decode cX10_takesPoint 224 = .ok (.iinc 6 1, 3) := by decide +kernel
theorem dX10_takesPoint_227 : decode cX10_takesPoint 227 = .ok (.goto (-19), 3) := by decide +kernel
theorem dX10_takesPoint_230 : decode cX10_takesPoint 230 = .ok (.aload_n 0, 1) := by decide +kernel
theorem dX10_takesPoint_231 : decode cX10_takesPoint 231 = .ok (.iload_n 3, 1) := by decide +kernel
theorem dX10_takesPoint_232 : decode cX10_takesPoint 232 = .ok (.aload_n 0, 1) := by decide +kernel
theorem dX10_takesPoint_233 : decode cX10_takesPoint 233 = .ok (.getfield 17, 3) := by decide +kernel
theorem dX10_takesPoint_236 : decode cX10_takesPoint 236 = .ok (.iload 5, 2) := by decide +kernel
theorem dX10_takesPoint_238 : decode cX10_takesPoint 238 = .ok (.iaload, 1) := by decide +kernel
theorem dX10_takesPoint_239 : decode cX10_takesPoint 239 = .ok (.iconst 0, 1) := by decide +kernel
theorem dX10_takesPoint_240 : decode cX10_takesPoint 240 = .ok (.invokevirtual 204, 3) := by decide +kernel
theorem dX10_takesPoint_243 : decode cX10_takesPoint 243 = .ok (.goto 75, 3) := by decide +kernel
theorem dX10_takesPoint_246 : decode cX10_takesPoint 246 = .ok (.aload_n 0, 1) := by decide +kernel
theorem dX10_takesPoint_247 : decode cX10_takesPoint 247 = .ok (.getfield 35, 3) := by decide +kernel
theorem dX10_takesPoint_250 : decode cX10_takesPoint 250 = .ok (.aload_n 0, 1) := by decide +kernel
theorem dX10_takesPoint_251 : decode cX10_takesPoint 251 = .ok (.getfield 160, 3) := by decide +kernel
theorem dX10_takesPoint_254 : decode cX10_takesPoint 254 = .ok (.aload_n 0, 1) := by decide +kernel
theorem dX10_takesPoint_255 : decode cX10_takesPoint 255 = .ok (.getfield 17, 3) := by decide +kernel
theorem dX10_takesPoint_258 : decode cX10_takesPoint 258 = .ok (.iload_n 3, 1) := by decide +kernel
theorem dX10_takesPoint_259 : decode cX10_takesPoint 259 = .ok (.iaload, 1) := by decide +kernel
theorem dX10_takesPoint_260 : decode cX10_takesPoint 260 = .ok (.iadd, 1) := by decide +kernel
theorem dX10_takesPoint_261 : decode cX10_takesPoint 261 = .ok (.aload_n 0, 1) := by decide +kernel
theorem dX10_takesPoint_262 : decode cX10_takesPoint 262 = .ok (.getfield 14, 3) := by decide +kernel
theorem dX10_takesPoint_265 : decode cX10_takesPoint 265 = .ok (.iload_n 3, 1) := by decide +kernel
theorem dX10_takesPoint_266 : decode cX10_takesPoint 266 = .ok (.iaload, 1) := by decide +kernel
theorem dX10_takesPoint_267 : decode cX10_takesPoint 267 = .ok (.bipush 8, 2) := by decide +kernel
theorem dX10_takesPoint_269 : decode cX10_takesPoint 269 = .ok (.if_icmp .ne 18, 3) := by decide +kernel
theorem dX10_takesPoint_272 : decode cX10_takesPoint 272 = .ok (.aload_n 0, 1) := by decide +kernel
theorem dX10_takesPoint_273 : decode cX10_takesPoint 273 = .ok (.getfield 35, 3) := by decide +kernel
theorem dX10_takesPoint_276 : decode cX10_takesPoint 276 = .ok (.iload_n 2, 1) := by decide +kernel
theorem dX10_takesPoint_277 : decode cX10_takesPoint 277 = .ok (.bipush 38, 2) := by decide +kernel
theorem dX10_takesPoint_279 : decode cX10_takesPoint 279 = .ok (.iadd, 1) := by decide +kernel
theorem dX10_takesPoint_280 : decode cX10_takesPoint 280 = .ok (.iaload, 1) := by decide +kernel
theorem dX10_takesPoint_281 : decode cX10_takesPoint 281 = .ok (.iload 4, 2) := by decide +kernel
theorem dX10_takesPoint_283 : decode cX10_takesPoint 283 = .ok (.iadd, 1) := by decide +kernel
theorem dX10_takesPoint_284 : decode cX10_takesPoint 284 = .ok (.goto 15, 3) := by decide +kernel
theorem dX10_takesPoint_287 : decode cX10_takesPoint 287 = .ok (.aload_n 0, 1) := by decide +kernel
theorem dX10_takesPoint_288 : decode cX10_takesPoint 288 = .ok (.getfield 35, 3) := by decide +kernel
theorem dX10_takesPoint_291 : decode cX10_takesPoint 291 = .ok (.iload_n 2, 1) := by decide +kernel
theorem dX10_takesPoint_292 : decode cX10_takesPoint 292 = .ok (.bipush 38, 2) := by decide +kernel
theorem dX10_takesPoint_294 : decode cX10_takesPoint 294 = .ok (.iadd, 1) := by decide +kernel
theorem dX10_takesPoint_295 : decode cX10_takesPoint 295 = .ok (.iload 4, 2) := by decide +kernel
theorem dX10_takesPoint_297 : decode cX10_takesPoint 297 = .ok (.iadd, 1) := by decide +kernel
theorem dX10_takesPoint_298 : decode cX10_takesPoint 298 = .ok (.iaload, 1) := by decide +kernel
theorem dX10_takesPoint_299 : decode cX10_takesPoint 299 = .ok (.iastore, 1) := by decide +kernel
theorem dX10_takesPoint_300 : decode cX10_takesPoint 300 = .ok (.aload_n 0, 1) := by decide +kernel
theorem dX10_takesPoint_301 : decode cX10_takesPoint 301 = .ok (.getfield 35, 3) := by decide +kernel
theorem dX10_takesPoint_304 : decode cX10_takesPoint 304 = .ok (.aload_n 0, 1) := by decide +kernel
theorem dX10_takesPoint_305 : decode cX10_takesPoint 305 = .ok (.getfield 160, 3) := by decide +kernel
theorem dX10_takesPoint_308 : decode cX10_takesPoint 308 = .ok (.bipush 8, 2) := by decide +kernel
theorem dX10_takesPoint_310 : decode cX10_takesPoint 310 = .ok (.iadd, 1) := by decide +kernel
theorem dX10_takesPoint_311 : decode cX10_takesPoint 311 = .ok (.aload_n 0, 1) := by decide +kernel
theorem dX10_takesPoint_312 : decode cX10_takesPoint 312 = .ok (.getfield 26, 3) := by decide +kernel
theorem dX10_takesPoint_315 : decode cX10_takesPoint 315 = .ok (.iload_n 3, 1) := by decide +kernel
theorem dX10_takesPoint_316 : decode cX10_takesPoint 316 = .ok (.iaload, 1) := by decide +kernel
theorem dX10_takesPoint_317 : decode cX10_takesPoint 317 = .ok (.iastore, 1) := by decide +kernel
theorem dX10_takesPoint_318 : decode cX10_takesPoint 318 = .ok (.aload_n 0, 1) := by decide +kernel
theorem dX10_takesPoint_319 : decode cX10_takesPoint 319 = .ok (.getfield 35, 3) := by decide +kernel
theorem dX10_takesPoint_322 : decode cX10_takesPoint 322 = .ok (.iload_n 2, 1) := by decide +kernel
theorem dX10_takesPoint_323 : decode cX10_takesPoint 323 = .ok (.bipush 36, 2) := by decide +kernel
theorem dX10_takesPoint_325 : decode cX10_takesPoint 325 = .ok (.iadd, 1) := by decide +kernel
theorem dX10_takesPoint_326 : decode cX10_takesPoint 326 = .ok (.dup2, 1) := by decide +kernel
theorem dX10_takesPoint_327 : decode cX10_takesPoint 327 = .ok (.iaload, 1) := by decide +kernel
theorem dX10_takesPoint_328 : decode cX10_takesPoint 328 = .ok (.iconst 1, 1) := by decide +kernel
theorem dX10_takesPoint_329 : decode cX10_takesPoint 329 = .ok (.iadd, 1) := by decide +kernel
theorem dX10_takesPoint_330 : decode cX10_takesPoint 330 = .ok (.iastore, 1) := by decide +kernel
theorem dX10_takesPoint_331 : decode cX10_takesPoint 331 = .ok (.aload_n 0, 1) := by decide +kernel
theorem dX10_takesPoint_332 : decode cX10_takesPoint 332 = .ok (.getfield 35, 3) := by decide +kernel
theorem dX10_takesPoint_335 : decode cX10_takesPoint 335 = .ok (.iload_n 2, 1) := by decide +kernel
theorem dX10_takesPoint_336 : decode cX10_takesPoint 336 = .ok (.bipush 36, 2) := by decide +kernel
theorem dX10_takesPoint_338 : decode cX10_takesPoint 338 = .ok (.iadd, 1) := by decide +kernel
theorem dX10_takesPoint_339 : decode cX10_takesPoint 339 = .ok (.iaload, 1) := by decide +kernel
theorem dX10_takesPoint_340 : decode cX10_takesPoint 340 = .ok (.aload_n 0, 1) := by decide +kernel
theorem dX10_takesPoint_341 : decode cX10_takesPoint 341 = .ok (.getfield 35, 3) := by decide +kernel
theorem dX10_takesPoint_344 : decode cX10_takesPoint 344 = .ok (.iload_n 2, 1) := by decide +kernel
theorem dX10_takesPoint_345 : decode cX10_takesPoint 345 = .ok (.bipush 37, 2) := by decide +kernel
theorem dX10_takesPoint_347 : decode cX10_takesPoint 347 = .ok (.iadd, 1) := by decide +kernel
theorem dX10_takesPoint_348 : decode cX10_takesPoint 348 = .ok (.iaload, 1) := by decide +kernel
theorem dX10_takesPoint_349 : decode cX10_takesPoint 349 = .ok (.if_icmp .ne 8, 3) := by decide +kernel
theorem dX10_takesPoint_352 : decode cX10_takesPoint 352 = .ok (.aload_n 0, 1) := by decide +kernel
theorem dX10_takesPoint_353 : decode cX10_takesPoint 353 = .ok (.iload_n 1, 1) := by decide +kernel
theorem dX10_takesPoint_354 : decode cX10_takesPoint 354 = .ok (.invokevirtual 182, 3) := by decide +kernel
theorem dX10_takesPoint_357 : decode cX10_takesPoint 357 = .ok (.return_, 1) := by decide +kernel
theorem dX10_takesNext_0 : decode cX10_takesNext 0 = .ok (.aload_n 0, 1) := by decide +kernel
theorem dX10_takesNext_1 : decode cX10_takesNext 1 = .ok (.invokevirtual 236, 3) := by decide +kernel
theorem dX10_takesNext_4 : decode cX10_takesNext 4 = .ok (.istore_n 1, 1) := by decide +kernel
theorem dX10_takesNext_5 : decode cX10_takesNext 5 = .ok (.iload_n 1, 1) := by decide +kernel
theorem dX10_takesNext_6 : decode cX10_takesNext 6 = .ok (.iconst (-1), 1) := by decide +kernel
theorem dX10_takesNext_7 : decode cX10_takesNext 7 = .ok (.if_icmp .eq 32, 3) := by decide +kernel
theorem dX10_takesNext_10 : decode cX10_takesNext 10 = .ok (.aload_n 0, 1) := by decide +kernel
theorem dX10_takesNext_11 : decode cX10_takesNext 11 = .ok (.invokevirtual 188, 3) := by decide +kernel
theorem dX10_takesNext_14 : decode cX10_takesNext 14 = .ok (.ifCond .ne 5, 3) := by decide +kernel
theorem dX10_takesNext_17 : decode cX10_takesNext 17 = .ok (.iconst 2, 1) := by decide +kernel
theorem dX10_takesNext_18 : decode cX10_takesNext 18 = .ok (.ireturn, 1) := by decide +kernel
theorem dX10_takesNext_19 : decode cX10_takesNext 19 = .ok (.aload_n 0, 1) := by decide +kernel
theorem dX10_takesNext_20 : decode cX10_takesNext 20 = .ok (.iload_n 1, 1) := by decide +kernel
theorem dX10_takesNext_21 : decode cX10_takesNext 21 = .ok (.invokevirtual 239, 3) := by decide +kernel
theorem dX10_takesNext_24 : decode cX10_takesNext 24 = .ok (.aload_n 0, 1) := by decide +kernel
theorem dX10_takesNext_25 : decode cX10_takesNext 25 = .ok (.getfield 35, 3) := by decide +kernel
theorem dX10_takesNext_28 : decode cX10_takesNext 28 = .ok (.aload_n 0, 1) := by decide +kernel
theorem dX10_takesNext_29 : decode cX10_takesNext 29 = .ok (.getfield 156, 3) := by decide +kernel
theorem dX10_takesNext_32 : decode cX10_takesNext 32 = .ok (.bipush 12, 2) := by decide +kernel
theorem dX10_takesNext_34 : decode cX10_takesNext 34 = .ok (.iadd, 1) := by decide +kernel
theorem dX10_takesNext_35 : decode cX10_takesNext 35 = .ok (.iconst 1, 1) := by decide +kernel
theorem dX10_takesNext_36 : decode cX10_takesNext 36 = .ok (.iastore, 1) := by decide +kernel
theorem dX10_takesNext_37 : decode cX10_takesNext 37 = .ok (.iconst 0, 1) := by decide +kernel
theorem dX10_takesNext_38 : decode cX10_takesNext 38 = .ok (.ireturn, 1) := by decide +kernel
theorem dX10_takesNext_39 : decode cX10_takesNext 39 = .ok (.aload_n 0, 1) := by decide +kernel
theorem dX10_takesNext_40 : decode cX10_takesNext 40 = .ok (.invokevirtual 166, 3) := by decide +kernel
theorem dX10_takesNext_43 : decode cX10_takesNext 43 = .ok (.ifCond .le 57, 3) := by decide +kernel
theorem dX10_takesNext_46 : decode cX10_takesNext 46 = .ok (.aload_n 0, 1) := by decide +kernel
theorem dX10_takesNext_47 : decode cX10_takesNext 47 = .ok (.aload_n 0, 1) := by decide +kernel
theorem dX10_takesNext_48 : decode cX10_takesNext 48 = .ok (.invokevirtual 166, 3) := by decide +kernel
theorem dX10_takesNext_51 : decode cX10_takesNext 51 = .ok (.iconst 1, 1) := by decide +kernel
theorem dX10_takesNext_52 : decode cX10_takesNext 52 = .ok (.isub, 1) := by decide +kernel
theorem dX10_takesNext_53 : decode cX10_takesNext 53 = .ok (.invokevirtual 208, 3) := by decide +kernel
theorem dX10_takesNext_56 : decode cX10_takesNext 56 = .ok (.aload_n 0, 1) := by decide +kernel
theorem dX10_takesNext_57 : decode cX10_takesNext 57 = .ok (.getfield 35, 3) := by decide +kernel
theorem dX10_takesNext_60 : decode cX10_takesNext 60 = .ok (.aload_n 0, 1) := by decide +kernel
theorem dX10_takesNext_61 : decode cX10_takesNext 61 = .ok (.getfield 160, 3) := by decide +kernel
theorem dX10_takesNext_64 : decode cX10_takesNext 64 = .ok (.bipush 8, 2) := by decide +kernel
theorem dX10_takesNext_66 : decode cX10_takesNext 66 = .ok (.iadd, 1) := by decide +kernel
theorem dX10_takesNext_67 : decode cX10_takesNext 67 = .ok (.aload_n 0, 1) := by decide +kernel
theorem dX10_takesNext_68 : decode cX10_takesNext 68 = .ok (.getfield 26, 3) := by decide +kernel
theorem dX10_takesNext_71 : decode cX10_takesNext 71 = .ok (.aload_n 0, 1) := by decide +kernel
theorem dX10_takesNext_72 : decode cX10_takesNext 72 = .ok (.getfield 35, 3) := by decide +kernel
theorem dX10_takesNext_75 : decode cX10_takesNext 75 = .ok (.aload_n 0, 1) := by decide +kernel
theorem dX10_takesNext_76 : decode cX10_takesNext 76 = .ok (.getfield 160, 3) := by decide +kernel
theorem dX10_takesNext_79 : decode cX10_takesNext 79 = .ok (.bipush 8, 2) := by decide +kernel
theorem dX10_takesNext_81 : decode cX10_takesNext 81 = .ok (.iadd, 1) := by decide +kernel
theorem dX10_takesNext_82 : decode cX10_takesNext 82 = .ok (.iaload, 1) := by decide +kernel
theorem dX10_takesNext_83 : decode cX10_takesNext 83 = .ok (.iaload, 1) := by decide +kernel
theorem dX10_takesNext_84 : decode cX10_takesNext 84 = .ok (.iastore, 1) := by decide +kernel
theorem dX10_takesNext_85 : decode cX10_takesNext 85 = .ok (.aload_n 0, 1) := by decide +kernel
theorem dX10_takesNext_86 : decode cX10_takesNext 86 = .ok (.getfield 35, 3) := by decide +kernel
theorem dX10_takesNext_89 : decode cX10_takesNext 89 = .ok (.aload_n 0, 1) := by decide +kernel
theorem dX10_takesNext_90 : decode cX10_takesNext 90 = .ok (.getfield 156, 3) := by decide +kernel
theorem dX10_takesNext_93 : decode cX10_takesNext 93 = .ok (.bipush 12, 2) := by decide +kernel
theorem dX10_takesNext_95 : decode cX10_takesNext 95 = .ok (.iadd, 1) := by decide +kernel
theorem dX10_takesNext_96 : decode cX10_takesNext 96 = .ok (.iconst 1, 1) := by decide +kernel
theorem dX10_takesNext_97 : decode cX10_takesNext 97 = .ok (.iastore, 1) := by decide +kernel
theorem dX10_takesNext_98 : decode cX10_takesNext 98 = .ok (.iconst 0, 1) := by decide +kernel
theorem dX10_takesNext_99 : decode cX10_takesNext 99 = .ok (.ireturn, 1) := by decide +kernel
theorem dX10_takesNext_100 : decode cX10_takesNext 100 = .ok (.aload_n 0, 1) := by decide +kernel
theorem dX10_takesNext_101 : decode cX10_takesNext 101 = .ok (.getfield 35, 3) := by decide +kernel
theorem dX10_takesNext_104 : decode cX10_takesNext 104 = .ok (.aload_n 0, 1) := by decide +kernel
theorem dX10_takesNext_105 : decode cX10_takesNext 105 = .ok (.getfield 156, 3) := by decide +kernel
theorem dX10_takesNext_108 : decode cX10_takesNext 108 = .ok (.iconst 1, 1) := by decide +kernel
theorem dX10_takesNext_109 : decode cX10_takesNext 109 = .ok (.iadd, 1) := by decide +kernel
theorem dX10_takesNext_110 : decode cX10_takesNext 110 = .ok (.iaload, 1) := by decide +kernel
theorem dX10_takesNext_111 : decode cX10_takesNext 111 = .ok (.iconst 5, 1) := by decide +kernel
theorem dX10_takesNext_112 : decode cX10_takesNext 112 = .ok (.if_icmp .ne 54, 3) := by decide +kernel
theorem dX10_takesNext_115 : decode cX10_takesNext 115 = .ok (.aload_n 0, 1) := by decide +kernel
theorem dX10_takesNext_116 : decode cX10_takesNext 116 = .ok (.getfield 35, 3) := by decide +kernel
theorem dX10_takesNext_119 : decode cX10_takesNext 119 = .ok (.aload_n 0, 1) := by decide +kernel
theorem dX10_takesNext_120 : decode cX10_takesNext 120 = .ok (.getfield 156, 3) := by decide +kernel
theorem dX10_takesNext_123 : decode cX10_takesNext 123 = .ok (.bipush 10, 2) := by decide +kernel
theorem dX10_takesNext_125 : decode cX10_takesNext 125 = .ok (.iadd, 1) := by decide +kernel
theorem dX10_takesNext_126 : decode cX10_takesNext 126 = .ok (.iaload, 1) := by decide +kernel
theorem dX10_takesNext_127 : decode cX10_takesNext 127 = .ok (.iconst 1, 1) := by decide +kernel
theorem dX10_takesNext_128 : decode cX10_takesNext 128 = .ok (.if_icmp .ne 38, 3) := by decide +kernel
theorem dX10_takesNext_131 : decode cX10_takesNext 131 = .ok (.aload_n 0, 1) := by decide +kernel
theorem dX10_takesNext_132 : decode cX10_takesNext 132 = .ok (.getfield 35, 3) := by decide +kernel
theorem dX10_takesNext_135 : decode cX10_takesNext 135 = .ok (.aload_n 0, 1) := by decide +kernel
theorem dX10_takesNext_136 : decode cX10_takesNext 136 = .ok (.getfield 156, 3) := by decide +kernel
theorem dX10_takesNext_139 : decode cX10_takesNext 139 = .ok (.bipush 10, 2) := by decide +kernel
theorem dX10_takesNext_141 : decode cX10_takesNext 141 = .ok (.iadd, 1) := by decide +kernel
theorem dX10_takesNext_142 : decode cX10_takesNext 142 = .ok (.iconst 0, 1) := by decide +kernel
theorem dX10_takesNext_143 : decode cX10_takesNext 143 = .ok (.iastore, 1) := by decide +kernel
theorem dX10_takesNext_144 : decode cX10_takesNext 144 = .ok (.aload_n 0, 1) := by decide +kernel
theorem dX10_takesNext_145 : decode cX10_takesNext 145 = .ok (.getfield 35, 3) := by decide +kernel
theorem dX10_takesNext_148 : decode cX10_takesNext 148 = .ok (.aload_n 0, 1) := by decide +kernel
theorem dX10_takesNext_149 : decode cX10_takesNext 149 = .ok (.getfield 156, 3) := by decide +kernel
theorem dX10_takesNext_152 : decode cX10_takesNext 152 = .ok (.bipush 9, 2) := by decide +kernel
theorem dX10_takesNext_154 : decode cX10_takesNext 154 = .ok (.iadd, 1) := by decide +kernel
theorem dX10_takesNext_155 : decode cX10_takesNext 155 = .ok (.dup2, 1) := by decide +kernel
theorem dX10_takesNext_156 : decode cX10_takesNext 156 = .ok (.iaload, 1) := by decide +kernel
theorem dX10_takesNext_157 : decode cX10_takesNext 157 = .ok (.iconst 1, 1) := by decide +kernel
theorem dX10_takesNext_158 : decode cX10_takesNext 158 = .ok (.iadd, 1) := by decide +kernel
theorem dX10_takesNext_159 : decode cX10_takesNext 159 = .ok (.iastore, 1) := by decide +kernel
theorem dX10_takesNext_160 : decode cX10_takesNext 160 = .ok (.aload_n 0, 1) := by decide +kernel
theorem dX10_takesNext_161 : decode cX10_takesNext 161 = .ok (.invokevirtual 242, 3) := by decide +kernel
theorem dX10_takesNext_164 : decode cX10_takesNext 164 = .ok (.iconst 0, 1) := by decide +kernel
theorem dX10_takesNext_165 : decode cX10_takesNext 165 = .ok (.ireturn, 1) := by decide +kernel
theorem dX10_takesNext_166 : decode cX10_takesNext 166 = .ok (.iconst 3, 1) := by decide +kernel
theorem dX10_takesNext_167 : decode cX10_takesNext 167 = .ok (.ireturn, 1) := by decide +kernel
theorem dX10_startsAnew_0 : decode cX10_startsAnew 0 = .ok (.iconst 0, 1) := by decide +kernel
theorem dX10_startsAnew_1 : decode cX10_startsAnew 1 = .ok (.istore_n 1, 1) := by decide +kernel
theorem dX10_startsAnew_2 : decode cX10_startsAnew 2 = .ok (.iload_n 1, 1) := by decide +kernel
theorem dX10_startsAnew_3 : decode cX10_startsAnew 3 = .ok (.bipush 8, 2) := by decide +kernel
theorem dX10_startsAnew_5 : decode cX10_startsAnew 5 = .ok (.if_icmp .ge 21, 3) := by decide +kernel
theorem dX10_startsAnew_8 : decode cX10_startsAnew 8 = .ok (.aload_n 0, 1) := by decide +kernel
theorem dX10_startsAnew_9 : decode cX10_startsAnew 9 = .ok (.getfield 35, 3) := by decide +kernel
theorem dX10_startsAnew_12 : decode cX10_startsAnew 12 = .ok (.aload_n 0, 1) := by decide +kernel
theorem dX10_startsAnew_13 : decode cX10_startsAnew 13 = .ok (.getfield 160, 3) := by decide +kernel
theorem dX10_startsAnew_16 : decode cX10_startsAnew 16 = .ok (.iload_n 1, 1) := by decide +kernel
theorem dX10_startsAnew_17 : decode cX10_startsAnew 17 = .ok (.iadd, 1) := by decide +kernel
theorem dX10_startsAnew_18 : decode cX10_startsAnew 18 = .ok (.iconst 0, 1) := by decide +kernel
theorem dX10_startsAnew_19 : decode cX10_startsAnew 19 = .ok (.iastore, 1) := by decide +kernel
theorem dX10_startsAnew_20 : decode cX10_startsAnew 20 = .ok (.iinc 1 1, 3) := by decide +kernel
theorem dX10_startsAnew_23 : decode cX10_startsAnew 23 = .ok (.goto (-21), 3) := by decide +kernel
theorem dX10_startsAnew_26 : decode cX10_startsAnew 26 = .ok (.aload_n 0, 1) := by decide +kernel
theorem dX10_startsAnew_27 : decode cX10_startsAnew 27 = .ok (.aload_n 0, 1) := by decide +kernel
theorem dX10_startsAnew_28 : decode cX10_startsAnew 28 = .ok (.getfield 35, 3) := by decide +kernel
theorem dX10_startsAnew_31 : decode cX10_startsAnew 31 = .ok (.aload_n 0, 1) := by decide +kernel
theorem dX10_startsAnew_32 : decode cX10_startsAnew 32 = .ok (.getfield 156, 3) := by decide +kernel
theorem dX10_startsAnew_35 : decode cX10_startsAnew 35 = .ok (.iconst 2, 1) := by decide +kernel
theorem dX10_startsAnew_36 : decode cX10_startsAnew 36 = .ok (.iadd, 1) := by decide +kernel
theorem dX10_startsAnew_37 : decode cX10_startsAnew 37 = .ok (.iaload, 1) := by decide +kernel
theorem dX10_startsAnew_38 : decode cX10_startsAnew 38 = .ok (.invokevirtual 211, 3) := by decide +kernel
theorem dX10_startsAnew_41 : decode cX10_startsAnew 41 = .ok (.aload_n 0, 1) := by decide +kernel
theorem dX10_startsAnew_42 : decode cX10_startsAnew 42 = .ok (.getfield 35, 3) := by decide +kernel
theorem dX10_startsAnew_45 : decode cX10_startsAnew 45 = .ok (.aload_n 0, 1) := by decide +kernel
theorem dX10_startsAnew_46 : decode cX10_startsAnew 46 = .ok (.getfield 156, 3) := by decide +kernel
theorem dX10_startsAnew_49 : decode cX10_startsAnew 49 = .ok (.bipush 12, 2) := by decide +kernel
theorem dX10_startsAnew_51 : decode cX10_startsAnew 51 = .ok (.iadd, 1) := by decide +kernel
theorem dX10_startsAnew_52 : decode cX10_startsAnew 52 = .ok (.iconst 1, 1) := by decide +kernel
theorem dX10_startsAnew_53 : decode cX10_startsAnew 53 = .ok (.iastore, 1) := by decide +kernel
theorem dX10_startsAnew_54 : decode cX10_startsAnew 54 = .ok (.return_, 1) := by decide +kernel
theorem dX10_leavesNever_0 : decode cX10_leavesNever 0 = .ok (.aload_n 0, 1) := by decide +kernel
theorem dX10_leavesNever_1 : decode cX10_leavesNever 1 = .ok (.invokevirtual 166, 3) := by decide +kernel
theorem dX10_leavesNever_4 : decode cX10_leavesNever 4 = .ok (.istore_n 1, 1) := by decide +kernel
theorem dX10_leavesNever_5 : decode cX10_leavesNever 5 = .ok (.aload_n 0, 1) := by decide +kernel
theorem dX10_leavesNever_6 : decode cX10_leavesNever 6 = .ok (.getfield 35, 3) := by decide +kernel
theorem dX10_leavesNever_9 : decode cX10_leavesNever 9 = .ok (.aload_n 0, 1) := by decide +kernel
theorem dX10_leavesNever_10 : decode cX10_leavesNever 10 = .ok (.getfield 156, 3) := by decide +kernel
theorem dX10_leavesNever_13 : decode cX10_leavesNever 13 = .ok (.bipush 14, 2) := by decide +kernel
theorem dX10_leavesNever_15 : decode cX10_leavesNever 15 = .ok (.iadd, 1) := by decide +kernel
theorem dX10_leavesNever_16 : decode cX10_leavesNever 16 = .ok (.iaload, 1) := by decide +kernel
theorem dX10_leavesNever_17 : decode cX10_leavesNever 17 = .ok (.iconst 1, 1) := by decide +kernel
theorem dX10_leavesNever_18 : decode cX10_leavesNever 18 = .ok (.isub, 1) := by decide +kernel
theorem dX10_leavesNever_19 : decode cX10_leavesNever 19 = .ok (.istore_n 2, 1) := by decide +kernel
theorem dX10_leavesNever_20 : decode cX10_leavesNever 20 = .ok (.iload_n 2, 1) := by decide +kernel
theorem dX10_leavesNever_21 : decode cX10_leavesNever 21 = .ok (.ifCond .lt 31, 3) := by decide +kernel
theorem dX10_leavesNever_24 : decode cX10_leavesNever 24 = .ok (.aload_n 0, 1) := by decide +kernel
theorem dX10_leavesNever_25 : decode cX10_leavesNever 25 = .ok (.getfield 35, 3) := by decide +kernel
theorem dX10_leavesNever_28 : decode cX10_leavesNever 28 = .ok (.aload_n 0, 1) := by decide +kernel
theorem dX10_leavesNever_29 : decode cX10_leavesNever 29 = .ok (.iload_n 2, 1) := by decide +kernel
theorem dX10_leavesNever_30 : decode cX10_leavesNever 30 = .ok (.invokevirtual 163, 3) := by decide +kernel
theorem dX10_leavesNever_33 : decode cX10_leavesNever 33 = .ok (.bipush 45, 2) := by decide +kernel
theorem dX10_leavesNever_35 : decode cX10_leavesNever 35 = .ok (.iadd, 1) := by decide +kernel
theorem dX10_leavesNever_36 : decode cX10_leavesNever 36 = .ok (.iaload, 1) := by decide +kernel
theorem dX10_leavesNever_37 : decode cX10_leavesNever 37 = .ok (.iload_n 1, 1) := by decide +kernel
theorem dX10_leavesNever_38 : decode cX10_leavesNever 38 = .ok (.if_icmp .lt 8, 3) := by decide +kernel
theorem dX10_leavesNever_41 : decode cX10_leavesNever 41 = .ok (.aload_n 0, 1) := by decide +kernel
theorem dX10_leavesNever_42 : decode cX10_leavesNever 42 = .ok (.iload_n 2, 1) := by decide +kernel
theorem dX10_leavesNever_43 : decode cX10_leavesNever 43 = .ok (.invokevirtual 182, 3) := by decide +kernel
theorem dX10_leavesNever_46 : decode cX10_leavesNever 46 = .ok (.iinc 2 (-1), 3) := by decide +kernel
theorem dX10_leavesNever_49 : decode cX10_leavesNever 49 = .ok (.goto (-29), 3) := by decide +kernel
theorem dX10_leavesNever_52 : decode cX10_leavesNever 52 = .ok (.aload_n 0, 1) := by decide +kernel
theorem dX10_leavesNever_53 : decode cX10_leavesNever 53 = .ok (.iload_n 1, 1) := by decide +kernel
theorem dX10_leavesNever_54 : decode cX10_leavesNever 54 = .ok (.iconst 1, 1) := by decide +kernel
theorem dX10_leavesNever_55 : decode cX10_leavesNever 55 = .ok (.isub, 1) := by decide +kernel
theorem dX10_leavesNever_56 : decode cX10_leavesNever 56 = .ok (.invokevirtual 208, 3) := by decide +kernel
theorem dX10_leavesNever_59 : decode cX10_leavesNever 59 = .ok (.aload_n 0, 1) := by decide +kernel
theorem dX10_leavesNever_60 : decode cX10_leavesNever 60 = .ok (.getfield 35, 3) := by decide +kernel
theorem dX10_leavesNever_63 : decode cX10_leavesNever 63 = .ok (.aload_n 0, 1) := by decide +kernel
theorem dX10_leavesNever_64 : decode cX10_leavesNever 64 = .ok (.getfield 156, 3) := by decide +kernel
theorem dX10_leavesNever_67 : decode cX10_leavesNever 67 = .ok (.bipush 12, 2) := by decide +kernel
theorem dX10_leavesNever_69 : decode cX10_leavesNever 69 = .ok (.iadd, 1) := by decide +kernel
theorem dX10_leavesNever_70 : decode cX10_leavesNever 70 = .ok (.iconst 0, 1) := by decide +kernel
theorem dX10_leavesNever_71 : decode cX10_leavesNever 71 = .ok (.iastore, 1) := by decide +kernel
theorem dX10_leavesNever_72 : decode cX10_leavesNever 72 = .ok (.return_, 1) := by decide +kernel
theorem dX10_answers_0 : decode cX10_answers 0 = .ok (.aload_n 0, 1) := by decide +kernel
theorem dX10_answers_1 : decode cX10_answers 1 = .ok (.getfield 35, 3) := by decide +kernel
theorem dX10_answers_4 : decode cX10_answers 4 = .ok (.aload_n 0, 1) := by decide +kernel
theorem dX10_answers_5 : decode cX10_answers 5 = .ok (.getfield 156, 3) := by decide +kernel
theorem dX10_answers_8 : decode cX10_answers 8 = .ok (.bipush 12, 2) := by decide +kernel
theorem dX10_answers_10 : decode cX10_answers 10 = .ok (.iadd, 1) := by decide +kernel
theorem dX10_answers_11 : decode cX10_answers 11 = .ok (.iconst 0, 1) := by decide +kernel
theorem dX10_answers_12 : decode cX10_answers 12 = .ok (.iastore, 1) := by decide +kernel
theorem dX10_answers_13 : decode cX10_answers 13 = .ok (.aload_n 0, 1) := by decide +kernel
theorem dX10_answers_14 : decode cX10_answers 14 = .ok (.getfield 35, 3) := by decide +kernel
theorem dX10_answers_17 : decode cX10_answers 17 = .ok (.aload_n 0, 1) := by decide +kernel
theorem dX10_answers_18 : decode cX10_answers 18 = .ok (.getfield 156, 3) := by decide +kernel
theorem dX10_answers_21 : decode cX10_answers 21 = .ok (.iconst 1, 1) := by decide +kernel
theorem dX10_answers_22 : decode cX10_answers 22 = .ok (.iadd, 1) := by decide +kernel
theorem dX10_answers_23 : decode cX10_answers 23 = .ok (.iaload, 1) := by decide +kernel
theorem dX10_answers_24 : decode cX10_answers 24 = .ok (.iconst 5, 1) := by decide +kernel
theorem dX10_answers_25 : decode cX10_answers 25 = .ok (.if_icmp .ne 32, 3) := by decide +kernel
theorem dX10_answers_28 : decode cX10_answers 28 = .ok (.aload_n 0, 1) := by decide +kernel
theorem dX10_answers_29 : decode cX10_answers 29 = .ok (.getfield 35, 3) := by decide +kernel
theorem dX10_answers_32 : decode cX10_answers 32 = .ok (.aload_n 0, 1) := by decide +kernel
theorem dX10_answers_33 : decode cX10_answers 33 = .ok (.getfield 160, 3) := by decide +kernel
theorem dX10_answers_36 : decode cX10_answers 36 = .ok (.bipush 32, 2) := by decide +kernel
theorem dX10_answers_38 : decode cX10_answers 38 = .ok (.iadd, 1) := by decide +kernel
theorem dX10_answers_39 : decode cX10_answers 39 = .ok (.iaload, 1) := by decide +kernel
theorem dX10_answers_40 : decode cX10_answers 40 = .ok (.aload_n 0, 1) := by decide +kernel
theorem dX10_answers_41 : decode cX10_answers 41 = .ok (.getfield 35, 3) := by decide +kernel
theorem dX10_answers_44 : decode cX10_answers 44 = .ok (.aload_n 0, 1) := by decide +kernel
theorem dX10_answers_45 : decode cX10_answers 45 = .ok (.getfield 156, 3) := by decide +kernel
theorem dX10_answers_48 : decode cX10_answers 48 = .ok (.bipush 9, 2) := by decide +kernel
theorem dX10_answers_50 : decode cX10_answers 50 = .ok (.iadd, 1) := by decide +kernel
theorem dX10_answers_51 : decode cX10_answers 51 = .ok (.iaload, 1) := by decide +kernel
theorem dX10_answers_52 : decode cX10_answers 52 = .ok (.if_icmp .eq 5, 3) := by decide +kernel
theorem dX10_answers_55 : decode cX10_answers 55 = .ok (.iconst 0, 1) := by decide +kernel
theorem dX10_answers_56 : decode cX10_answers 56 = .ok (.ireturn, 1) := by decide +kernel
theorem dX10_answers_57 : decode cX10_answers 57 = .ok (.aload_n 0, 1) := by decide +kernel
theorem dX10_answers_58 : decode cX10_answers 58 = .ok (.getfield 35, 3) := by decide +kernel
theorem dX10_answers_61 : decode cX10_answers 61 = .ok (.aload_n 0, 1) := by decide +kernel
theorem dX10_answers_62 : decode cX10_answers 62 = .ok (.getfield 156, 3) := by decide +kernel
theorem dX10_answers_65 : decode cX10_answers 65 = .ok (.bipush 15, 2) := by decide +kernel
theorem dX10_answers_67 : decode cX10_answers 67 = .ok (.iadd, 1) := by decide +kernel
theorem dX10_answers_68 : decode cX10_answers 68 = .ok (.iaload, 1) := by decide +kernel
theorem dX10_answers_69 : decode cX10_answers 69 = .ok (.bipush 60, 2) := by decide +kernel
theorem dX10_answers_71 : decode cX10_answers 71 = .ok (.if_icmp .ne 5, 3) := by decide +kernel
theorem dX10_answers_74 : decode cX10_answers 74 = .ok (.iconst 5, 1) := by decide +kernel
theorem dX10_answers_75 : decode cX10_answers 75 = .ok (.ireturn, 1) := by decide +kernel
theorem dX10_answers_76 : decode cX10_answers 76 = .ok (.aload_n 0, 1) := by decide +kernel
theorem dX10_answers_77 : decode cX10_answers 77 = .ok (.getfield 156, 3) := by decide +kernel
theorem dX10_answers_80 : decode cX10_answers 80 = .ok (.sipush 3129, 3) := by decide +kernel
theorem dX10_answers_83 : decode cX10_answers 83 = .ok (.iadd, 1) := by decide +kernel
theorem dX10_answers_84 : decode cX10_answers 84 = .ok (.bipush 12, 2) := by decide +kernel
theorem dX10_answers_86 : decode cX10_answers 86 = .ok (.aload_n 0, 1) := by decide +kernel
theorem dX10_answers_87 : decode cX10_answers 87 = .ok (.getfield 35, 3) := by decide +kernel
theorem dX10_answers_90 : decode cX10_answers 90 = .ok (.aload_n 0, 1) := by decide +kernel
theorem dX10_answers_91 : decode cX10_answers 91 = .ok (.getfield 156, 3) := by decide +kernel
theorem dX10_answers_94 : decode cX10_answers 94 = .ok (.bipush 15, 2) := by decide +kernel
theorem dX10_answers_96 : decode cX10_answers 96 = .ok (.iadd, 1) := by decide +kernel
theorem dX10_answers_97 : decode cX10_answers 97 = .ok (.iaload, 1) := by decide +kernel
theorem dX10_answers_98 : decode cX10_answers 98 = .ok (.imul, 1) := by decide +kernel
theorem dX10_answers_99 : decode cX10_answers 99 = .ok (.iadd, 1) := by decide +kernel
theorem dX10_answers_100 : decode cX10_answers 100 = .ok (.istore_n 1, 1) := by decide +kernel
theorem dX10_answers_101 : decode cX10_answers 101 = .ok (.aload_n 0, 1) := by decide +kernel
theorem dX10_answers_102 : decode cX10_answers 102 = .ok (.getfield 35, 3) := by decide +kernel
theorem dX10_answers_105 : decode cX10_answers 105 = .ok (.aload_n 0, 1) := by decide +kernel
theorem dX10_answers_106 : decode cX10_answers 106 = .ok (.getfield 160, 3) := by decide +kernel
theorem dX10_answers_109 : decode cX10_answers 109 = .ok (.aload_n 0, 1) := by decide +kernel
theorem dX10_answers_110 : decode cX10_answers 110 = .ok (.getfield 35, 3) := by decide +kernel
theorem dX10_answers_113 : decode cX10_answers 113 = .ok (.iload_n 1, 1) := by decide +kernel
theorem dX10_answers_114 : decode cX10_answers 114 = .ok (.bipush 8, 2) := by decide +kernel
theorem dX10_answers_116 : decode cX10_answers 116 = .ok (.invokestatic 173, 3) := by decide +kernel
theorem dX10_answers_119 : decode cX10_answers 119 = .ok (.aload_n 0, 1) := by decide +kernel
theorem dX10_answers_120 : decode cX10_answers 120 = .ok (.getfield 35, 3) := by decide +kernel
theorem dX10_answers_123 : decode cX10_answers 123 = .ok (.iload_n 1, 1) := by decide +kernel
theorem dX10_answers_124 : decode cX10_answers 124 = .ok (.bipush 8, 2) := by decide +kernel
theorem dX10_answers_126 : decode cX10_answers 126 = .ok (.iadd, 1) := by decide +kernel
theorem dX10_answers_127 : decode cX10_answers 127 = .ok (.aload_n 0, 1) := by decide +kernel
theorem dX10_answers_128 : decode cX10_answers 128 = .ok (.getfield 35, 3) := by decide +kernel
theorem dX10_answers_131 : decode cX10_answers 131 = .ok (.aload_n 0, 1) := by decide +kernel
theorem dX10_answers_132 : decode cX10_answers 132 = .ok (.getfield 160, 3) := by decide +kernel
theorem dX10_answers_135 : decode cX10_answers 135 = .ok (.bipush 32, 2) := by decide +kernel
theorem dX10_answers_137 : decode cX10_answers 137 = .ok (.iadd, 1) := by decide +kernel
theorem dX10_answers_138 : decode cX10_answers 138 = .ok (.iaload, 1) := by decide +kernel
theorem dX10_answers_139 : decode cX10_answers 139 = .ok (.iastore, 1) := by decide +kernel
theorem dX10_answers_140 : decode cX10_answers 140 = .ok (.aload_n 0, 1) := by decide +kernel
theorem dX10_answers_141 : decode cX10_answers 141 = .ok (.getfield 35, 3) := by decide +kernel
theorem dX10_answers_144 : decode cX10_answers 144 = .ok (.iload_n 1, 1) := by decide +kernel
theorem dX10_answers_145 : decode cX10_answers 145 = .ok (.bipush 9, 2) := by decide +kernel
theorem dX10_answers_147 : decode cX10_answers 147 = .ok (.iadd, 1) := by decide +kernel
theorem dX10_answers_148 : decode cX10_answers 148 = .ok (.aload_n 0, 1) := by decide +kernel
theorem dX10_answers_149 : decode cX10_answers 149 = .ok (.getfield 35, 3) := by decide +kernel
theorem dX10_answers_152 : decode cX10_answers 152 = .ok (.aload_n 0, 1) := by decide +kernel
theorem dX10_answers_153 : decode cX10_answers 153 = .ok (.getfield 160, 3) := by decide +kernel
theorem dX10_answers_156 : decode cX10_answers 156 = .ok (.bipush 33, 2) := by decide +kernel
theorem dX10_answers_158 : decode cX10_answers 158 = .ok (.iadd, 1) := by decide +kernel
theorem dX10_answers_159 : decode cX10_answers 159 = .ok (.iaload, 1) := by decide +kernel
theorem dX10_answers_160 : decode cX10_answers 160 = .ok (.iastore, 1) := by decide +kernel
theorem dX10_answers_161 : decode cX10_answers 161 = .ok (.aload_n 0, 1) := by decide +kernel
theorem dX10_answers_162 : decode cX10_answers 162 = .ok (.getfield 35, 3) := by decide +kernel
theorem dX10_answers_165 : decode cX10_answers 165 = .ok (.iload_n 1, 1) := by decide +kernel
theorem dX10_answers_166 : decode cX10_answers 166 = .ok (.bipush 10, 2) := by decide +kernel
theorem dX10_answers_168 : decode cX10_answers 168 = .ok (.iadd, 1) := by decide +kernel
theorem dX10_answers_169 : decode cX10_answers 169 = .ok (.aload_n 0, 1) := by decide +kernel
theorem dX10_answers_170 : decode cX10_answers 170 = .ok (.aload_n 0, 1) := by decide +kernel
theorem dX10_answers_171 : decode cX10_answers 171 = .ok (.getfield 160, 3) := by decide +kernel
theorem dX10_answers_174 : decode cX10_answers 174 = .ok (.invokevirtual 223, 3) := by decide +kernel
theorem dX10_answers_177 : decode cX10_answers 177 = .ok (.iastore, 1) := by decide +kernel
theorem dX10_answers_178 : decode cX10_answers 178 = .ok (.aload_n 0, 1) := by decide +kernel
theorem dX10_answers_179 : decode cX10_answers 179 = .ok (.getfield 35, 3) := by decide +kernel
theorem dX10_answers_182 : decode cX10_answers 182 = .ok (.iload_n 1, 1) := by decide +kernel
theorem dX10_answers_183 : decode cX10_answers 183 = .ok (.bipush 11, 2) := by decide +kernel
theorem dX10_answers_185 : decode cX10_answers 185 = .ok (.iadd, 1) := by decide +kernel
theorem dX10_answers_186 : decode cX10_answers 186 = .ok (.aload_n 0, 1) := by decide +kernel
theorem dX10_answers_187 : decode cX10_answers 187 = .ok (.getfield 35, 3) := by decide +kernel
theorem dX10_answers_190 : decode cX10_answers 190 = .ok (.aload_n 0, 1) := by decide +kernel
theorem dX10_answers_191 : decode cX10_answers 191 = .ok (.getfield 156, 3) := by decide +kernel
theorem dX10_answers_194 : decode cX10_answers 194 = .ok (.iconst 4, 1) := by decide +kernel
theorem dX10_answers_195 : decode cX10_answers 195 = .ok (.iadd, 1) := by decide +kernel
theorem dX10_answers_196 : decode cX10_answers 196 = .ok (.iaload, 1) := by decide +kernel
theorem dX10_answers_197 : decode cX10_answers 197 = .ok (.iastore, 1) := by decide +kernel
theorem dX10_answers_198 : decode cX10_answers 198 = .ok (.aload_n 0, 1) := by decide +kernel
theorem dX10_answers_199 : decode cX10_answers 199 = .ok (.getfield 35, 3) := by decide +kernel
theorem dX10_answers_202 : decode cX10_answers 202 = .ok (.aload_n 0, 1) := by decide +kernel
theorem dX10_answers_203 : decode cX10_answers 203 = .ok (.getfield 156, 3) := by decide +kernel
theorem dX10_answers_206 : decode cX10_answers 206 = .ok (.bipush 15, 2) := by decide +kernel
theorem dX10_answers_208 : decode cX10_answers 208 = .ok (.iadd, 1) := by decide +kernel
theorem dX10_answers_209 : decode cX10_answers 209 = .ok (.dup2, 1) := by decide +kernel
theorem dX10_answers_210 : decode cX10_answers 210 = .ok (.iaload, 1) := by decide +kernel
theorem dX10_answers_211 : decode cX10_answers 211 = .ok (.iconst 1, 1) := by decide +kernel
theorem dX10_answers_212 : decode cX10_answers 212 = .ok (.iadd, 1) := by decide +kernel
theorem dX10_answers_213 : decode cX10_answers 213 = .ok (.iastore, 1) := by decide +kernel
theorem dX10_answers_214 : decode cX10_answers 214 = .ok (.iconst 1, 1) := by decide +kernel
theorem dX10_answers_215 : decode cX10_answers 215 = .ok (.ireturn, 1) := by decide +kernel
theorem dX10_goesOnce_0 : decode cX10_goesOnce 0 = .ok (.aload_n 0, 1) := by decide +kernel
theorem dX10_goesOnce_1 : decode cX10_goesOnce 1 = .ok (.getfield 35, 3) := by decide +kernel
theorem dX10_goesOnce_4 : decode cX10_goesOnce 4 = .ok (.aload_n 0, 1) := by decide +kernel
theorem dX10_goesOnce_5 : decode cX10_goesOnce 5 = .ok (.getfield 156, 3) := by decide +kernel
theorem dX10_goesOnce_8 : decode cX10_goesOnce 8 = .ok (.bipush 12, 2) := by decide +kernel
theorem dX10_goesOnce_10 : decode cX10_goesOnce 10 = .ok (.iadd, 1) := by decide +kernel
theorem dX10_goesOnce_11 : decode cX10_goesOnce 11 = .ok (.iaload, 1) := by decide +kernel
theorem dX10_goesOnce_12 : decode cX10_goesOnce 12 = .ok (.ifCond .ne 8, 3) := by decide +kernel
theorem dX10_goesOnce_15 : decode cX10_goesOnce 15 = .ok (.aload_n 0, 1) := by decide +kernel
theorem dX10_goesOnce_16 : decode cX10_goesOnce 16 = .ok (.invokevirtual 245, 3) := by decide +kernel
theorem dX10_goesOnce_19 : decode cX10_goesOnce 19 = .ok (.ireturn, 1) := by decide +kernel
theorem dX10_goesOnce_20 : decode cX10_goesOnce 20 = .ok (.aload_n 0, 1) := by decide +kernel
theorem dX10_goesOnce_21 : decode cX10_goesOnce 21 = .ok (.invokevirtual 248, 3) := by decide +kernel
theorem dX10_goesOnce_24 : decode cX10_goesOnce 24 = .ok (.istore_n 1, 1) := by decide +kernel
theorem dX10_goesOnce_25 : decode cX10_goesOnce 25 = .ok (.iload_n 1, 1) := by decide +kernel
theorem dX10_goesOnce_26 : decode cX10_goesOnce 26 = .ok (.bipush 6, 2) := by decide +kernel
theorem dX10_goesOnce_28 : decode cX10_goesOnce 28 = .ok (.if_icmp .ne 18, 3) := by decide +kernel
theorem dX10_goesOnce_31 : decode cX10_goesOnce 31 = .ok (.aload_n 0, 1) := by decide +kernel
theorem dX10_goesOnce_32 : decode cX10_goesOnce 32 = .ok (.getfield 35, 3) := by decide +kernel
theorem dX10_goesOnce_35 : decode cX10_goesOnce 35 = .ok (.aload_n 0, 1) := by decide +kernel
theorem dX10_goesOnce_36 : decode cX10_goesOnce 36 = .ok (.getfield 156, 3) := by decide +kernel
theorem dX10_goesOnce_39 : decode cX10_goesOnce 39 = .ok (.bipush 12, 2) := by decide +kernel
theorem dX10_goesOnce_41 : decode cX10_goesOnce 41 = .ok (.iadd, 1) := by decide +kernel
theorem dX10_goesOnce_42 : decode cX10_goesOnce 42 = .ok (.iconst 0, 1) := by decide +kernel
theorem dX10_goesOnce_43 : decode cX10_goesOnce 43 = .ok (.iastore, 1) := by decide +kernel
theorem dX10_goesOnce_44 : decode cX10_goesOnce 44 = .ok (.iconst 0, 1) := by decide +kernel
theorem dX10_goesOnce_45 : decode cX10_goesOnce 45 = .ok (.ireturn, 1) := by decide +kernel
theorem dX10_goesOnce_46 : decode cX10_goesOnce 46 = .ok (.iload_n 1, 1) := by decide +kernel
theorem dX10_goesOnce_47 : decode cX10_goesOnce 47 = .ok (.bipush 7, 2) := by decide +kernel
theorem dX10_goesOnce_49 : decode cX10_goesOnce 49 = .ok (.if_icmp .eq 5, 3) := by decide +kernel
theorem dX10_goesOnce_52 : decode cX10_goesOnce 52 = .ok (.iload_n 1, 1) := by decide +kernel
theorem dX10_goesOnce_53 : decode cX10_goesOnce 53 = .ok (.ireturn, 1) := by decide +kernel
theorem dX10_goesOnce_54 : decode cX10_goesOnce 54 = .ok (.aload_n 0, 1) := by decide +kernel
theorem dX10_goesOnce_55 : decode cX10_goesOnce 55 = .ok (.invokevirtual 166, 3) := by decide +kernel
theorem dX10_goesOnce_58 : decode cX10_goesOnce 58 = .ok (.ifCond .le 9, 3) := by decide +kernel
theorem dX10_goesOnce_61 : decode cX10_goesOnce 61 = .ok (.aload_n 0, 1) := by decide +kernel
theorem dX10_goesOnce_62 : decode cX10_goesOnce 62 = .ok (.invokevirtual 251, 3) := by decide +kernel
theorem dX10_goesOnce_65 : decode cX10_goesOnce 65 = .ok (.iconst 0, 1) := by decide +kernel
theorem dX10_goesOnce_66 : decode cX10_goesOnce 66 = .ok (.ireturn, 1) := by decide +kernel
theorem dX10_goesOnce_67 : decode cX10_goesOnce 67 = .ok (.aload_n 0, 1) := by decide +kernel
theorem dX10_goesOnce_68 : decode cX10_goesOnce 68 = .ok (.invokevirtual 254, 3) := by decide +kernel
theorem dX10_goesOnce_71 : decode cX10_goesOnce 71 = .ok (.ireturn, 1) := by decide +kernel
theorem dX10_goes_0 : decode cX10_goes 0 = .ok (.iconst 0, 1) := by decide +kernel
theorem dX10_goes_1 : decode cX10_goes 1 = .ok (.istore_n 1, 1) := by decide +kernel
theorem dX10_goes_2 : decode cX10_goes 2 = .ok (.iload_n 1, 1) := by decide +kernel
theorem dX10_goes_3 : decode cX10_goes 3 = .ok (.ifCond .ne 11, 3) := by decide +kernel
theorem dX10_goes_6 : decode cX10_goes 6 = .ok (.aload_n 0, 1) := by decide +kernel
theorem dX10_goes_7 : decode cX10_goes 7 = .ok (.invokevirtual 257, 3) := by decide +kernel
theorem dX10_goes_10 : decode cX10_goes 10 = .ok (.istore_n 1, 1) := by decide +kernel
theorem dX10_goes_11 : decode cX10_goes 11 = .ok (.goto (-9), 3) := by decide +kernel
theorem dX10_goes_14 : decode cX10_goes 14 = .ok (.iload_n 1, 1) := by decide +kernel
theorem dX10_goes_15 : decode cX10_goes 15 = .ok (.iconst 2, 1) := by decide +kernel
theorem dX10_goes_16 : decode cX10_goes 16 = .ok (.if_icmp .le 28, 3) := by decide +kernel
theorem dX10_goes_19 : decode cX10_goes 19 = .ok (.aload_n 0, 1) := by decide +kernel
theorem dX10_goes_20 : decode cX10_goes 20 = .ok (.getfield 35, 3) := by decide +kernel
theorem dX10_goes_23 : decode cX10_goes 23 = .ok (.aload_n 0, 1) := by decide +kernel
theorem dX10_goes_24 : decode cX10_goes 24 = .ok (.getfield 156, 3) := by decide +kernel
theorem dX10_goes_27 : decode cX10_goes 27 = .ok (.iconst 0, 1) := by decide +kernel
theorem dX10_goes_28 : decode cX10_goes 28 = .ok (.iadd, 1) := by decide +kernel
theorem dX10_goes_29 : decode cX10_goes 29 = .ok (.iconst 2, 1) := by decide +kernel
theorem dX10_goes_30 : decode cX10_goes 30 = .ok (.iastore, 1) := by decide +kernel
theorem dX10_goes_31 : decode cX10_goes 31 = .ok (.aload_n 0, 1) := by decide +kernel
theorem dX10_goes_32 : decode cX10_goes 32 = .ok (.getfield 35, 3) := by decide +kernel
theorem dX10_goes_35 : decode cX10_goes 35 = .ok (.aload_n 0, 1) := by decide +kernel
theorem dX10_goes_36 : decode cX10_goes 36 = .ok (.getfield 156, 3) := by decide +kernel
theorem dX10_goes_39 : decode cX10_goes 39 = .ok (.bipush 12, 2) := by decide +kernel
theorem dX10_goes_41 : decode cX10_goes 41 = .ok (.iadd, 1) := by decide +kernel
theorem dX10_goes_42 : decode cX10_goes 42 = .ok (.iconst 0, 1) := by decide +kernel
theorem dX10_goes_43 : decode cX10_goes 43 = .ok (.iastore, 1) := by decide +kernel
theorem dX10_goes_44 : decode cX10_goes 44 = .ok (.iload_n 1, 1) := by decide +kernel
theorem dX10_goes_45 : decode cX10_goes 45 = .ok (.ireturn, 1) := by decide +kernel
theorem dX10_choosesSearch_0 : decode cX10_choosesSearch 0 = .ok (.aload_n 0, 1) := by decide +kernel
theorem dX10_choosesSearch_1 : decode cX10_choosesSearch 1 = .ok (.sipush 3849, 3) := by decide +kernel
theorem dX10_choosesSearch_4 : decode cX10_choosesSearch 4 = .ok (.iload_n 1, 1) := by decide +kernel
theorem dX10_choosesSearch_5 : decode cX10_choosesSearch 5 = .ok (.imul, 1) := by decide +kernel
theorem dX10_choosesSearch_6 : decode cX10_choosesSearch 6 = .ok (.putfield 156, 3) := by decide +kernel
theorem dX10_choosesSearch_9 : decode cX10_choosesSearch 9 = .ok (.aload_n 0, 1) := by decide +kernel
theorem dX10_choosesSearch_10 : decode cX10_choosesSearch 10 = .ok (.aload_n 0, 1) := by decide +kernel
theorem dX10_choosesSearch_11 : decode cX10_choosesSearch 11 = .ok (.getfield 156, 3) := by decide +kernel
theorem dX10_choosesSearch_14 : decode cX10_choosesSearch 14 = .ok (.bipush 17, 2) := by decide +kernel
theorem dX10_choosesSearch_16 : decode cX10_choosesSearch 16 = .ok (.iadd, 1) := by decide +kernel
theorem dX10_choosesSearch_17 : decode cX10_choosesSearch 17 = .ok (.bipush 35, 2) := by decide +kernel
theorem dX10_choosesSearch_19 : decode cX10_choosesSearch 19 = .ok (.aload_n 0, 1) := by decide +kernel
theorem dX10_choosesSearch_20 : decode cX10_choosesSearch 20 = .ok (.invokevirtual 166, 3) := by decide +kernel
theorem dX10_choosesSearch_23 : decode cX10_choosesSearch 23 = .ok (.imul, 1) := by decide +kernel
theorem dX10_choosesSearch_24 : decode cX10_choosesSearch 24 = .ok (.iadd, 1) := by decide +kernel
theorem dX10_choosesSearch_25 : decode cX10_choosesSearch 25 = .ok (.putfield 160, 3) := by decide +kernel
theorem dX10_choosesSearch_28 : decode cX10_choosesSearch 28 = .ok (.return_, 1) := by decide +kernel
theorem dX10_isSearch_0 : decode cX10_isSearch 0 = .ok (.iload_n 0, 1) := by decide +kernel
theorem dX10_isSearch_1 : decode cX10_isSearch 1 = .ok (.i2l, 1) := by decide +kernel
theorem dX10_isSearch_2 : decode cX10_isSearch 2 = .ok (.lconst 0, 1) := by decide +kernel
theorem dX10_isSearch_3 : decode cX10_isSearch 3 = .ok (.ldc2_w 137, 3) := by decide +kernel
theorem dX10_isSearch_6 : decode cX10_isSearch 6 = .ok (.invokestatic 43, 3) := by decide +kernel
theorem dX10_isSearch_9 : decode cX10_isSearch 9 = .ok (.ireturn, 1) := by decide +kernel
theorem dX10_isNone_0 : decode cX10_isNone 0 = .ok (.aload_n 0, 1) := by decide +kernel
theorem dX10_isNone_1 : decode cX10_isNone 1 = .ok (.getfield 35, 3) := by decide +kernel
theorem dX10_isNone_4 : decode cX10_isNone 4 = .ok (.sipush 3849, 3) := by decide +kernel
theorem dX10_isNone_7 : decode cX10_isNone 7 = .ok (.iload_n 1, 1) := by decide +kernel
theorem dX10_isNone_8 : decode cX10_isNone 8 = .ok (.imul, 1) := by decide +kernel
theorem dX10_isNone_9 : decode cX10_isNone 9 = .ok (.iconst 0, 1) := by decide +kernel
theorem dX10_isNone_10 : decode cX10_isNone 10 = .ok (.iadd, 1) := by decide +kernel
theorem dX10_isNone_11 : decode cX10_isNone 11 = .ok (.iaload, 1) := by decide +kernel
theorem dX10_isNone_12 : decode cX10_isNone 12 = .ok (.ifCond .ne 7, 3) := by decide +kernel
theorem dX10_isNone_15 : decode cX10_isNone 15 = .ok (.iconst 1, 1) := by decide +kernel
theorem dX10_isNone_16 : decode cX10_isNone 16 = .ok (.goto 4, 3) := by decide +kernel
theorem dX10_isNone_19 : decode cX10_isNone 19 = .ok (.iconst 0, 1) := by decide +kernel
theorem dX10_isNone_20 : decode cX10_isNone 20 = .ok (.ireturn, 1) := by decide +kernel
theorem dX10_begin_0 : decode cX10_begin 0 = .ok (.iload_n 1, 1) := by decide +kernel
theorem dX10_begin_1 : decode cX10_begin 1 = .ok (.invokestatic 260, 3) := by decide +kernel
theorem dX10_begin_4 : decode cX10_begin 4 = .ok (.ifCond .eq 15, 3) := by decide +kernel
theorem dX10_begin_7 : decode cX10_begin 7 = .ok (.iload_n 3, 1) := by decide +kernel
theorem dX10_begin_8 : decode cX10_begin 8 = .ok (.i2l, 1) := by decide +kernel
theorem dX10_begin_9 : decode cX10_begin 9 = .ok (.lconst 0, 1) := by decide +kernel
theorem dX10_begin_10 : decode cX10_begin 10 = .ok (.ldc2_w 263, 3) := by decide +kernel
theorem dX10_begin_13 : decode cX10_begin 13 = .ok (.invokestatic 43, 3) := by decide +kernel
theorem dX10_begin_16 : decode cX10_begin 16 = .ok (.ifCond .ne 7, 3) := by decide +kernel
theorem dX10_begin_19 : decode cX10_begin 19 = .ok (.sipush (-2001), 3) := by decide +kernel
theorem dX10_begin_22 : decode cX10_begin 22 = .ok (.ireturn, 1) := by decide +kernel
theorem dX10_begin_23 : decode cX10_begin 23 = .ok (.iload_n 2, 1) := by decide +kernel
theorem dX10_begin_24 : decode cX10_begin 24 = .ok (.i2l, 1) := by decide +kernel
theorem dX10_begin_25 : decode cX10_begin 25 = .ok (.lconst 0, 1) := by decide +kernel
theorem dX10_begin_26 : decode cX10_begin 26 = .ok (.ldc2_w 137, 3) := by decide +kernel
theorem dX10_begin_29 : decode cX10_begin 29 = .ok (.invokestatic 43, 3) := by decide +kernel
theorem dX10_begin_32 : decode cX10_begin 32 = .ok (.ifCond .eq 13, 3) := by decide +kernel
theorem dX10_begin_35 : decode cX10_begin 35 = .ok (.aload_n 0, 1) := by decide +kernel
theorem dX10_begin_36 : decode cX10_begin 36 = .ok (.getfield 29, 3) := by decide +kernel
theorem dX10_begin_39 : decode cX10_begin 39 = .ok (.iload_n 2, 1) := by decide +kernel
theorem dX10_begin_40 : decode cX10_begin 40 = .ok (.iaload, 1) := by decide +kernel
theorem dX10_begin_41 : decode cX10_begin 41 = .ok (.iconst (-1), 1) := by decide +kernel
theorem dX10_begin_42 : decode cX10_begin 42 = .ok (.if_icmp .ne 7, 3) := by decide +kernel
theorem dX10_begin_45 : decode cX10_begin 45 = .ok (.sipush (-2003), 3) := by decide +kernel
theorem dX10_begin_48 : decode cX10_begin 48 = .ok (.ireturn, 1) := by decide +kernel
theorem dX10_begin_49 : decode cX10_begin 49 = .ok (.sipush 3849, 3) := by decide +kernel
theorem dX10_begin_52 : decode cX10_begin 52 = .ok (.iload_n 1, 1) := by decide +kernel
theorem dX10_begin_53 : decode cX10_begin 53 = .ok (.imul, 1) := by decide +kernel
theorem dX10_begin_54 : decode cX10_begin 54 = .ok (.istore 4, 2) := by decide +kernel
theorem dX10_begin_56 : decode cX10_begin 56 = .ok (.iload 4, 2) := by decide +kernel
theorem dX10_begin_58 : decode cX10_begin 58 = .ok (.sipush 3849, 3) := by decide +kernel
theorem dX10_begin_61 : decode cX10_begin 61 = .ok (.iload_n 1, 1) := by decide +kernel
theorem dX10_begin_62 : decode cX10_begin 62 = .ok (.imul, 1) := by decide +kernel
theorem dX10_begin_63 : decode cX10_begin 63 = .ok (.bipush 17, 2) := by decide +kernel
theorem dX10_begin_65 : decode cX10_begin 65 = .ok (.iadd, 1) := by decide +kernel
theorem dX10_begin_66 : decode cX10_begin 66 = .ok (.if_icmp .ge 17, 3) := by decide +kernel
theorem dX10_begin_69 : decode cX10_begin 69 = .ok (.aload_n 0, 1) := by decide +kernel
theorem dX10_begin_70 : decode cX10_begin 70 = .ok (.getfield 35, 3) := by decide +kernel
theorem dX10_begin_73 : decode cX10_begin 73 = .ok (.iload 4, 2) := by decide +kernel
theorem dX10_begin_75 : decode cX10_begin 75 = .ok (.iconst 0, 1) := by decide +kernel
theorem dX10_begin_76 : decode cX10_begin 76 = .ok (.iastore, 1) := by decide +kernel
theorem dX10_begin_77 : decode cX10_begin 77 = .ok (.iinc 4 1, 3) := by decide +kernel
theorem dX10_begin_80 : decode cX10_begin 80 = .ok (.goto (-24), 3) := by decide +kernel
theorem dX10_begin_83 : decode cX10_begin 83 = .ok (.aload_n 0, 1) := by decide +kernel
theorem dX10_begin_84 : decode cX10_begin 84 = .ok (.iload_n 1, 1) := by decide +kernel
theorem dX10_begin_85 : decode cX10_begin 85 = .ok (.invokevirtual 265, 3) := by decide +kernel
theorem dX10_begin_88 : decode cX10_begin 88 = .ok (.aload_n 0, 1) := by decide +kernel
theorem dX10_begin_89 : decode cX10_begin 89 = .ok (.getfield 35, 3) := by decide +kernel
theorem dX10_begin_92 : decode cX10_begin 92 = .ok (.aload_n 0, 1) := by decide +kernel
theorem dX10_begin_93 : decode cX10_begin 93 = .ok (.getfield 156, 3) := by decide +kernel
theorem dX10_begin_96 : decode cX10_begin 96 = .ok (.iconst 0, 1) := by decide +kernel
theorem dX10_begin_97 : decode cX10_begin 97 = .ok (.iadd, 1) := by decide +kernel
theorem dX10_begin_98 : decode cX10_begin 98 = .ok (.iconst 1, 1) := by decide +kernel
theorem dX10_begin_99 : decode cX10_begin 99 = .ok (.iastore, 1) := by decide +kernel
theorem dX10_begin_100 : decode cX10_begin 100 = .ok (.aload_n 0, 1) := by decide +kernel
theorem dX10_begin_101 : decode cX10_begin 101 = .ok (.getfield 35, 3) := by decide +kernel
theorem dX10_begin_104 : decode cX10_begin 104 = .ok (.aload_n 0, 1) := by decide +kernel
theorem dX10_begin_105 : decode cX10_begin 105 = .ok (.getfield 156, 3) := by decide +kernel
theorem dX10_begin_108 : decode cX10_begin 108 = .ok (.iconst 1, 1) := by decide +kernel
theorem dX10_begin_109 : decode cX10_begin 109 = .ok (.iadd, 1) := by decide +kernel
theorem dX10_begin_110 : decode cX10_begin 110 = .ok (.iload_n 3, 1) := by decide +kernel
theorem dX10_begin_111 : decode cX10_begin 111 = .ok (.iastore, 1) := by decide +kernel
theorem dX10_begin_112 : decode cX10_begin 112 = .ok (.aload_n 0, 1) := by decide +kernel
theorem dX10_begin_113 : decode cX10_begin 113 = .ok (.getfield 35, 3) := by decide +kernel
theorem dX10_begin_116 : decode cX10_begin 116 = .ok (.aload_n 0, 1) := by decide +kernel
theorem dX10_begin_117 : decode cX10_begin 117 = .ok (.getfield 156, 3) := by decide +kernel
theorem dX10_begin_120 : decode cX10_begin 120 = .ok (.iconst 2, 1) := by decide +kernel
theorem dX10_begin_121 : decode cX10_begin 121 = .ok (.iadd, 1) := by decide +kernel
theorem dX10_begin_122 : decode cX10_begin 122 = .ok (.aload_n 0, 1) := by decide +kernel
theorem dX10_begin_123 : decode cX10_begin 123 = .ok (.getfield 29, 3) := by decide +kernel
theorem dX10_begin_126 : decode cX10_begin 126 = .ok (.iload_n 2, 1) := by decide +kernel
theorem dX10_begin_127 : decode cX10_begin 127 = .ok (.iaload, 1) := by decide +kernel
theorem dX10_begin_128 : decode cX10_begin 128 = .ok (.iastore, 1) := by decide +kernel
theorem dX10_begin_129 : decode cX10_begin 129 = .ok (.aload_n 0, 1) := by decide +kernel
theorem dX10_begin_130 : decode cX10_begin 130 = .ok (.getfield 35, 3) := by decide +kernel
theorem dX10_begin_133 : decode cX10_begin 133 = .ok (.aload_n 0, 1) := by decide +kernel
theorem dX10_begin_134 : decode cX10_begin 134 = .ok (.getfield 156, 3) := by decide +kernel
theorem dX10_begin_137 : decode cX10_begin 137 = .ok (.iconst 3, 1) := by decide +kernel
theorem dX10_begin_138 : decode cX10_begin 138 = .ok (.iadd, 1) := by decide +kernel
theorem dX10_begin_139 : decode cX10_begin 139 = .ok (.aload_n 0, 1) := by decide +kernel
theorem dX10_begin_140 : decode cX10_begin 140 = .ok (.getfield 32, 3) := by decide +kernel
theorem dX10_begin_143 : decode cX10_begin 143 = .ok (.iload_n 2, 1) := by decide +kernel
theorem dX10_begin_144 : decode cX10_begin 144 = .ok (.iaload, 1) := by decide +kernel
theorem dX10_begin_145 : decode cX10_begin 145 = .ok (.iastore, 1) := by decide +kernel
theorem dX10_begin_146 : decode cX10_begin 146 = .ok (.aload_n 0, 1) := by decide +kernel
theorem dX10_begin_147 : decode cX10_begin 147 = .ok (.invokevirtual 242, 3) := by decide +kernel
theorem dX10_begin_150 : decode cX10_begin 150 = .ok (.iconst 1, 1) := by decide +kernel
theorem dX10_begin_151 : decode cX10_begin 151 = .ok (.ireturn, 1) := by decide +kernel
theorem dX10_go_0 : decode cX10_go 0 = .ok (.iload_n 1, 1) := by decide +kernel
theorem dX10_go_1 : decode cX10_go 1 = .ok (.invokestatic 260, 3) := by decide +kernel
theorem dX10_go_4 : decode cX10_go 4 = .ok (.ifCond .eq 15, 3) := by decide +kernel
theorem dX10_go_7 : decode cX10_go 7 = .ok (.iload_n 2, 1) := by decide +kernel
theorem dX10_go_8 : decode cX10_go 8 = .ok (.i2l, 1) := by decide +kernel
theorem dX10_go_9 : decode cX10_go 9 = .ok (.lconst 1, 1) := by decide +kernel
theorem dX10_go_10 : decode cX10_go 10 = .ok (.ldc2_w 268, 3) := by decide +kernel
theorem dX10_go_13 : decode cX10_go 13 = .ok (.invokestatic 43, 3) := by decide +kernel
theorem dX10_go_16 : decode cX10_go 16 = .ok (.ifCond .ne 7, 3) := by decide +kernel
theorem dX10_go_19 : decode cX10_go 19 = .ok (.sipush (-2001), 3) := by decide +kernel
theorem dX10_go_22 : decode cX10_go 22 = .ok (.ireturn, 1) := by decide +kernel
theorem dX10_go_23 : decode cX10_go 23 = .ok (.aload_n 0, 1) := by decide +kernel
theorem dX10_go_24 : decode cX10_go 24 = .ok (.getfield 35, 3) := by decide +kernel
theorem dX10_go_27 : decode cX10_go 27 = .ok (.sipush 3849, 3) := by decide +kernel
theorem dX10_go_30 : decode cX10_go 30 = .ok (.iload_n 1, 1) := by decide +kernel
theorem dX10_go_31 : decode cX10_go 31 = .ok (.imul, 1) := by decide +kernel
theorem dX10_go_32 : decode cX10_go 32 = .ok (.iconst 0, 1) := by decide +kernel
theorem dX10_go_33 : decode cX10_go 33 = .ok (.iadd, 1) := by decide +kernel
theorem dX10_go_34 : decode cX10_go 34 = .ok (.iaload, 1) := by decide +kernel
theorem dX10_go_35 : decode cX10_go 35 = .ok (.iconst 1, 1) := by decide +kernel
theorem dX10_go_36 : decode cX10_go 36 = .ok (.if_icmp .eq 7, 3) := by decide +kernel
theorem dX10_go_39 : decode cX10_go 39 = .ok (.sipush (-2003), 3) := by decide +kernel
theorem dX10_go_42 : decode cX10_go 42 = .ok (.ireturn, 1) := by decide +kernel
theorem dX10_go_43 : decode cX10_go 43 = .ok (.aload_n 0, 1) := by decide +kernel
theorem dX10_go_44 : decode cX10_go 44 = .ok (.iload_n 1, 1) := by decide +kernel
theorem dX10_go_45 : decode cX10_go 45 = .ok (.invokevirtual 265, 3) := by decide +kernel
theorem dX10_go_48 : decode cX10_go 48 = .ok (.aload_n 0, 1) := by decide +kernel
theorem dX10_go_49 : decode cX10_go 49 = .ok (.iload_n 2, 1) := by decide +kernel
theorem dX10_go_50 : decode cX10_go 50 = .ok (.putfield 185, 3) := by decide +kernel
theorem dX10_go_53 : decode cX10_go 53 = .ok (.aload_n 0, 1) := by decide +kernel
theorem dX10_go_54 : decode cX10_go 54 = .ok (.invokevirtual 270, 3) := by decide +kernel
theorem dX10_go_57 : decode cX10_go 57 = .ok (.ireturn, 1) := by decide +kernel
theorem dX10_goesAll_0 : decode cX10_goesAll 0 = .ok (.aload_n 0, 1) := by decide +kernel
theorem dX10_goesAll_1 : decode cX10_goesAll 1 = .ok (.getfield 35, 3) := by decide +kernel
theorem dX10_goesAll_4 : decode cX10_goesAll 4 = .ok (.aload_n 0, 1) := by decide +kernel
theorem dX10_goesAll_5 : decode cX10_goesAll 5 = .ok (.getfield 156, 3) := by decide +kernel
theorem dX10_goesAll_8 : decode cX10_goesAll 8 = .ok (.bipush 15, 2) := by decide +kernel
theorem dX10_goesAll_10 : decode cX10_goesAll 10 = .ok (.iadd, 1) := by decide +kernel
theorem dX10_goesAll_11 : decode cX10_goesAll 11 = .ok (.iaload, 1) := by decide +kernel
theorem dX10_goesAll_12 : decode cX10_goesAll 12 = .ok (.istore_n 2, 1) := by decide +kernel
theorem dX10_goesAll_13 : decode cX10_goesAll 13 = .ok (.aload_n 0, 1) := by decide +kernel
theorem dX10_goesAll_14 : decode cX10_goesAll 14 = .ok (.iload_n 1, 1) := by decide +kernel
theorem dX10_goesAll_15 : decode cX10_goesAll 15 = .ok (.putfield 185, 3) := by decide +kernel
theorem dX10_goesAll_18 : decode cX10_goesAll 18 = .ok (.iconst 1, 1) := by decide +kernel
theorem dX10_goesAll_19 : decode cX10_goesAll 19 = .ok (.istore_n 3, 1) := by decide +kernel
theorem dX10_goesAll_20 : decode cX10_goesAll 20 = .ok (.iload_n 3, 1) := by decide +kernel
theorem dX10_goesAll_21 : decode cX10_goesAll 21 = .ok (.iconst 1, 1) := by decide +kernel
theorem dX10_goesAll_22 : decode cX10_goesAll 22 = .ok (.if_icmp .ne 11, 3) := by decide +kernel
theorem dX10_goesAll_25 : decode cX10_goesAll 25 = .ok (.aload_n 0, 1) := by decide +kernel
theorem dX10_goesAll_26 : decode cX10_goesAll 26 = .ok (.invokevirtual 270, 3) := by decide +kernel
theorem dX10_goesAll_29 : decode cX10_goesAll 29 = .ok (.istore_n 3, 1) := by decide +kernel
theorem dX10_goesAll_30 : decode cX10_goesAll 30 = .ok (.goto (-10), 3) := by decide +kernel
theorem dX10_goesAll_33 : decode cX10_goesAll 33 = .ok (.aload_n 0, 1) := by decide +kernel
theorem dX10_goesAll_34 : decode cX10_goesAll 34 = .ok (.getfield 35, 3) := by decide +kernel
theorem dX10_goesAll_37 : decode cX10_goesAll 37 = .ok (.aload_n 0, 1) := by decide +kernel
theorem dX10_goesAll_38 : decode cX10_goesAll 38 = .ok (.getfield 156, 3) := by decide +kernel
theorem dX10_goesAll_41 : decode cX10_goesAll 41 = .ok (.bipush 15, 2) := by decide +kernel
theorem dX10_goesAll_43 : decode cX10_goesAll 43 = .ok (.iadd, 1) := by decide +kernel
theorem dX10_goesAll_44 : decode cX10_goesAll 44 = .ok (.iaload, 1) := by decide +kernel
theorem dX10_goesAll_45 : decode cX10_goesAll 45 = .ok (.iload_n 2, 1) := by decide +kernel
theorem dX10_goesAll_46 : decode cX10_goesAll 46 = .ok (.isub, 1) := by decide +kernel
theorem dX10_goesAll_47 : decode cX10_goesAll 47 = .ok (.ireturn, 1) := by decide +kernel
theorem dX10_all_0 : decode cX10_all 0 = .ok (.iload_n 1, 1) := by decide +kernel
theorem dX10_all_1 : decode cX10_all 1 = .ok (.invokestatic 260, 3) := by decide +kernel
theorem dX10_all_4 : decode cX10_all 4 = .ok (.ifCond .eq 15, 3) := by decide +kernel
theorem dX10_all_7 : decode cX10_all 7 = .ok (.iload_n 2, 1) := by decide +kernel
theorem dX10_all_8 : decode cX10_all 8 = .ok (.i2l, 1) := by decide +kernel
theorem dX10_all_9 : decode cX10_all 9 = .ok (.lconst 1, 1) := by decide +kernel
theorem dX10_all_10 : decode cX10_all 10 = .ok (.ldc2_w 273, 3) := by decide +kernel
theorem dX10_all_13 : decode cX10_all 13 = .ok (.invokestatic 43, 3) := by decide +kernel
theorem dX10_all_16 : decode cX10_all 16 = .ok (.ifCond .ne 7, 3) := by decide +kernel
theorem dX10_all_19 : decode cX10_all 19 = .ok (.sipush (-2001), 3) := by decide +kernel
theorem dX10_all_22 : decode cX10_all 22 = .ok (.ireturn, 1) := by decide +kernel
theorem dX10_all_23 : decode cX10_all 23 = .ok (.aload_n 0, 1) := by decide +kernel
theorem dX10_all_24 : decode cX10_all 24 = .ok (.getfield 35, 3) := by decide +kernel
theorem dX10_all_27 : decode cX10_all 27 = .ok (.sipush 3849, 3) := by decide +kernel
theorem dX10_all_30 : decode cX10_all 30 = .ok (.iload_n 1, 1) := by decide +kernel
theorem dX10_all_31 : decode cX10_all 31 = .ok (.imul, 1) := by decide +kernel
theorem dX10_all_32 : decode cX10_all 32 = .ok (.iconst 0, 1) := by decide +kernel
theorem dX10_all_33 : decode cX10_all 33 = .ok (.iadd, 1) := by decide +kernel
theorem dX10_all_34 : decode cX10_all 34 = .ok (.iaload, 1) := by decide +kernel
theorem dX10_all_35 : decode cX10_all 35 = .ok (.iconst 1, 1) := by decide +kernel
theorem dX10_all_36 : decode cX10_all 36 = .ok (.if_icmp .eq 7, 3) := by decide +kernel
theorem dX10_all_39 : decode cX10_all 39 = .ok (.sipush (-2003), 3) := by decide +kernel
theorem dX10_all_42 : decode cX10_all 42 = .ok (.ireturn, 1) := by decide +kernel
theorem dX10_all_43 : decode cX10_all 43 = .ok (.aload_n 0, 1) := by decide +kernel
theorem dX10_all_44 : decode cX10_all 44 = .ok (.iload_n 1, 1) := by decide +kernel
theorem dX10_all_45 : decode cX10_all 45 = .ok (.invokevirtual 265, 3) := by decide +kernel
theorem dX10_all_48 : decode cX10_all 48 = .ok (.aload_n 0, 1) := by decide +kernel
theorem dX10_all_49 : decode cX10_all 49 = .ok (.iload_n 2, 1) := by decide +kernel
theorem dX10_all_50 : decode cX10_all 50 = .ok (.invokevirtual 275, 3) := by decide +kernel
theorem dX10_all_53 : decode cX10_all 53 = .ok (.ireturn, 1) := by decide +kernel
theorem dX10_of_0 : decode cX10_of 0 = .ok (.iload_n 1, 1) := by decide +kernel
theorem dX10_of_1 : decode cX10_of 1 = .ok (.invokestatic 260, 3) := by decide +kernel
theorem dX10_of_4 : decode cX10_of 4 = .ok (.ifCond .eq 15, 3) := by decide +kernel
theorem dX10_of_7 : decode cX10_of 7 = .ok (.iload_n 2, 1) := by decide +kernel
theorem dX10_of_8 : decode cX10_of 8 = .ok (.i2l, 1) := by decide +kernel
theorem dX10_of_9 : decode cX10_of 9 = .ok (.lconst 0, 1) := by decide +kernel
theorem dX10_of_10 : decode cX10_of 10 = .ok (.ldc2_w 278, 3) := by decide +kernel
theorem dX10_of_13 : decode cX10_of 13 = .ok (.invokestatic 43, 3) := by decide +kernel
theorem dX10_of_16 : decode cX10_of 16 = .ok (.ifCond .ne 7, 3) := by decide +kernel
theorem dX10_of_19 : decode cX10_of 19 = .ok (.sipush (-2001), 3) := by decide +kernel
theorem dX10_of_22 : decode cX10_of 22 = .ok (.ireturn, 1) := by decide +kernel
theorem dX10_of_23 : decode cX10_of 23 = .ok (.iload_n 2, 1) := by decide +kernel
theorem dX10_of_24 : decode cX10_of 24 = .ok (.ifCond .ne 16, 3) := by decide +kernel
theorem dX10_of_27 : decode cX10_of 27 = .ok (.aload_n 0, 1) := by decide +kernel
theorem dX10_of_28 : decode cX10_of 28 = .ok (.getfield 35, 3) := by decide +kernel
theorem dX10_of_31 : decode cX10_of 31 = .ok (.sipush 3849, 3) := by decide +kernel
theorem dX10_of_34 : decode cX10_of 34 = .ok (.iload_n 1, 1) := by decide +kernel
theorem dX10_of_35 : decode cX10_of 35 = .ok (.imul, 1) := by decide +kernel
theorem dX10_of_36 : decode cX10_of 36 = .ok (.iconst 0, 1) := by decide +kernel
theorem dX10_of_37 : decode cX10_of 37 = .ok (.iadd, 1) := by decide +kernel
theorem dX10_of_38 : decode cX10_of 38 = .ok (.iaload, 1) := by decide +kernel
theorem dX10_of_39 : decode cX10_of 39 = .ok (.ireturn, 1) := by decide +kernel
theorem dX10_of_40 : decode cX10_of 40 = .ok (.aload_n 0, 1) := by decide +kernel
theorem dX10_of_41 : decode cX10_of 41 = .ok (.iload_n 1, 1) := by decide +kernel
theorem dX10_of_42 : decode cX10_of 42 = .ok (.invokevirtual 280, 3) := by decide +kernel
theorem dX10_of_45 : decode cX10_of 45 = .ok (.ifCond .eq 7, 3) := by decide +kernel
theorem dX10_of_48 : decode cX10_of 48 = .ok (.sipush (-2003), 3) := by decide +kernel
theorem dX10_of_51 : decode cX10_of 51 = .ok (.ireturn, 1) := by decide +kernel
theorem dX10_of_52 : decode cX10_of 52 = .ok (.aload_n 0, 1) := by decide +kernel
theorem dX10_of_53 : decode cX10_of 53 = .ok (.sipush 3849, 3) := by decide +kernel
theorem dX10_of_56 : decode cX10_of 56 = .ok (.iload_n 1, 1) := by decide +kernel
theorem dX10_of_57 : decode cX10_of 57 = .ok (.imul, 1) := by decide +kernel
theorem dX10_of_58 : decode cX10_of 58 = .ok (.putfield 156, 3) := by decide +kernel
theorem dX10_of_61 : decode cX10_of 61 = .ok (.iload_n 2, 1) := by decide +kernel
theorem dX10_of_62 : decode cX10_of 62 = .ok (.tableswitch 140 1 8 #[46, 59, 71, 76, 89, 101, 114, 127], 46) := by decide +kernel
theorem dX10_of_108 : decode cX10_of 108 = .ok (.aload_n 0, 1) := by decide +kernel
theorem dX10_of_109 : decode cX10_of 109 = .ok (.getfield 35, 3) := by decide +kernel
theorem dX10_of_112 : decode cX10_of 112 = .ok (.aload_n 0, 1) := by decide +kernel
theorem dX10_of_113 : decode cX10_of 113 = .ok (.getfield 156, 3) := by decide +kernel
theorem dX10_of_116 : decode cX10_of 116 = .ok (.bipush 15, 2) := by decide +kernel
theorem dX10_of_118 : decode cX10_of 118 = .ok (.iadd, 1) := by decide +kernel
theorem dX10_of_119 : decode cX10_of 119 = .ok (.iaload, 1) := by decide +kernel
theorem dX10_of_120 : decode cX10_of 120 = .ok (.ireturn, 1) := by decide +kernel
theorem dX10_of_121 : decode cX10_of 121 = .ok (.aload_n 0, 1) := by decide +kernel
theorem dX10_of_122 : decode cX10_of 122 = .ok (.getfield 35, 3) := by decide +kernel
theorem dX10_of_125 : decode cX10_of 125 = .ok (.aload_n 0, 1) := by decide +kernel
theorem dX10_of_126 : decode cX10_of 126 = .ok (.getfield 156, 3) := by decide +kernel
theorem dX10_of_129 : decode cX10_of 129 = .ok (.iconst 4, 1) := by decide +kernel
theorem dX10_of_130 : decode cX10_of 130 = .ok (.iadd, 1) := by decide +kernel
theorem dX10_of_131 : decode cX10_of 131 = .ok (.iaload, 1) := by decide +kernel
theorem dX10_of_132 : decode cX10_of 132 = .ok (.ireturn, 1) := by decide +kernel
theorem dX10_of_133 : decode cX10_of 133 = .ok (.aload_n 0, 1) := by decide +kernel
theorem dX10_of_134 : decode cX10_of 134 = .ok (.invokevirtual 220, 3) := by decide +kernel
theorem dX10_of_137 : decode cX10_of 137 = .ok (.ireturn, 1) := by decide +kernel
theorem dX10_of_138 : decode cX10_of 138 = .ok (.aload_n 0, 1) := by decide +kernel
theorem dX10_of_139 : decode cX10_of 139 = .ok (.getfield 35, 3) := by decide +kernel
theorem dX10_of_142 : decode cX10_of 142 = .ok (.aload_n 0, 1) := by decide +kernel
theorem dX10_of_143 : decode cX10_of 143 = .ok (.getfield 156, 3) := by decide +kernel
theorem dX10_of_146 : decode cX10_of 146 = .ok (.bipush 11, 2) := by decide +kernel
theorem dX10_of_148 : decode cX10_of 148 = .ok (.iadd, 1) := by decide +kernel
theorem dX10_of_149 : decode cX10_of 149 = .ok (.iaload, 1) := by decide +kernel
theorem dX10_of_150 : decode cX10_of 150 = .ok (.ireturn, 1) := by decide +kernel
theorem dX10_of_151 : decode cX10_of 151 = .ok (.aload_n 0, 1) := by decide +kernel
theorem dX10_of_152 : decode cX10_of 152 = .ok (.getfield 35, 3) := by decide +kernel
theorem dX10_of_155 : decode cX10_of 155 = .ok (.aload_n 0, 1) := by decide +kernel
theorem dX10_of_156 : decode cX10_of 156 = .ok (.getfield 156, 3) := by decide +kernel
theorem dX10_of_159 : decode cX10_of 159 = .ok (.iconst 5, 1) := by decide +kernel
theorem dX10_of_160 : decode cX10_of 160 = .ok (.iadd, 1) := by decide +kernel
theorem dX10_of_161 : decode cX10_of 161 = .ok (.iaload, 1) := by decide +kernel
theorem dX10_of_162 : decode cX10_of 162 = .ok (.ireturn, 1) := by decide +kernel
theorem dX10_of_163 : decode cX10_of 163 = .ok (.aload_n 0, 1) := by decide +kernel
theorem dX10_of_164 : decode cX10_of 164 = .ok (.getfield 35, 3) := by decide +kernel
theorem dX10_of_167 : decode cX10_of 167 = .ok (.aload_n 0, 1) := by decide +kernel
theorem dX10_of_168 : decode cX10_of 168 = .ok (.getfield 156, 3) := by decide +kernel
theorem dX10_of_171 : decode cX10_of 171 = .ok (.bipush 6, 2) := by decide +kernel
theorem dX10_of_173 : decode cX10_of 173 = .ok (.iadd, 1) := by decide +kernel
theorem dX10_of_174 : decode cX10_of 174 = .ok (.iaload, 1) := by decide +kernel
theorem dX10_of_175 : decode cX10_of 175 = .ok (.ireturn, 1) := by decide +kernel
theorem dX10_of_176 : decode cX10_of 176 = .ok (.aload_n 0, 1) := by decide +kernel
theorem dX10_of_177 : decode cX10_of 177 = .ok (.getfield 35, 3) := by decide +kernel
theorem dX10_of_180 : decode cX10_of 180 = .ok (.aload_n 0, 1) := by decide +kernel
theorem dX10_of_181 : decode cX10_of 181 = .ok (.getfield 156, 3) := by decide +kernel
theorem dX10_of_184 : decode cX10_of 184 = .ok (.bipush 7, 2) := by decide +kernel
theorem dX10_of_186 : decode cX10_of 186 = .ok (.iadd, 1) := by decide +kernel
theorem dX10_of_187 : decode cX10_of 187 = .ok (.iaload, 1) := by decide +kernel
theorem dX10_of_188 : decode cX10_of 188 = .ok (.ireturn, 1) := by decide +kernel
theorem dX10_of_189 : decode cX10_of 189 = .ok (.aload_n 0, 1) := by decide +kernel
theorem dX10_of_190 : decode cX10_of 190 = .ok (.getfield 35, 3) := by decide +kernel
theorem dX10_of_193 : decode cX10_of 193 = .ok (.aload_n 0, 1) := by decide +kernel
theorem dX10_of_194 : decode cX10_of 194 = .ok (.getfield 156, 3) := by decide +kernel
theorem dX10_of_197 : decode cX10_of 197 = .ok (.bipush 8, 2) := by decide +kernel
theorem dX10_of_199 : decode cX10_of 199 = .ok (.iadd, 1) := by decide +kernel
theorem dX10_of_200 : decode cX10_of 200 = .ok (.iaload, 1) := by decide +kernel
theorem dX10_of_201 : decode cX10_of 201 = .ok (.ireturn, 1) := by decide +kernel
theorem dX10_of_202 : decode cX10_of 202 = .ok (.aload_n 0, 1) := by decide +kernel
theorem dX10_of_203 : decode cX10_of 203 = .ok (.getfield 35, 3) := by decide +kernel
theorem dX10_of_206 : decode cX10_of 206 = .ok (.aload_n 0, 1) := by decide +kernel
theorem dX10_of_207 : decode cX10_of 207 = .ok (.getfield 156, 3) := by decide +kernel
theorem dX10_of_210 : decode cX10_of 210 = .ok (.iconst 1, 1) := by decide +kernel
theorem dX10_of_211 : decode cX10_of 211 = .ok (.iadd, 1) := by decide +kernel
theorem dX10_of_212 : decode cX10_of 212 = .ok (.iaload, 1) := by decide +kernel
theorem dX10_of_213 : decode cX10_of 213 = .ok (.iconst 5, 1) := by decide +kernel
theorem dX10_of_214 : decode cX10_of 214 = .ok (.if_icmp .ne 18, 3) := by decide +kernel
theorem dX10_of_217 : decode cX10_of 217 = .ok (.aload_n 0, 1) := by decide +kernel
theorem dX10_of_218 : decode cX10_of 218 = .ok (.getfield 35, 3) := by decide +kernel
theorem dX10_of_221 : decode cX10_of 221 = .ok (.aload_n 0, 1) := by decide +kernel
theorem dX10_of_222 : decode cX10_of 222 = .ok (.getfield 156, 3) := by decide +kernel
theorem dX10_of_225 : decode cX10_of 225 = .ok (.bipush 9, 2) := by decide +kernel
theorem dX10_of_227 : decode cX10_of 227 = .ok (.iadd, 1) := by decide +kernel
theorem dX10_of_228 : decode cX10_of 228 = .ok (.iaload, 1) := by decide +kernel
theorem dX10_of_229 : decode cX10_of 229 = .ok (.goto 6, 3) := by decide +kernel
theorem dX10_of_232 : decode cX10_of 232 = .ok (.sipush (-2002), 3) := by decide +kernel
theorem dX10_of_235 : decode cX10_of 235 = .ok (.ireturn, 1) := by decide +kernel
theorem dX10_answer_0 : decode cX10_answer 0 = .ok (.iload_n 1, 1) := by decide +kernel
theorem dX10_answer_1 : decode cX10_answer 1 = .ok (.invokestatic 260, 3) := by decide +kernel
theorem dX10_answer_4 : decode cX10_answer 4 = .ok (.ifCond .eq 19, 3) := by decide +kernel
theorem dX10_answer_7 : decode cX10_answer 7 = .ok (.iload_n 2, 1) := by decide +kernel
theorem dX10_answer_8 : decode cX10_answer 8 = .ok (.ifCond .lt 15, 3) := by decide +kernel
theorem dX10_answer_11 : decode cX10_answer 11 = .ok (.iload_n 3, 1) := by decide +kernel
theorem dX10_answer_12 : decode cX10_answer 12 = .ok (.i2l, 1) := by decide +kernel
theorem dX10_answer_13 : decode cX10_answer 13 = .ok (.lconst 0, 1) := by decide +kernel
theorem dX10_answer_14 : decode cX10_answer 14 = .ok (.ldc2_w 283, 3) := by decide +kernel
theorem dX10_answer_17 : decode cX10_answer 17 = .ok (.invokestatic 43, 3) := by decide +kernel
theorem dX10_answer_20 : decode cX10_answer 20 = .ok (.ifCond .ne 7, 3) := by decide +kernel
theorem dX10_answer_23 : decode cX10_answer 23 = .ok (.sipush (-2001), 3) := by decide +kernel
theorem dX10_answer_26 : decode cX10_answer 26 = .ok (.ireturn, 1) := by decide +kernel
theorem dX10_answer_27 : decode cX10_answer 27 = .ok (.aload_n 0, 1) := by decide +kernel
theorem dX10_answer_28 : decode cX10_answer 28 = .ok (.iload_n 1, 1) := by decide +kernel
theorem dX10_answer_29 : decode cX10_answer 29 = .ok (.invokevirtual 280, 3) := by decide +kernel
theorem dX10_answer_32 : decode cX10_answer 32 = .ok (.ifCond .eq 7, 3) := by decide +kernel
theorem dX10_answer_35 : decode cX10_answer 35 = .ok (.sipush (-2003), 3) := by decide +kernel
theorem dX10_answer_38 : decode cX10_answer 38 = .ok (.ireturn, 1) := by decide +kernel
theorem dX10_answer_39 : decode cX10_answer 39 = .ok (.iload_n 2, 1) := by decide +kernel
theorem dX10_answer_40 : decode cX10_answer 40 = .ok (.aload_n 0, 1) := by decide +kernel
theorem dX10_answer_41 : decode cX10_answer 41 = .ok (.getfield 35, 3) := by decide +kernel
theorem dX10_answer_44 : decode cX10_answer 44 = .ok (.sipush 3849, 3) := by decide +kernel
theorem dX10_answer_47 : decode cX10_answer 47 = .ok (.iload_n 1, 1) := by decide +kernel
theorem dX10_answer_48 : decode cX10_answer 48 = .ok (.imul, 1) := by decide +kernel
theorem dX10_answer_49 : decode cX10_answer 49 = .ok (.bipush 15, 2) := by decide +kernel
theorem dX10_answer_51 : decode cX10_answer 51 = .ok (.iadd, 1) := by decide +kernel
theorem dX10_answer_52 : decode cX10_answer 52 = .ok (.iaload, 1) := by decide +kernel
theorem dX10_answer_53 : decode cX10_answer 53 = .ok (.if_icmp .ge 27, 3) := by decide +kernel
theorem dX10_answer_56 : decode cX10_answer 56 = .ok (.aload_n 0, 1) := by decide +kernel
theorem dX10_answer_57 : decode cX10_answer 57 = .ok (.getfield 35, 3) := by decide +kernel
theorem dX10_answer_60 : decode cX10_answer 60 = .ok (.sipush 3849, 3) := by decide +kernel
theorem dX10_answer_63 : decode cX10_answer 63 = .ok (.iload_n 1, 1) := by decide +kernel
theorem dX10_answer_64 : decode cX10_answer 64 = .ok (.imul, 1) := by decide +kernel
theorem dX10_answer_65 : decode cX10_answer 65 = .ok (.sipush 3129, 3) := by decide +kernel
theorem dX10_answer_68 : decode cX10_answer 68 = .ok (.iadd, 1) := by decide +kernel
theorem dX10_answer_69 : decode cX10_answer 69 = .ok (.bipush 12, 2) := by decide +kernel
theorem dX10_answer_71 : decode cX10_answer 71 = .ok (.iload_n 2, 1) := by decide +kernel
theorem dX10_answer_72 : decode cX10_answer 72 = .ok (.imul, 1) := by decide +kernel
theorem dX10_answer_73 : decode cX10_answer 73 = .ok (.iadd, 1) := by decide +kernel
theorem dX10_answer_74 : decode cX10_answer 74 = .ok (.iload_n 3, 1) := by decide +kernel
theorem dX10_answer_75 : decode cX10_answer 75 = .ok (.iadd, 1) := by decide +kernel
theorem dX10_answer_76 : decode cX10_answer 76 = .ok (.iaload, 1) := by decide +kernel
theorem dX10_answer_77 : decode cX10_answer 77 = .ok (.goto 6, 3) := by decide +kernel
theorem dX10_answer_80 : decode cX10_answer 80 = .ok (.sipush (-2002), 3) := by decide +kernel
theorem dX10_answer_83 : decode cX10_answer 83 = .ok (.ireturn, 1) := by decide +kernel
theorem dX10_openOne_0 : decode cX10_openOne 0 = .ok (.iload_n 1, 1) := by decide +kernel
theorem dX10_openOne_1 : decode cX10_openOne 1 = .ok (.istore_n 2, 1) := by decide +kernel
theorem dX10_openOne_2 : decode cX10_openOne 2 = .ok (.iconst 0, 1) := by decide +kernel
theorem dX10_openOne_3 : decode cX10_openOne 3 = .ok (.istore_n 3, 1) := by decide +kernel
theorem dX10_openOne_4 : decode cX10_openOne 4 = .ok (.iload_n 3, 1) := by decide +kernel
theorem dX10_openOne_5 : decode cX10_openOne 5 = .ok (.aload_n 0, 1) := by decide +kernel
theorem dX10_openOne_6 : decode cX10_openOne 6 = .ok (.getfield 35, 3) := by decide +kernel
theorem dX10_openOne_9 : decode cX10_openOne 9 = .ok (.aload_n 0, 1) := by decide +kernel
theorem dX10_openOne_10 : decode cX10_openOne 10 = .ok (.getfield 156, 3) := by decide +kernel
theorem dX10_openOne_13 : decode cX10_openOne 13 = .ok (.bipush 14, 2) := by decide +kernel
theorem dX10_openOne_15 : decode cX10_openOne 15 = .ok (.iadd, 1) := by decide +kernel
theorem dX10_openOne_16 : decode cX10_openOne 16 = .ok (.iaload, 1) := by decide +kernel
theorem dX10_openOne_17 : decode cX10_openOne 17 = .ok (.if_icmp .ge 34, 3) := by decide +kernel
theorem dX10_openOne_20 : decode cX10_openOne 20 = .ok (.aload_n 0, 1) := by decide +kernel
theorem dX10_openOne_21 : decode cX10_openOne 21 = .ok (.getfield 35, 3) := by decide +kernel
theorem dX10_openOne_24 : decode cX10_openOne 24 = .ok (.aload_n 0, 1) := by decide +kernel
theorem dX10_openOne_25 : decode cX10_openOne 25 = .ok (.iload_n 3, 1) := by decide +kernel
theorem dX10_openOne_26 : decode cX10_openOne 26 = .ok (.invokevirtual 163, 3) := by decide +kernel
theorem dX10_openOne_29 : decode cX10_openOne 29 = .ok (.bipush 45, 2) := by decide +kernel
theorem dX10_openOne_31 : decode cX10_openOne 31 = .ok (.iadd, 1) := by decide +kernel
theorem dX10_openOne_32 : decode cX10_openOne 32 = .ok (.iaload, 1) := by decide +kernel
theorem dX10_openOne_33 : decode cX10_openOne 33 = .ok (.ifCond .ne 12, 3) := by decide +kernel
theorem dX10_openOne_36 : decode cX10_openOne 36 = .ok (.iload_n 2, 1) := by decide +kernel
theorem dX10_openOne_37 : decode cX10_openOne 37 = .ok (.ifCond .ne 5, 3) := by decide +kernel
theorem dX10_openOne_40 : decode cX10_openOne 40 = .ok (.iload_n 3, 1) := by decide +kernel
theorem dX10_openOne_41 : decode cX10_openOne 41 = .ok (.ireturn, 1) := by decide +kernel
theorem dX10_openOne_42 : decode cX10_openOne 42 = .ok (.iinc 2 (-1), 3) := by decide +kernel
theorem dX10_openOne_45 : decode cX10_openOne 45 = .ok (.iinc 3 1, 3) := by decide +kernel
theorem dX10_openOne_48 : decode cX10_openOne 48 = .ok (.goto (-44), 3) := by decide +kernel
theorem dX10_openOne_51 : decode cX10_openOne 51 = .ok (.iconst (-1), 1) := by decide +kernel
theorem dX10_openOne_52 : decode cX10_openOne 52 = .ok (.ireturn, 1) := by decide +kernel
theorem dX10_open_0 : decode cX10_open 0 = .ok (.iload_n 1, 1) := by decide +kernel
theorem dX10_open_1 : decode cX10_open 1 = .ok (.invokestatic 260, 3) := by decide +kernel
theorem dX10_open_4 : decode cX10_open 4 = .ok (.ifCond .eq 19, 3) := by decide +kernel
theorem dX10_open_7 : decode cX10_open 7 = .ok (.iload_n 2, 1) := by decide +kernel
theorem dX10_open_8 : decode cX10_open 8 = .ok (.ifCond .lt 15, 3) := by decide +kernel
theorem dX10_open_11 : decode cX10_open 11 = .ok (.iload_n 3, 1) := by decide +kernel
theorem dX10_open_12 : decode cX10_open 12 = .ok (.i2l, 1) := by decide +kernel
theorem dX10_open_13 : decode cX10_open 13 = .ok (.lconst 0, 1) := by decide +kernel
theorem dX10_open_14 : decode cX10_open 14 = .ok (.ldc2_w 283, 3) := by decide +kernel
theorem dX10_open_17 : decode cX10_open 17 = .ok (.invokestatic 43, 3) := by decide +kernel
theorem dX10_open_20 : decode cX10_open 20 = .ok (.ifCond .ne 7, 3) := by decide +kernel
theorem dX10_open_23 : decode cX10_open 23 = .ok (.sipush (-2001), 3) := by decide +kernel
theorem dX10_open_26 : decode cX10_open 26 = .ok (.ireturn, 1) := by decide +kernel
theorem dX10_open_27 : decode cX10_open 27 = .ok (.aload_n 0, 1) := by decide +kernel
theorem dX10_open_28 : decode cX10_open 28 = .ok (.iload_n 1, 1) := by decide +kernel
theorem dX10_open_29 : decode cX10_open 29 = .ok (.invokevirtual 280, 3) := by decide +kernel
theorem dX10_open_32 : decode cX10_open 32 = .ok (.ifCond .eq 7, 3) := by decide +kernel
theorem dX10_open_35 : decode cX10_open 35 = .ok (.sipush (-2003), 3) := by decide +kernel
theorem dX10_open_38 : decode cX10_open 38 = .ok (.ireturn, 1) := by decide +kernel
theorem dX10_open_39 : decode cX10_open 39 = .ok (.aload_n 0, 1) := by decide +kernel
theorem dX10_open_40 : decode cX10_open 40 = .ok (.sipush 3849, 3) := by decide +kernel
theorem dX10_open_43 : decode cX10_open 43 = .ok (.iload_n 1, 1) := by decide +kernel
theorem dX10_open_44 : decode cX10_open 44 = .ok (.imul, 1) := by decide +kernel
theorem dX10_open_45 : decode cX10_open 45 = .ok (.putfield 156, 3) := by decide +kernel
theorem dX10_open_48 : decode cX10_open 48 = .ok (.aload_n 0, 1) := by decide +kernel
theorem dX10_open_49 : decode cX10_open 49 = .ok (.iload_n 2, 1) := by decide +kernel
theorem dX10_open_50 : decode cX10_open 50 = .ok (.invokevirtual 285, 3) := by decide +kernel
theorem dX10_open_53 : decode cX10_open 53 = .ok (.istore 4, 2) := by decide +kernel
theorem dX10_open_55 : decode cX10_open 55 = .ok (.iload 4, 2) := by decide +kernel
theorem dX10_open_57 : decode cX10_open 57 = .ok (.iconst (-1), 1) := by decide +kernel
theorem dX10_open_58 : decode cX10_open 58 = .ok (.if_icmp .ne 7, 3) := by decide +kernel
theorem dX10_open_61 : decode cX10_open 61 = .ok (.sipush (-2002), 3) := by decide +kernel
theorem dX10_open_64 : decode cX10_open 64 = .ok (.ireturn, 1) := by decide +kernel
theorem dX10_open_65 : decode cX10_open 65 = .ok (.aload_n 0, 1) := by decide +kernel
theorem dX10_open_66 : decode cX10_open 66 = .ok (.iload 4, 2) := by decide +kernel
theorem dX10_open_68 : decode cX10_open 68 = .ok (.invokevirtual 163, 3) := by decide +kernel
theorem dX10_open_71 : decode cX10_open 71 = .ok (.istore 5, 2) := by decide +kernel
theorem dX10_open_73 : decode cX10_open 73 = .ok (.iload_n 3, 1) := by decide +kernel
theorem dX10_open_74 : decode cX10_open 74 = .ok (.tableswitch 85 0 3 #[30, 41, 52, 63], 30) := by decide +kernel
theorem dX10_open_104 : decode cX10_open 104 = .ok (.aload_n 0, 1) := by decide +kernel
theorem dX10_open_105 : decode cX10_open 105 = .ok (.getfield 35, 3) := by decide +kernel
theorem dX10_open_108 : decode cX10_open 108 = .ok (.iload 5, 2) := by decide +kernel
theorem dX10_open_110 : decode cX10_open 110 = .ok (.bipush 32, 2) := by decide +kernel
theorem dX10_open_112 : decode cX10_open 112 = .ok (.iadd, 1) := by decide +kernel
theorem dX10_open_113 : decode cX10_open 113 = .ok (.iaload, 1) := by decide +kernel
theorem dX10_open_114 : decode cX10_open 114 = .ok (.ireturn, 1) := by decide +kernel
theorem dX10_open_115 : decode cX10_open 115 = .ok (.aload_n 0, 1) := by decide +kernel
theorem dX10_open_116 : decode cX10_open 116 = .ok (.getfield 35, 3) := by decide +kernel
theorem dX10_open_119 : decode cX10_open 119 = .ok (.iload 5, 2) := by decide +kernel
theorem dX10_open_121 : decode cX10_open 121 = .ok (.bipush 33, 2) := by decide +kernel
theorem dX10_open_123 : decode cX10_open 123 = .ok (.iadd, 1) := by decide +kernel
theorem dX10_open_124 : decode cX10_open 124 = .ok (.iaload, 1) := by decide +kernel
theorem dX10_open_125 : decode cX10_open 125 = .ok (.ireturn, 1) := by decide +kernel
theorem dX10_open_126 : decode cX10_open 126 = .ok (.aload_n 0, 1) := by decide +kernel
theorem dX10_open_127 : decode cX10_open 127 = .ok (.getfield 35, 3) := by decide +kernel
theorem dX10_open_130 : decode cX10_open 130 = .ok (.iload 5, 2) := by decide +kernel
theorem dX10_open_132 : decode cX10_open 132 = .ok (.bipush 46, 2) := by decide +kernel
theorem dX10_open_134 : decode cX10_open 134 = .ok (.iadd, 1) := by decide +kernel
theorem dX10_open_135 : decode cX10_open 135 = .ok (.iaload, 1) := by decide +kernel
theorem dX10_open_136 : decode cX10_open 136 = .ok (.ireturn, 1) := by decide +kernel
theorem dX10_open_137 : decode cX10_open 137 = .ok (.aload_n 0, 1) := by decide +kernel
theorem dX10_open_138 : decode cX10_open 138 = .ok (.getfield 35, 3) := by decide +kernel
theorem dX10_open_141 : decode cX10_open 141 = .ok (.iload 5, 2) := by decide +kernel
theorem dX10_open_143 : decode cX10_open 143 = .ok (.bipush 37, 2) := by decide +kernel
theorem dX10_open_145 : decode cX10_open 145 = .ok (.iadd, 1) := by decide +kernel
theorem dX10_open_146 : decode cX10_open 146 = .ok (.iaload, 1) := by decide +kernel
theorem dX10_open_147 : decode cX10_open 147 = .ok (.aload_n 0, 1) := by decide +kernel
theorem dX10_open_148 : decode cX10_open 148 = .ok (.getfield 35, 3) := by decide +kernel
theorem dX10_open_151 : decode cX10_open 151 = .ok (.iload 5, 2) := by decide +kernel
theorem dX10_open_153 : decode cX10_open 153 = .ok (.bipush 36, 2) := by decide +kernel
theorem dX10_open_155 : decode cX10_open 155 = .ok (.iadd, 1) := by decide +kernel
theorem dX10_open_156 : decode cX10_open 156 = .ok (.iaload, 1) := by decide +kernel
theorem dX10_open_157 : decode cX10_open 157 = .ok (.isub, 1) := by decide +kernel
theorem dX10_open_158 : decode cX10_open 158 = .ok (.ireturn, 1) := by decide +kernel
theorem dX10_open_159 : decode cX10_open 159 = .ok (.aload_n 0, 1) := by decide +kernel
theorem dX10_open_160 : decode cX10_open 160 = .ok (.getfield 35, 3) := by decide +kernel
theorem dX10_open_163 : decode cX10_open 163 = .ok (.iload 5, 2) := by decide +kernel
theorem dX10_open_165 : decode cX10_open 165 = .ok (.iload_n 3, 1) := by decide +kernel
theorem dX10_open_166 : decode cX10_open 166 = .ok (.iadd, 1) := by decide +kernel
theorem dX10_open_167 : decode cX10_open 167 = .ok (.iconst 4, 1) := by decide +kernel
theorem dX10_open_168 : decode cX10_open 168 = .ok (.isub, 1) := by decide +kernel
theorem dX10_open_169 : decode cX10_open 169 = .ok (.iaload, 1) := by decide +kernel
theorem dX10_open_170 : decode cX10_open 170 = .ok (.ireturn, 1) := by decide +kernel
theorem dX10_next_0 : decode cX10_next 0 = .ok (.iload_n 1, 1) := by decide +kernel
theorem dX10_next_1 : decode cX10_next 1 = .ok (.invokestatic 260, 3) := by decide +kernel
theorem dX10_next_4 : decode cX10_next 4 = .ok (.ifCond .ne 7, 3) := by decide +kernel
theorem dX10_next_7 : decode cX10_next 7 = .ok (.sipush (-2001), 3) := by decide +kernel
theorem dX10_next_10 : decode cX10_next 10 = .ok (.ireturn, 1) := by decide +kernel
theorem dX10_next_11 : decode cX10_next 11 = .ok (.aload_n 0, 1) := by decide +kernel
theorem dX10_next_12 : decode cX10_next 12 = .ok (.iload_n 1, 1) := by decide +kernel
theorem dX10_next_13 : decode cX10_next 13 = .ok (.invokevirtual 280, 3) := by decide +kernel
theorem dX10_next_16 : decode cX10_next 16 = .ok (.ifCond .eq 7, 3) := by decide +kernel
theorem dX10_next_19 : decode cX10_next 19 = .ok (.sipush (-2003), 3) := by decide +kernel
theorem dX10_next_22 : decode cX10_next 22 = .ok (.ireturn, 1) := by decide +kernel
theorem dX10_next_23 : decode cX10_next 23 = .ok (.aload_n 0, 1) := by decide +kernel
theorem dX10_next_24 : decode cX10_next 24 = .ok (.iload_n 1, 1) := by decide +kernel
theorem dX10_next_25 : decode cX10_next 25 = .ok (.invokevirtual 265, 3) := by decide +kernel
theorem dX10_next_28 : decode cX10_next 28 = .ok (.aload_n 0, 1) := by decide +kernel
theorem dX10_next_29 : decode cX10_next 29 = .ok (.getfield 35, 3) := by decide +kernel
theorem dX10_next_32 : decode cX10_next 32 = .ok (.aload_n 0, 1) := by decide +kernel
theorem dX10_next_33 : decode cX10_next 33 = .ok (.getfield 156, 3) := by decide +kernel
theorem dX10_next_36 : decode cX10_next 36 = .ok (.bipush 12, 2) := by decide +kernel
theorem dX10_next_38 : decode cX10_next 38 = .ok (.iadd, 1) := by decide +kernel
theorem dX10_next_39 : decode cX10_next 39 = .ok (.iaload, 1) := by decide +kernel
theorem dX10_next_40 : decode cX10_next 40 = .ok (.iconst 1, 1) := by decide +kernel
theorem dX10_next_41 : decode cX10_next 41 = .ok (.if_icmp .eq 25, 3) := by decide +kernel
theorem dX10_next_44 : decode cX10_next 44 = .ok (.aload_n 0, 1) := by decide +kernel
theorem dX10_next_45 : decode cX10_next 45 = .ok (.invokevirtual 166, 3) := by decide +kernel
theorem dX10_next_48 : decode cX10_next 48 = .ok (.ifCond .gt 18, 3) := by decide +kernel
theorem dX10_next_51 : decode cX10_next 51 = .ok (.aload_n 0, 1) := by decide +kernel
theorem dX10_next_52 : decode cX10_next 52 = .ok (.getfield 35, 3) := by decide +kernel
theorem dX10_next_55 : decode cX10_next 55 = .ok (.aload_n 0, 1) := by decide +kernel
theorem dX10_next_56 : decode cX10_next 56 = .ok (.getfield 156, 3) := by decide +kernel
theorem dX10_next_59 : decode cX10_next 59 = .ok (.iconst 0, 1) := by decide +kernel
theorem dX10_next_60 : decode cX10_next 60 = .ok (.iadd, 1) := by decide +kernel
theorem dX10_next_61 : decode cX10_next 61 = .ok (.iaload, 1) := by decide +kernel
theorem dX10_next_62 : decode cX10_next 62 = .ok (.iconst 2, 1) := by decide +kernel
theorem dX10_next_63 : decode cX10_next 63 = .ok (.if_icmp .ne 7, 3) := by decide +kernel
theorem dX10_next_66 : decode cX10_next 66 = .ok (.sipush (-2002), 3) := by decide +kernel
theorem dX10_next_69 : decode cX10_next 69 = .ok (.ireturn, 1) := by decide +kernel
theorem dX10_next_70 : decode cX10_next 70 = .ok (.aload_n 0, 1) := by decide +kernel
theorem dX10_next_71 : decode cX10_next 71 = .ok (.invokevirtual 236, 3) := by decide +kernel
theorem dX10_next_74 : decode cX10_next 74 = .ok (.istore_n 2, 1) := by decide +kernel
theorem dX10_next_75 : decode cX10_next 75 = .ok (.iload_n 2, 1) := by decide +kernel
theorem dX10_next_76 : decode cX10_next 76 = .ok (.iconst (-1), 1) := by decide +kernel
theorem dX10_next_77 : decode cX10_next 77 = .ok (.if_icmp .ne 9, 3) := by decide +kernel
theorem dX10_next_80 : decode cX10_next 80 = .ok (.sipush (-2002), 3) := by decide +kernel
theorem dX10_next_83 : decode cX10_next 83 = .ok (.goto 4, 3) := by decide +kernel
theorem dX10_next_86 : decode cX10_next 86 = .ok (.iload_n 2, 1) := by decide +kernel
theorem dX10_next_87 : decode cX10_next 87 = .ok (.ireturn, 1) := by decide +kernel
theorem dX10_isAhead_0 : decode cX10_isAhead 0 = .ok (.aload_n 0, 1) := by decide +kernel
theorem dX10_isAhead_1 : decode cX10_isAhead 1 = .ok (.getfield 35, 3) := by decide +kernel
theorem dX10_isAhead_4 : decode cX10_isAhead 4 = .ok (.iload_n 1, 1) := by decide +kernel
theorem dX10_isAhead_5 : decode cX10_isAhead 5 = .ok (.bipush 10, 2) := by decide +kernel
theorem dX10_isAhead_7 : decode cX10_isAhead 7 = .ok (.iadd, 1) := by decide +kernel
theorem dX10_isAhead_8 : decode cX10_isAhead 8 = .ok (.iaload, 1) := by decide +kernel
theorem dX10_isAhead_9 : decode cX10_isAhead 9 = .ok (.aload_n 0, 1) := by decide +kernel
theorem dX10_isAhead_10 : decode cX10_isAhead 10 = .ok (.getfield 35, 3) := by decide +kernel
theorem dX10_isAhead_13 : decode cX10_isAhead 13 = .ok (.iload_n 2, 1) := by decide +kernel
theorem dX10_isAhead_14 : decode cX10_isAhead 14 = .ok (.bipush 10, 2) := by decide +kernel
theorem dX10_isAhead_16 : decode cX10_isAhead 16 = .ok (.iadd, 1) := by decide +kernel
theorem dX10_isAhead_17 : decode cX10_isAhead 17 = .ok (.iaload, 1) := by decide +kernel
theorem dX10_isAhead_18 : decode cX10_isAhead 18 = .ok (.if_icmp .lt 29, 3) := by decide +kernel
theorem dX10_isAhead_21 : decode cX10_isAhead 21 = .ok (.aload_n 0, 1) := by decide +kernel
theorem dX10_isAhead_22 : decode cX10_isAhead 22 = .ok (.getfield 35, 3) := by decide +kernel
theorem dX10_isAhead_25 : decode cX10_isAhead 25 = .ok (.iload_n 1, 1) := by decide +kernel
theorem dX10_isAhead_26 : decode cX10_isAhead 26 = .ok (.bipush 10, 2) := by decide +kernel
theorem dX10_isAhead_28 : decode cX10_isAhead 28 = .ok (.iadd, 1) := by decide +kernel
theorem dX10_isAhead_29 : decode cX10_isAhead 29 = .ok (.iaload, 1) := by decide +kernel
theorem dX10_isAhead_30 : decode cX10_isAhead 30 = .ok (.aload_n 0, 1) := by decide +kernel
theorem dX10_isAhead_31 : decode cX10_isAhead 31 = .ok (.getfield 35, 3) := by decide +kernel
theorem dX10_isAhead_34 : decode cX10_isAhead 34 = .ok (.iload_n 2, 1) := by decide +kernel
theorem dX10_isAhead_35 : decode cX10_isAhead 35 = .ok (.bipush 10, 2) := by decide +kernel
theorem dX10_isAhead_37 : decode cX10_isAhead 37 = .ok (.iadd, 1) := by decide +kernel
theorem dX10_isAhead_38 : decode cX10_isAhead 38 = .ok (.iaload, 1) := by decide +kernel
theorem dX10_isAhead_39 : decode cX10_isAhead 39 = .ok (.if_icmp .ne 12, 3) := by decide +kernel
theorem dX10_isAhead_42 : decode cX10_isAhead 42 = .ok (.iload_n 1, 1) := by decide +kernel
theorem dX10_isAhead_43 : decode cX10_isAhead 43 = .ok (.iload_n 2, 1) := by decide +kernel
theorem dX10_isAhead_44 : decode cX10_isAhead 44 = .ok (.if_icmp .ge 7, 3) := by decide +kernel
theorem dX10_isAhead_47 : decode cX10_isAhead 47 = .ok (.iconst 1, 1) := by decide +kernel
theorem dX10_isAhead_48 : decode cX10_isAhead 48 = .ok (.goto 4, 3) := by decide +kernel
theorem dX10_isAhead_51 : decode cX10_isAhead 51 = .ok (.iconst 0, 1) := by decide +kernel
theorem dX10_isAhead_52 : decode cX10_isAhead 52 = .ok (.ireturn, 1) := by decide +kernel
theorem dX10_ordered_0 : decode cX10_ordered 0 = .ok (.iload_n 1, 1) := by decide +kernel
theorem dX10_ordered_1 : decode cX10_ordered 1 = .ok (.invokestatic 260, 3) := by decide +kernel
theorem dX10_ordered_4 : decode cX10_ordered 4 = .ok (.ifCond .eq 7, 3) := by decide +kernel
theorem dX10_ordered_7 : decode cX10_ordered 7 = .ok (.iload_n 2, 1) := by decide +kernel
theorem dX10_ordered_8 : decode cX10_ordered 8 = .ok (.ifCond .ge 7, 3) := by decide +kernel
theorem dX10_ordered_11 : decode cX10_ordered 11 = .ok (.sipush (-2001), 3) := by decide +kernel
theorem dX10_ordered_14 : decode cX10_ordered 14 = .ok (.ireturn, 1) := by decide +kernel
theorem dX10_ordered_15 : decode cX10_ordered 15 = .ok (.aload_n 0, 1) := by decide +kernel
theorem dX10_ordered_16 : decode cX10_ordered 16 = .ok (.iload_n 1, 1) := by decide +kernel
theorem dX10_ordered_17 : decode cX10_ordered 17 = .ok (.invokevirtual 280, 3) := by decide +kernel
theorem dX10_ordered_20 : decode cX10_ordered 20 = .ok (.ifCond .eq 7, 3) := by decide +kernel
theorem dX10_ordered_23 : decode cX10_ordered 23 = .ok (.sipush (-2003), 3) := by decide +kernel
theorem dX10_ordered_26 : decode cX10_ordered 26 = .ok (.ireturn, 1) := by decide +kernel
theorem dX10_ordered_27 : decode cX10_ordered 27 = .ok (.sipush 3849, 3) := by decide +kernel
theorem dX10_ordered_30 : decode cX10_ordered 30 = .ok (.iload_n 1, 1) := by decide +kernel
theorem dX10_ordered_31 : decode cX10_ordered 31 = .ok (.imul, 1) := by decide +kernel
theorem dX10_ordered_32 : decode cX10_ordered 32 = .ok (.sipush 3129, 3) := by decide +kernel
theorem dX10_ordered_35 : decode cX10_ordered 35 = .ok (.iadd, 1) := by decide +kernel
theorem dX10_ordered_36 : decode cX10_ordered 36 = .ok (.istore_n 3, 1) := by decide +kernel
theorem dX10_ordered_37 : decode cX10_ordered 37 = .ok (.aload_n 0, 1) := by decide +kernel
theorem dX10_ordered_38 : decode cX10_ordered 38 = .ok (.getfield 35, 3) := by decide +kernel
theorem dX10_ordered_41 : decode cX10_ordered 41 = .ok (.sipush 3849, 3) := by decide +kernel
theorem dX10_ordered_44 : decode cX10_ordered 44 = .ok (.iload_n 1, 1) := by decide +kernel
theorem dX10_ordered_45 : decode cX10_ordered 45 = .ok (.imul, 1) := by decide +kernel
theorem dX10_ordered_46 : decode cX10_ordered 46 = .ok (.bipush 15, 2) := by decide +kernel
theorem dX10_ordered_48 : decode cX10_ordered 48 = .ok (.iadd, 1) := by decide +kernel
theorem dX10_ordered_49 : decode cX10_ordered 49 = .ok (.iaload, 1) := by decide +kernel
theorem dX10_ordered_50 : decode cX10_ordered 50 = .ok (.istore 4, 2) := by decide +kernel
theorem dX10_ordered_52 : decode cX10_ordered 52 = .ok (.iconst 0, 1) := by decide +kernel
theorem dX10_ordered_53 : decode cX10_ordered 53 = .ok (.istore 5, 2) := by decide +kernel
theorem dX10_ordered_55 : decode cX10_ordered 55 = .ok (.iload 5, 2) := by decide +kernel
theorem dX10_ordered_57 : decode cX10_ordered 57 = .ok (.iload 4, 2) := by decide +kernel
theorem dX10_ordered_59 : decode cX10_ordered 59 = .ok (.if_icmp .ge 68, 3) := by decide +kernel
theorem dX10_ordered_62 : decode cX10_ordered 62 = .ok (.iconst 0, 1) := by decide +kernel
theorem dX10_ordered_63 : decode cX10_ordered 63 = .ok (.istore 6, 2) := by decide +kernel
theorem dX10_ordered_65 : decode cX10_ordered 65 = .ok (.iconst 0, 1) := by decide +kernel
theorem dX10_ordered_66 : decode cX10_ordered 66 = .ok (.istore 7, 2) := by decide +kernel
theorem dX10_ordered_68 : decode cX10_ordered 68 = .ok (.iload 7, 2) := by decide +kernel
theorem dX10_ordered_70 : decode cX10_ordered 70 = .ok (.iload 4, 2) := by decide +kernel
theorem dX10_ordered_72 : decode cX10_ordered 72 = .ok (.if_icmp .ge 40, 3) := by decide +kernel
theorem dX10_ordered_75 : decode cX10_ordered 75 = .ok (.iload 6, 2) := by decide +kernel
theorem dX10_ordered_77 : decode cX10_ordered 77 = .ok (.aload_n 0, 1) := by decide +kernel
theorem dX10_ordered_78 : decode cX10_ordered 78 = .ok (.iload_n 3, 1) := by decide +kernel
theorem dX10_ordered_79 : decode cX10_ordered 79 = .ok (.bipush 12, 2) := by decide +kernel
theorem dX10_ordered_81 : decode cX10_ordered 81 = .ok (.iload 7, 2) := by decide +kernel
theorem dX10_ordered_83 : decode cX10_ordered 83 = .ok (.imul, 1) := by decide +kernel
theorem dX10_ordered_84 : decode cX10_ordered 84 = .ok (.iadd, 1) := by decide +kernel
theorem dX10_ordered_85 : decode cX10_ordered 85 = .ok (.iload_n 3, 1) := by decide +kernel
theorem dX10_ordered_86 : decode cX10_ordered 86 = .ok (.bipush 12, 2) := by decide +kernel
theorem dX10_ordered_88 : decode cX10_ordered 88 = .ok (.iload 5, 2) := by decide +kernel
theorem dX10_ordered_90 : decode cX10_ordered 90 = .ok (.imul, 1) := by decide +kernel
theorem dX10_ordered_91 : decode cX10_ordered 91 = .ok (.iadd, 1) := by decide +kernel
theorem dX10_ordered_92 : decode cX10_ordered 92 = .ok (.invokevirtual 288, 3) := by decide +kernel
theorem dX10_ordered_95 : decode cX10_ordered 95 = .ok (.ifCond .eq 7, 3) := by decide +kernel
theorem dX10_ordered_98 : decode cX10_ordered 98 = .ok (.iconst 1, 1) := by decide +kernel
theorem dX10_ordered_99 : decode cX10_ordered 99 = .ok (.goto 4, 3) := by decide +kernel
theorem dX10_ordered_102 : decode cX10_ordered 102 = .ok (.iconst 0, 1) := by decide +kernel
theorem dX10_ordered_103 : decode cX10_ordered 103 = .ok (.iadd, 1) := by decide +kernel
theorem dX10_ordered_104 : decode cX10_ordered 104 = .ok (.istore 6, 2) := by decide +kernel
theorem dX10_ordered_106 : decode cX10_ordered 106 = .ok (.iinc 7 1, 3) := by decide +kernel
theorem dX10_ordered_109 : decode cX10_ordered 109 = .ok (.goto (-41), 3) := by decide +kernel
theorem dX10_ordered_112 : decode cX10_ordered 112 = .ok (.iload 6, 2) := by decide +kernel
theorem dX10_ordered_114 : decode cX10_ordered 114 = .ok (.iload_n 2, 1) := by decide +kernel
theorem dX10_ordered_115 : decode cX10_ordered 115 = .ok (.if_icmp .ne 6, 3) := by decide +kernel
theorem dX10_ordered_118 : decode cX10_ordered 118 = .ok (.iload 5, 2) := by decide +kernel
theorem dX10_ordered_120 : decode cX10_ordered 120 = .ok (.ireturn, 1) := by decide +kernel
theorem dX10_ordered_121 : decode cX10_ordered 121 = .ok (.iinc 5 1, 3) := by decide +kernel
theorem dX10_ordered_124 : decode cX10_ordered 124 = .ok (.goto (-69), 3) := by decide +kernel
theorem dX10_ordered_127 : decode cX10_ordered 127 = .ok (.sipush (-2002), 3) := by decide +kernel
theorem dX10_ordered_130 : decode cX10_ordered 130 = .ok (.ireturn, 1) := by decide +kernel
theorem dX10_isLike_0 : decode cX10_isLike 0 = .ok (.iconst 0, 1) := by decide +kernel
theorem dX10_isLike_1 : decode cX10_isLike 1 = .ok (.istore_n 3, 1) := by decide +kernel
theorem dX10_isLike_2 : decode cX10_isLike 2 = .ok (.iload_n 3, 1) := by decide +kernel
theorem dX10_isLike_3 : decode cX10_isLike 3 = .ok (.bipush 8, 2) := by decide +kernel
theorem dX10_isLike_5 : decode cX10_isLike 5 = .ok (.if_icmp .ge 30, 3) := by decide +kernel
theorem dX10_isLike_8 : decode cX10_isLike 8 = .ok (.aload_n 0, 1) := by decide +kernel
theorem dX10_isLike_9 : decode cX10_isLike 9 = .ok (.getfield 35, 3) := by decide +kernel
theorem dX10_isLike_12 : decode cX10_isLike 12 = .ok (.iload_n 1, 1) := by decide +kernel
theorem dX10_isLike_13 : decode cX10_isLike 13 = .ok (.iload_n 3, 1) := by decide +kernel
theorem dX10_isLike_14 : decode cX10_isLike 14 = .ok (.iadd, 1) := by decide +kernel
theorem dX10_isLike_15 : decode cX10_isLike 15 = .ok (.iaload, 1) := by decide +kernel
theorem dX10_isLike_16 : decode cX10_isLike 16 = .ok (.aload_n 0, 1) := by decide +kernel
theorem dX10_isLike_17 : decode cX10_isLike 17 = .ok (.getfield 35, 3) := by decide +kernel
theorem dX10_isLike_20 : decode cX10_isLike 20 = .ok (.iload_n 2, 1) := by decide +kernel
theorem dX10_isLike_21 : decode cX10_isLike 21 = .ok (.iload_n 3, 1) := by decide +kernel
theorem dX10_isLike_22 : decode cX10_isLike 22 = .ok (.iadd, 1) := by decide +kernel
theorem dX10_isLike_23 : decode cX10_isLike 23 = .ok (.iaload, 1) := by decide +kernel
theorem dX10_isLike_24 : decode cX10_isLike 24 = .ok (.if_icmp .eq 5, 3) := by decide +kernel
theorem dX10_isLike_27 : decode cX10_isLike 27 = .ok (.iconst 0, 1) := by decide +kernel
theorem dX10_isLike_28 : decode cX10_isLike 28 = .ok (.ireturn, 1) := by decide +kernel
theorem dX10_isLike_29 : decode cX10_isLike 29 = .ok (.iinc 3 1, 3) := by decide +kernel
theorem dX10_isLike_32 : decode cX10_isLike 32 = .ok (.goto (-30), 3) := by decide +kernel
theorem dX10_isLike_35 : decode cX10_isLike 35 = .ok (.iconst 1, 1) := by decide +kernel
theorem dX10_isLike_36 : decode cX10_isLike 36 = .ok (.ireturn, 1) := by decide +kernel
theorem dX10_hasLike_0 : decode cX10_hasLike 0 = .ok (.iconst 0, 1) := by decide +kernel
theorem dX10_hasLike_1 : decode cX10_hasLike 1 = .ok (.istore 4, 2) := by decide +kernel
theorem dX10_hasLike_3 : decode cX10_hasLike 3 = .ok (.iload 4, 2) := by decide +kernel
theorem dX10_hasLike_5 : decode cX10_hasLike 5 = .ok (.iload_n 2, 1) := by decide +kernel
theorem dX10_hasLike_6 : decode cX10_hasLike 6 = .ok (.if_icmp .ge 34, 3) := by decide +kernel
theorem dX10_hasLike_9 : decode cX10_hasLike 9 = .ok (.aload_n 0, 1) := by decide +kernel
theorem dX10_hasLike_10 : decode cX10_hasLike 10 = .ok (.sipush 3849, 3) := by decide +kernel
theorem dX10_hasLike_13 : decode cX10_hasLike 13 = .ok (.iload_n 1, 1) := by decide +kernel
theorem dX10_hasLike_14 : decode cX10_hasLike 14 = .ok (.imul, 1) := by decide +kernel
theorem dX10_hasLike_15 : decode cX10_hasLike 15 = .ok (.sipush 3129, 3) := by decide +kernel
theorem dX10_hasLike_18 : decode cX10_hasLike 18 = .ok (.iadd, 1) := by decide +kernel
theorem dX10_hasLike_19 : decode cX10_hasLike 19 = .ok (.bipush 12, 2) := by decide +kernel
theorem dX10_hasLike_21 : decode cX10_hasLike 21 = .ok (.iload 4, 2) := by decide +kernel
theorem dX10_hasLike_23 : decode cX10_hasLike 23 = .ok (.imul, 1) := by decide +kernel
theorem dX10_hasLike_24 : decode cX10_hasLike 24 = .ok (.iadd, 1) := by decide +kernel
theorem dX10_hasLike_25 : decode cX10_hasLike 25 = .ok (.iload_n 3, 1) := by decide +kernel
theorem dX10_hasLike_26 : decode cX10_hasLike 26 = .ok (.invokevirtual 292, 3) := by decide +kernel
theorem dX10_hasLike_29 : decode cX10_hasLike 29 = .ok (.ifCond .eq 5, 3) := by decide +kernel
theorem dX10_hasLike_32 : decode cX10_hasLike 32 = .ok (.iconst 1, 1) := by decide +kernel
theorem dX10_hasLike_33 : decode cX10_hasLike 33 = .ok (.ireturn, 1) := by decide +kernel
theorem dX10_hasLike_34 : decode cX10_hasLike 34 = .ok (.iinc 4 1, 3) := by decide +kernel
theorem dX10_hasLike_37 : decode cX10_hasLike 37 = .ok (.goto (-34), 3) := by decide +kernel
theorem dX10_hasLike_40 : decode cX10_hasLike 40 = .ok (.iconst 0, 1) := by decide +kernel
theorem dX10_hasLike_41 : decode cX10_hasLike 41 = .ok (.ireturn, 1) := by decide +kernel
theorem dX10_common_0 : decode cX10_common 0 = .ok (.iload_n 1, 1) := by decide +kernel
theorem dX10_common_1 : decode cX10_common 1 = .ok (.invokestatic 260, 3) := by decide +kernel
theorem dX10_common_4 : decode cX10_common 4 = .ok (.ifCond .eq 10, 3) := by decide +kernel
theorem dX10_common_7 : decode cX10_common 7 = .ok (.iload_n 2, 1) := by decide +kernel
theorem dX10_common_8 : decode cX10_common 8 = .ok (.invokestatic 260, 3) := by decide +kernel
theorem dX10_common_11 : decode cX10_common 11 = .ok (.ifCond .ne 7, 3) := by decide +kernel
theorem dX10_common_14 : decode cX10_common 14 = .ok (.sipush (-2001), 3) := by decide +kernel
theorem dX10_common_17 : decode cX10_common 17 = .ok (.ireturn, 1) := by decide +kernel
theorem dX10_common_18 : decode cX10_common 18 = .ok (.aload_n 0, 1) := by decide +kernel
theorem dX10_common_19 : decode cX10_common 19 = .ok (.iload_n 1, 1) := by decide +kernel
theorem dX10_common_20 : decode cX10_common 20 = .ok (.invokevirtual 280, 3) := by decide +kernel
theorem dX10_common_23 : decode cX10_common 23 = .ok (.ifCond .ne 11, 3) := by decide +kernel
theorem dX10_common_26 : decode cX10_common 26 = .ok (.aload_n 0, 1) := by decide +kernel
theorem dX10_common_27 : decode cX10_common 27 = .ok (.iload_n 2, 1) := by decide +kernel
theorem dX10_common_28 : decode cX10_common 28 = .ok (.invokevirtual 280, 3) := by decide +kernel
theorem dX10_common_31 : decode cX10_common 31 = .ok (.ifCond .eq 7, 3) := by decide +kernel
theorem dX10_common_34 : decode cX10_common 34 = .ok (.sipush (-2003), 3) := by decide +kernel
theorem dX10_common_37 : decode cX10_common 37 = .ok (.ireturn, 1) := by decide +kernel
theorem dX10_common_38 : decode cX10_common 38 = .ok (.iconst 0, 1) := by decide +kernel
theorem dX10_common_39 : decode cX10_common 39 = .ok (.istore_n 3, 1) := by decide +kernel
theorem dX10_common_40 : decode cX10_common 40 = .ok (.iconst 0, 1) := by decide +kernel
theorem dX10_common_41 : decode cX10_common 41 = .ok (.istore 4, 2) := by decide +kernel
theorem dX10_common_43 : decode cX10_common 43 = .ok (.iload 4, 2) := by decide +kernel
theorem dX10_common_45 : decode cX10_common 45 = .ok (.aload_n 0, 1) := by decide +kernel
theorem dX10_common_46 : decode cX10_common 46 = .ok (.getfield 35, 3) := by decide +kernel
theorem dX10_common_49 : decode cX10_common 49 = .ok (.sipush 3849, 3) := by decide +kernel
theorem dX10_common_52 : decode cX10_common 52 = .ok (.iload_n 1, 1) := by decide +kernel
theorem dX10_common_53 : decode cX10_common 53 = .ok (.imul, 1) := by decide +kernel
theorem dX10_common_54 : decode cX10_common 54 = .ok (.bipush 15, 2) := by decide +kernel
theorem dX10_common_56 : decode cX10_common 56 = .ok (.iadd, 1) := by decide +kernel
theorem dX10_common_57 : decode cX10_common 57 = .ok (.iaload, 1) := by decide +kernel
theorem dX10_common_58 : decode cX10_common 58 = .ok (.if_icmp .ge 53, 3) := by decide +kernel
theorem dX10_common_61 : decode cX10_common 61 = .ok (.iload_n 3, 1) := by decide +kernel
theorem dX10_common_62 : decode cX10_common 62 = .ok (.aload_n 0, 1) := by decide +kernel
theorem dX10_common_63 : decode cX10_common 63 = .ok (.iload_n 2, 1) := by decide +kernel
theorem dX10_common_64 : decode cX10_common 64 = .ok (.aload_n 0, 1) := by decide +kernel
theorem dX10_common_65 : decode cX10_common 65 = .ok (.getfield 35, 3) := by decide +kernel
theorem dX10_common_68 : decode cX10_common 68 = .ok (.sipush 3849, 3) := by decide +kernel
theorem dX10_common_71 : decode cX10_common 71 = .ok (.iload_n 2, 1) := by decide +kernel
theorem dX10_common_72 : decode cX10_common 72 = .ok (.imul, 1) := by decide +kernel
theorem dX10_common_73 : decode cX10_common 73 = .ok (.bipush 15, 2) := by decide +kernel
theorem dX10_common_75 : decode cX10_common 75 = .ok (.iadd, 1) := by decide +kernel
theorem dX10_common_76 : decode cX10_common 76 = .ok (.iaload, 1) := by decide +kernel
theorem dX10_common_77 : decode cX10_common 77 = .ok (.sipush 3849, 3) := by decide +kernel
theorem dX10_common_80 : decode cX10_common 80 = .ok (.iload_n 1, 1) := by decide +kernel
theorem dX10_common_81 : decode cX10_common 81 = .ok (.imul, 1) := by decide +kernel
theorem dX10_common_82 : decode cX10_common 82 = .ok (.sipush 3129, 3) := by decide +kernel
theorem dX10_common_85 : decode cX10_common 85 = .ok (.iadd, 1) := by decide +kernel
theorem dX10_common_86 : decode cX10_common 86 = .ok (.bipush 12, 2) := by decide +kernel
theorem dX10_common_88 : decode cX10_common 88 = .ok (.iload 4, 2) := by decide +kernel
theorem dX10_common_90 : decode cX10_common 90 = .ok (.imul, 1) := by decide +kernel
theorem dX10_common_91 : decode cX10_common 91 = .ok (.iadd, 1) := by decide +kernel
theorem dX10_common_92 : decode cX10_common 92 = .ok (.invokevirtual 295, 3) := by decide +kernel
theorem dX10_common_95 : decode cX10_common 95 = .ok (.ifCond .eq 7, 3) := by decide +kernel
theorem dX10_common_98 : decode cX10_common 98 = .ok (.iconst 1, 1) := by decide +kernel
theorem dX10_common_99 : decode cX10_common 99 = .ok (.goto 4, 3) := by decide +kernel
theorem dX10_common_102 : decode cX10_common 102 = .ok (.iconst 0, 1) := by decide +kernel
theorem dX10_common_103 : decode cX10_common 103 = .ok (.iadd, 1) := by decide +kernel
theorem dX10_common_104 : decode cX10_common 104 = .ok (.istore_n 3, 1) := by decide +kernel
theorem dX10_common_105 : decode cX10_common 105 = .ok (.iinc 4 1, 3) := by decide +kernel
theorem dX10_common_108 : decode cX10_common 108 = .ok (.goto (-65), 3) := by decide +kernel
theorem dX10_common_111 : decode cX10_common 111 = .ok (.iload_n 3, 1) := by decide +kernel
theorem dX10_common_112 : decode cX10_common 112 = .ok (.ireturn, 1) := by decide +kernel
theorem dX10_unlike_0 : decode cX10_unlike 0 = .ok (.iload_n 1, 1) := by decide +kernel
theorem dX10_unlike_1 : decode cX10_unlike 1 = .ok (.invokestatic 260, 3) := by decide +kernel
theorem dX10_unlike_4 : decode cX10_unlike 4 = .ok (.ifCond .ne 7, 3) := by decide +kernel
theorem dX10_unlike_7 : decode cX10_unlike 7 = .ok (.sipush (-2001), 3) := by decide +kernel
theorem dX10_unlike_10 : decode cX10_unlike 10 = .ok (.ireturn, 1) := by decide +kernel
theorem dX10_unlike_11 : decode cX10_unlike 11 = .ok (.aload_n 0, 1) := by decide +kernel
theorem dX10_unlike_12 : decode cX10_unlike 12 = .ok (.iload_n 1, 1) := by decide +kernel
theorem dX10_unlike_13 : decode cX10_unlike 13 = .ok (.invokevirtual 280, 3) := by decide +kernel
theorem dX10_unlike_16 : decode cX10_unlike 16 = .ok (.ifCond .eq 7, 3) := by decide +kernel
theorem dX10_unlike_19 : decode cX10_unlike 19 = .ok (.sipush (-2003), 3) := by decide +kernel
theorem dX10_unlike_22 : decode cX10_unlike 22 = .ok (.ireturn, 1) := by decide +kernel
theorem dX10_unlike_23 : decode cX10_unlike 23 = .ok (.iconst 0, 1) := by decide +kernel
theorem dX10_unlike_24 : decode cX10_unlike 24 = .ok (.istore_n 2, 1) := by decide +kernel
theorem dX10_unlike_25 : decode cX10_unlike 25 = .ok (.iconst 0, 1) := by decide +kernel
theorem dX10_unlike_26 : decode cX10_unlike 26 = .ok (.istore_n 3, 1) := by decide +kernel
theorem dX10_unlike_27 : decode cX10_unlike 27 = .ok (.iload_n 3, 1) := by decide +kernel
theorem dX10_unlike_28 : decode cX10_unlike 28 = .ok (.aload_n 0, 1) := by decide +kernel
theorem dX10_unlike_29 : decode cX10_unlike 29 = .ok (.getfield 35, 3) := by decide +kernel
theorem dX10_unlike_32 : decode cX10_unlike 32 = .ok (.sipush 3849, 3) := by decide +kernel
theorem dX10_unlike_35 : decode cX10_unlike 35 = .ok (.iload_n 1, 1) := by decide +kernel
theorem dX10_unlike_36 : decode cX10_unlike 36 = .ok (.imul, 1) := by decide +kernel
theorem dX10_unlike_37 : decode cX10_unlike 37 = .ok (.bipush 15, 2) := by decide +kernel
theorem dX10_unlike_39 : decode cX10_unlike 39 = .ok (.iadd, 1) := by decide +kernel
theorem dX10_unlike_40 : decode cX10_unlike 40 = .ok (.iaload, 1) := by decide +kernel
theorem dX10_unlike_41 : decode cX10_unlike 41 = .ok (.if_icmp .ge 40, 3) := by decide +kernel
theorem dX10_unlike_44 : decode cX10_unlike 44 = .ok (.iload_n 2, 1) := by decide +kernel
theorem dX10_unlike_45 : decode cX10_unlike 45 = .ok (.aload_n 0, 1) := by decide +kernel
theorem dX10_unlike_46 : decode cX10_unlike 46 = .ok (.iload_n 1, 1) := by decide +kernel
theorem dX10_unlike_47 : decode cX10_unlike 47 = .ok (.iload_n 3, 1) := by decide +kernel
theorem dX10_unlike_48 : decode cX10_unlike 48 = .ok (.sipush 3849, 3) := by decide +kernel
theorem dX10_unlike_51 : decode cX10_unlike 51 = .ok (.iload_n 1, 1) := by decide +kernel
theorem dX10_unlike_52 : decode cX10_unlike 52 = .ok (.imul, 1) := by decide +kernel
theorem dX10_unlike_53 : decode cX10_unlike 53 = .ok (.sipush 3129, 3) := by decide +kernel
theorem dX10_unlike_56 : decode cX10_unlike 56 = .ok (.iadd, 1) := by decide +kernel
theorem dX10_unlike_57 : decode cX10_unlike 57 = .ok (.bipush 12, 2) := by decide +kernel
theorem dX10_unlike_59 : decode cX10_unlike 59 = .ok (.iload_n 3, 1) := by decide +kernel
theorem dX10_unlike_60 : decode cX10_unlike 60 = .ok (.imul, 1) := by decide +kernel
theorem dX10_unlike_61 : decode cX10_unlike 61 = .ok (.iadd, 1) := by decide +kernel
theorem dX10_unlike_62 : decode cX10_unlike 62 = .ok (.invokevirtual 295, 3) := by decide +kernel
theorem dX10_unlike_65 : decode cX10_unlike 65 = .ok (.ifCond .eq 7, 3) := by decide +kernel
theorem dX10_unlike_68 : decode cX10_unlike 68 = .ok (.iconst 0, 1) := by decide +kernel
theorem dX10_unlike_69 : decode cX10_unlike 69 = .ok (.goto 4, 3) := by decide +kernel
theorem dX10_unlike_72 : decode cX10_unlike 72 = .ok (.iconst 1, 1) := by decide +kernel
theorem dX10_unlike_73 : decode cX10_unlike 73 = .ok (.iadd, 1) := by decide +kernel
theorem dX10_unlike_74 : decode cX10_unlike 74 = .ok (.istore_n 2, 1) := by decide +kernel
theorem dX10_unlike_75 : decode cX10_unlike 75 = .ok (.iinc 3 1, 3) := by decide +kernel
theorem dX10_unlike_78 : decode cX10_unlike 78 = .ok (.goto (-51), 3) := by decide +kernel
theorem dX10_unlike_81 : decode cX10_unlike 81 = .ok (.iload_n 2, 1) := by decide +kernel
theorem dX10_unlike_82 : decode cX10_unlike 82 = .ok (.ireturn, 1) := by decide +kernel
theorem dX10_turn_0 : decode cX10_turn 0 = .ok (.iload_n 1, 1) := by decide +kernel
theorem dX10_turn_1 : decode cX10_turn 1 = .ok (.invokestatic 260, 3) := by decide +kernel
theorem dX10_turn_4 : decode cX10_turn 4 = .ok (.ifCond .eq 15, 3) := by decide +kernel
theorem dX10_turn_7 : decode cX10_turn 7 = .ok (.iload_n 2, 1) := by decide +kernel
theorem dX10_turn_8 : decode cX10_turn 8 = .ok (.i2l, 1) := by decide +kernel
theorem dX10_turn_9 : decode cX10_turn 9 = .ok (.lconst 0, 1) := by decide +kernel
theorem dX10_turn_10 : decode cX10_turn 10 = .ok (.ldc2_w 299, 3) := by decide +kernel
theorem dX10_turn_13 : decode cX10_turn 13 = .ok (.invokestatic 43, 3) := by decide +kernel
theorem dX10_turn_16 : decode cX10_turn 16 = .ok (.ifCond .ne 7, 3) := by decide +kernel
theorem dX10_turn_19 : decode cX10_turn 19 = .ok (.sipush (-2001), 3) := by decide +kernel
theorem dX10_turn_22 : decode cX10_turn 22 = .ok (.ireturn, 1) := by decide +kernel
theorem dX10_turn_23 : decode cX10_turn 23 = .ok (.sipush 3849, 3) := by decide +kernel
theorem dX10_turn_26 : decode cX10_turn 26 = .ok (.iload_n 1, 1) := by decide +kernel
theorem dX10_turn_27 : decode cX10_turn 27 = .ok (.imul, 1) := by decide +kernel
theorem dX10_turn_28 : decode cX10_turn 28 = .ok (.iconst 1, 1) := by decide +kernel
theorem dX10_turn_29 : decode cX10_turn 29 = .ok (.iadd, 1) := by decide +kernel
theorem dX10_turn_30 : decode cX10_turn 30 = .ok (.istore_n 3, 1) := by decide +kernel
theorem dX10_turn_31 : decode cX10_turn 31 = .ok (.aload_n 0, 1) := by decide +kernel
theorem dX10_turn_32 : decode cX10_turn 32 = .ok (.iload_n 1, 1) := by decide +kernel
theorem dX10_turn_33 : decode cX10_turn 33 = .ok (.invokevirtual 280, 3) := by decide +kernel
theorem dX10_turn_36 : decode cX10_turn 36 = .ok (.ifCond .ne 13, 3) := by decide +kernel
theorem dX10_turn_39 : decode cX10_turn 39 = .ok (.aload_n 0, 1) := by decide +kernel
theorem dX10_turn_40 : decode cX10_turn 40 = .ok (.getfield 35, 3) := by decide +kernel
theorem dX10_turn_43 : decode cX10_turn 43 = .ok (.iload_n 3, 1) := by decide +kernel
theorem dX10_turn_44 : decode cX10_turn 44 = .ok (.iaload, 1) := by decide +kernel
theorem dX10_turn_45 : decode cX10_turn 45 = .ok (.iconst 5, 1) := by decide +kernel
theorem dX10_turn_46 : decode cX10_turn 46 = .ok (.if_icmp .ne 7, 3) := by decide +kernel
theorem dX10_turn_49 : decode cX10_turn 49 = .ok (.sipush (-2003), 3) := by decide +kernel
theorem dX10_turn_52 : decode cX10_turn 52 = .ok (.ireturn, 1) := by decide +kernel
theorem dX10_turn_53 : decode cX10_turn 53 = .ok (.aload_n 0, 1) := by decide +kernel
theorem dX10_turn_54 : decode cX10_turn 54 = .ok (.getfield 35, 3) := by decide +kernel
theorem dX10_turn_57 : decode cX10_turn 57 = .ok (.iload_n 3, 1) := by decide +kernel
theorem dX10_turn_58 : decode cX10_turn 58 = .ok (.iaload, 1) := by decide +kernel
theorem dX10_turn_59 : decode cX10_turn 59 = .ok (.istore 4, 2) := by decide +kernel
theorem dX10_turn_61 : decode cX10_turn 61 = .ok (.aload_n 0, 1) := by decide +kernel
theorem dX10_turn_62 : decode cX10_turn 62 = .ok (.getfield 35, 3) := by decide +kernel
theorem dX10_turn_65 : decode cX10_turn 65 = .ok (.iload_n 3, 1) := by decide +kernel
theorem dX10_turn_66 : decode cX10_turn 66 = .ok (.iload_n 2, 1) := by decide +kernel
theorem dX10_turn_67 : decode cX10_turn 67 = .ok (.iastore, 1) := by decide +kernel
theorem dX10_turn_68 : decode cX10_turn 68 = .ok (.iload 4, 2) := by decide +kernel
theorem dX10_turn_70 : decode cX10_turn 70 = .ok (.ireturn, 1) := by decide +kernel
theorem dX10_copy_0 : decode cX10_copy 0 = .ok (.iload_n 1, 1) := by decide +kernel
theorem dX10_copy_1 : decode cX10_copy 1 = .ok (.invokestatic 260, 3) := by decide +kernel
theorem dX10_copy_4 : decode cX10_copy 4 = .ok (.ifCond .eq 10, 3) := by decide +kernel
theorem dX10_copy_7 : decode cX10_copy 7 = .ok (.iload_n 2, 1) := by decide +kernel
theorem dX10_copy_8 : decode cX10_copy 8 = .ok (.invokestatic 260, 3) := by decide +kernel
theorem dX10_copy_11 : decode cX10_copy 11 = .ok (.ifCond .ne 7, 3) := by decide +kernel
theorem dX10_copy_14 : decode cX10_copy 14 = .ok (.sipush (-2001), 3) := by decide +kernel
theorem dX10_copy_17 : decode cX10_copy 17 = .ok (.ireturn, 1) := by decide +kernel
theorem dX10_copy_18 : decode cX10_copy 18 = .ok (.aload_n 0, 1) := by decide +kernel
theorem dX10_copy_19 : decode cX10_copy 19 = .ok (.iload_n 1, 1) := by decide +kernel
theorem dX10_copy_20 : decode cX10_copy 20 = .ok (.invokevirtual 280, 3) := by decide +kernel
theorem dX10_copy_23 : decode cX10_copy 23 = .ok (.ifCond .eq 7, 3) := by decide +kernel
theorem dX10_copy_26 : decode cX10_copy 26 = .ok (.sipush (-2003), 3) := by decide +kernel
theorem dX10_copy_29 : decode cX10_copy 29 = .ok (.ireturn, 1) := by decide +kernel
theorem dX10_copy_30 : decode cX10_copy 30 = .ok (.aload_n 0, 1) := by decide +kernel
theorem dX10_copy_31 : decode cX10_copy 31 = .ok (.getfield 35, 3) := by decide +kernel
theorem dX10_copy_34 : decode cX10_copy 34 = .ok (.sipush 3849, 3) := by decide +kernel
theorem dX10_copy_37 : decode cX10_copy 37 = .ok (.iload_n 1, 1) := by decide +kernel
theorem dX10_copy_38 : decode cX10_copy 38 = .ok (.imul, 1) := by decide +kernel
theorem dX10_copy_39 : decode cX10_copy 39 = .ok (.aload_n 0, 1) := by decide +kernel
theorem dX10_copy_40 : decode cX10_copy 40 = .ok (.getfield 35, 3) := by decide +kernel
theorem dX10_copy_43 : decode cX10_copy 43 = .ok (.sipush 3849, 3) := by decide +kernel
theorem dX10_copy_46 : decode cX10_copy 46 = .ok (.iload_n 2, 1) := by decide +kernel
theorem dX10_copy_47 : decode cX10_copy 47 = .ok (.imul, 1) := by decide +kernel
theorem dX10_copy_48 : decode cX10_copy 48 = .ok (.iload_n 1, 1) := by decide +kernel
theorem dX10_copy_49 : decode cX10_copy 49 = .ok (.iload_n 2, 1) := by decide +kernel
theorem dX10_copy_50 : decode cX10_copy 50 = .ok (.if_icmp .ne 7, 3) := by decide +kernel
theorem dX10_copy_53 : decode cX10_copy 53 = .ok (.iconst 0, 1) := by decide +kernel
theorem dX10_copy_54 : decode cX10_copy 54 = .ok (.goto 6, 3) := by decide +kernel
theorem dX10_copy_57 : decode cX10_copy 57 = .ok (.sipush 3849, 3) := by decide +kernel
theorem dX10_copy_60 : decode cX10_copy 60 = .ok (.invokestatic 173, 3) := by decide +kernel
theorem dX10_copy_63 : decode cX10_copy 63 = .ok (.aload_n 0, 1) := by decide +kernel
theorem dX10_copy_64 : decode cX10_copy 64 = .ok (.getfield 35, 3) := by decide +kernel
theorem dX10_copy_67 : decode cX10_copy 67 = .ok (.sipush 3849, 3) := by decide +kernel
theorem dX10_copy_70 : decode cX10_copy 70 = .ok (.iload_n 2, 1) := by decide +kernel
theorem dX10_copy_71 : decode cX10_copy 71 = .ok (.imul, 1) := by decide +kernel
theorem dX10_copy_72 : decode cX10_copy 72 = .ok (.bipush 15, 2) := by decide +kernel
theorem dX10_copy_74 : decode cX10_copy 74 = .ok (.iadd, 1) := by decide +kernel
theorem dX10_copy_75 : decode cX10_copy 75 = .ok (.iaload, 1) := by decide +kernel
theorem dX10_copy_76 : decode cX10_copy 76 = .ok (.ireturn, 1) := by decide +kernel
theorem dX10_would_0 : decode cX10_would 0 = .ok (.iload_n 1, 1) := by decide +kernel
theorem dX10_would_1 : decode cX10_would 1 = .ok (.invokestatic 260, 3) := by decide +kernel
theorem dX10_would_4 : decode cX10_would 4 = .ok (.ifCond .eq 27, 3) := by decide +kernel
theorem dX10_would_7 : decode cX10_would 7 = .ok (.iload_n 2, 1) := by decide +kernel
theorem dX10_would_8 : decode cX10_would 8 = .ok (.i2l, 1) := by decide +kernel
theorem dX10_would_9 : decode cX10_would 9 = .ok (.lconst 1, 1) := by decide +kernel
theorem dX10_would_10 : decode cX10_would 10 = .ok (.ldc2_w 268, 3) := by decide +kernel
theorem dX10_would_13 : decode cX10_would 13 = .ok (.invokestatic 43, 3) := by decide +kernel
theorem dX10_would_16 : decode cX10_would 16 = .ok (.ifCond .eq 15, 3) := by decide +kernel
theorem dX10_would_19 : decode cX10_would 19 = .ok (.iload_n 3, 1) := by decide +kernel
theorem dX10_would_20 : decode cX10_would 20 = .ok (.i2l, 1) := by decide +kernel
theorem dX10_would_21 : decode cX10_would 21 = .ok (.lconst 0, 1) := by decide +kernel
theorem dX10_would_22 : decode cX10_would 22 = .ok (.ldc2_w 231, 3) := by decide +kernel
theorem dX10_would_25 : decode cX10_would 25 = .ok (.invokestatic 43, 3) := by decide +kernel
theorem dX10_would_28 : decode cX10_would 28 = .ok (.ifCond .ne 7, 3) := by decide +kernel
theorem dX10_would_31 : decode cX10_would 31 = .ok (.sipush (-2001), 3) := by decide +kernel
theorem dX10_would_34 : decode cX10_would 34 = .ok (.ireturn, 1) := by decide +kernel
theorem dX10_would_35 : decode cX10_would 35 = .ok (.aload_n 0, 1) := by decide +kernel
theorem dX10_would_36 : decode cX10_would 36 = .ok (.iload_n 1, 1) := by decide +kernel
theorem dX10_would_37 : decode cX10_would 37 = .ok (.invokevirtual 280, 3) := by decide +kernel
theorem dX10_would_40 : decode cX10_would 40 = .ok (.ifCond .eq 7, 3) := by decide +kernel
theorem dX10_would_43 : decode cX10_would 43 = .ok (.sipush (-2003), 3) := by decide +kernel
theorem dX10_would_46 : decode cX10_would 46 = .ok (.ireturn, 1) := by decide +kernel
theorem dX10_would_47 : decode cX10_would 47 = .ok (.aload_n 0, 1) := by decide +kernel
theorem dX10_would_48 : decode cX10_would 48 = .ok (.getfield 35, 3) := by decide +kernel
theorem dX10_would_51 : decode cX10_would 51 = .ok (.sipush 3849, 3) := by decide +kernel
theorem dX10_would_54 : decode cX10_would 54 = .ok (.iload_n 1, 1) := by decide +kernel
theorem dX10_would_55 : decode cX10_would 55 = .ok (.imul, 1) := by decide +kernel
theorem dX10_would_56 : decode cX10_would 56 = .ok (.aload_n 0, 1) := by decide +kernel
theorem dX10_would_57 : decode cX10_would 57 = .ok (.getfield 35, 3) := by decide +kernel
theorem dX10_would_60 : decode cX10_would 60 = .ok (.sipush 15396, 3) := by decide +kernel
theorem dX10_would_63 : decode cX10_would 63 = .ok (.sipush 3849, 3) := by decide +kernel
theorem dX10_would_66 : decode cX10_would 66 = .ok (.invokestatic 173, 3) := by decide +kernel
theorem dX10_would_69 : decode cX10_would 69 = .ok (.aload_n 0, 1) := by decide +kernel
theorem dX10_would_70 : decode cX10_would 70 = .ok (.iconst 4, 1) := by decide +kernel
theorem dX10_would_71 : decode cX10_would 71 = .ok (.invokevirtual 265, 3) := by decide +kernel
theorem dX10_would_74 : decode cX10_would 74 = .ok (.aload_n 0, 1) := by decide +kernel
theorem dX10_would_75 : decode cX10_would 75 = .ok (.getfield 35, 3) := by decide +kernel
theorem dX10_would_78 : decode cX10_would 78 = .ok (.aload_n 0, 1) := by decide +kernel
theorem dX10_would_79 : decode cX10_would 79 = .ok (.getfield 156, 3) := by decide +kernel
theorem dX10_would_82 : decode cX10_would 82 = .ok (.iconst 0, 1) := by decide +kernel
theorem dX10_would_83 : decode cX10_would 83 = .ok (.iadd, 1) := by decide +kernel
theorem dX10_would_84 : decode cX10_would 84 = .ok (.iaload, 1) := by decide +kernel
theorem dX10_would_85 : decode cX10_would 85 = .ok (.iconst 1, 1) := by decide +kernel
theorem dX10_would_86 : decode cX10_would 86 = .ok (.if_icmp .ne 9, 3) := by decide +kernel
theorem dX10_would_89 : decode cX10_would 89 = .ok (.aload_n 0, 1) := by decide +kernel
theorem dX10_would_90 : decode cX10_would 90 = .ok (.iload_n 2, 1) := by decide +kernel
theorem dX10_would_91 : decode cX10_would 91 = .ok (.invokevirtual 275, 3) := by decide +kernel
theorem dX10_would_94 : decode cX10_would 94 = .ok (.pop, 1) := by decide +kernel
theorem dX10_would_95 : decode cX10_would 95 = .ok (.iload_n 3, 1) := by decide +kernel
theorem dX10_would_96 : decode cX10_would 96 = .ok (.ifCond .ne 18, 3) := by decide +kernel
theorem dX10_would_99 : decode cX10_would 99 = .ok (.aload_n 0, 1) := by decide +kernel
theorem dX10_would_100 : decode cX10_would 100 = .ok (.getfield 35, 3) := by decide +kernel
theorem dX10_would_103 : decode cX10_would 103 = .ok (.aload_n 0, 1) := by decide +kernel
theorem dX10_would_104 : decode cX10_would 104 = .ok (.getfield 156, 3) := by decide +kernel
theorem dX10_would_107 : decode cX10_would 107 = .ok (.bipush 15, 2) := by decide +kernel
theorem dX10_would_109 : decode cX10_would 109 = .ok (.iadd, 1) := by decide +kernel
theorem dX10_would_110 : decode cX10_would 110 = .ok (.iaload, 1) := by decide +kernel
theorem dX10_would_111 : decode cX10_would 111 = .ok (.goto 42, 3) := by decide +kernel
theorem dX10_would_114 : decode cX10_would 114 = .ok (.iload_n 3, 1) := by decide +kernel
theorem dX10_would_115 : decode cX10_would 115 = .ok (.iconst 1, 1) := by decide +kernel
theorem dX10_would_116 : decode cX10_would 116 = .ok (.if_icmp .ne 26, 3) := by decide +kernel
theorem dX10_would_119 : decode cX10_would 119 = .ok (.aload_n 0, 1) := by decide +kernel
theorem dX10_would_120 : decode cX10_would 120 = .ok (.getfield 35, 3) := by decide +kernel
theorem dX10_would_123 : decode cX10_would 123 = .ok (.aload_n 0, 1) := by decide +kernel
theorem dX10_would_124 : decode cX10_would 124 = .ok (.getfield 156, 3) := by decide +kernel
theorem dX10_would_127 : decode cX10_would 127 = .ok (.iconst 0, 1) := by decide +kernel
theorem dX10_would_128 : decode cX10_would 128 = .ok (.iadd, 1) := by decide +kernel
theorem dX10_would_129 : decode cX10_would 129 = .ok (.iaload, 1) := by decide +kernel
theorem dX10_would_130 : decode cX10_would 130 = .ok (.iconst 2, 1) := by decide +kernel
theorem dX10_would_131 : decode cX10_would 131 = .ok (.if_icmp .ne 7, 3) := by decide +kernel
theorem dX10_would_134 : decode cX10_would 134 = .ok (.iconst 1, 1) := by decide +kernel
theorem dX10_would_135 : decode cX10_would 135 = .ok (.goto 18, 3) := by decide +kernel
theorem dX10_would_138 : decode cX10_would 138 = .ok (.iconst 0, 1) := by decide +kernel
theorem dX10_would_139 : decode cX10_would 139 = .ok (.goto 14, 3) := by decide +kernel
theorem dX10_would_142 : decode cX10_would 142 = .ok (.aload_n 0, 1) := by decide +kernel
theorem dX10_would_143 : decode cX10_would 143 = .ok (.getfield 35, 3) := by decide +kernel
theorem dX10_would_146 : decode cX10_would 146 = .ok (.aload_n 0, 1) := by decide +kernel
theorem dX10_would_147 : decode cX10_would 147 = .ok (.getfield 156, 3) := by decide +kernel
theorem dX10_would_150 : decode cX10_would 150 = .ok (.iconst 4, 1) := by decide +kernel
theorem dX10_would_151 : decode cX10_would 151 = .ok (.iadd, 1) := by decide +kernel
theorem dX10_would_152 : decode cX10_would 152 = .ok (.iaload, 1) := by decide +kernel
theorem dX10_would_153 : decode cX10_would 153 = .ok (.ireturn, 1) := by decide +kernel
theorem dX10_count_0 : decode cX10_count 0 = .ok (.iconst 0, 1) := by decide +kernel
theorem dX10_count_1 : decode cX10_count 1 = .ok (.istore_n 2, 1) := by decide +kernel
theorem dX10_count_2 : decode cX10_count 2 = .ok (.iload_n 1, 1) := by decide +kernel
theorem dX10_count_3 : decode cX10_count 3 = .ok (.tableswitch 149 0 3 #[29, 62, 67, 106], 29) := by decide +kernel
theorem dX10_count_32 : decode cX10_count 32 = .ok (.iconst 0, 1) := by decide +kernel
theorem dX10_count_33 : decode cX10_count 33 = .ok (.istore_n 3, 1) := by decide +kernel
theorem dX10_count_34 : decode cX10_count 34 = .ok (.iload_n 3, 1) := by decide +kernel
theorem dX10_count_35 : decode cX10_count 35 = .ok (.iconst 4, 1) := by decide +kernel
theorem dX10_count_36 : decode cX10_count 36 = .ok (.if_icmp .ge 27, 3) := by decide +kernel
theorem dX10_count_39 : decode cX10_count 39 = .ok (.iload_n 2, 1) := by decide +kernel
theorem dX10_count_40 : decode cX10_count 40 = .ok (.aload_n 0, 1) := by decide +kernel
theorem dX10_count_41 : decode cX10_count 41 = .ok (.getfield 29, 3) := by decide +kernel
theorem dX10_count_44 : decode cX10_count 44 = .ok (.iload_n 3, 1) := by decide +kernel
theorem dX10_count_45 : decode cX10_count 45 = .ok (.iaload, 1) := by decide +kernel
theorem dX10_count_46 : decode cX10_count 46 = .ok (.iconst (-1), 1) := by decide +kernel
theorem dX10_count_47 : decode cX10_count 47 = .ok (.if_icmp .ne 7, 3) := by decide +kernel
theorem dX10_count_50 : decode cX10_count 50 = .ok (.iconst 0, 1) := by decide +kernel
theorem dX10_count_51 : decode cX10_count 51 = .ok (.goto 4, 3) := by decide +kernel
theorem dX10_count_54 : decode cX10_count 54 = .ok (.iconst 1, 1) := by decide +kernel
theorem dX10_count_55 : decode cX10_count 55 = .ok (.iadd, 1) := by decide +kernel
theorem dX10_count_56 : decode cX10_count 56 = .ok (.istore_n 2, 1) := by decide +kernel
theorem dX10_count_57 : decode cX10_count 57 = .ok (.iinc 3 1, 3) := by decide +kernel
theorem dX10_count_60 : decode cX10_count 60 = .ok (.goto (-26), 3) := by decide +kernel
theorem dX10_count_63 : decode cX10_count 63 = .ok (.iload_n 2, 1) := by decide +kernel
theorem dX10_count_64 : decode cX10_count 64 = .ok (.ireturn, 1) := by decide +kernel
theorem dX10_count_65 : decode cX10_count 65 = .ok (.aload_n 0, 1) := by decide +kernel
theorem dX10_count_66 : decode cX10_count 66 = .ok (.getfield 47, 3) := by decide +kernel
theorem dX10_count_69 : decode cX10_count 69 = .ok (.ireturn, 1) := by decide +kernel
theorem dX10_count_70 : decode cX10_count 70 = .ok (.iconst 0, 1) := by decide +kernel
theorem dX10_count_71 : decode cX10_count 71 = .ok (.istore_n 3, 1) := by decide +kernel
theorem dX10_count_72 : decode cX10_count 72 = .ok (.iload_n 3, 1) := by decide +kernel
theorem dX10_count_73 : decode cX10_count 73 = .ok (.iconst 4, 1) := by decide +kernel
theorem dX10_count_74 : decode cX10_count 74 = .ok (.if_icmp .ge 33, 3) := by decide +kernel
theorem dX10_count_77 : decode cX10_count 77 = .ok (.iload_n 2, 1) := by decide +kernel
theorem dX10_count_78 : decode cX10_count 78 = .ok (.aload_n 0, 1) := by decide +kernel
theorem dX10_count_79 : decode cX10_count 79 = .ok (.getfield 35, 3) := by decide +kernel
theorem dX10_count_82 : decode cX10_count 82 = .ok (.sipush 3849, 3) := by decide +kernel
theorem dX10_count_85 : decode cX10_count 85 = .ok (.iload_n 3, 1) := by decide +kernel
theorem dX10_count_86 : decode cX10_count 86 = .ok (.imul, 1) := by decide +kernel
theorem dX10_count_87 : decode cX10_count 87 = .ok (.iconst 0, 1) := by decide +kernel
theorem dX10_count_88 : decode cX10_count 88 = .ok (.iadd, 1) := by decide +kernel
theorem dX10_count_89 : decode cX10_count 89 = .ok (.iaload, 1) := by decide +kernel
theorem dX10_count_90 : decode cX10_count 90 = .ok (.iconst 1, 1) := by decide +kernel
theorem dX10_count_91 : decode cX10_count 91 = .ok (.if_icmp .ne 7, 3) := by decide +kernel
theorem dX10_count_94 : decode cX10_count 94 = .ok (.iconst 1, 1) := by decide +kernel
theorem dX10_count_95 : decode cX10_count 95 = .ok (.goto 4, 3) := by decide +kernel
theorem dX10_count_98 : decode cX10_count 98 = .ok (.iconst 0, 1) := by decide +kernel
theorem dX10_count_99 : decode cX10_count 99 = .ok (.iadd, 1) := by decide +kernel
theorem dX10_count_100 : decode cX10_count 100 = .ok (.istore_n 2, 1) := by decide +kernel
theorem dX10_count_101 : decode cX10_count 101 = .ok (.iinc 3 1, 3) := by decide +kernel
theorem dX10_count_104 : decode cX10_count 104 = .ok (.goto (-32), 3) := by decide +kernel
theorem dX10_count_107 : decode cX10_count 107 = .ok (.iload_n 2, 1) := by decide +kernel
theorem dX10_count_108 : decode cX10_count 108 = .ok (.ireturn, 1) := by decide +kernel
theorem dX10_count_109 : decode cX10_count 109 = .ok (.iconst 0, 1) := by decide +kernel
theorem dX10_count_110 : decode cX10_count 110 = .ok (.istore_n 3, 1) := by decide +kernel
theorem dX10_count_111 : decode cX10_count 111 = .ok (.iload_n 3, 1) := by decide +kernel
theorem dX10_count_112 : decode cX10_count 112 = .ok (.iconst 4, 1) := by decide +kernel
theorem dX10_count_113 : decode cX10_count 113 = .ok (.if_icmp .ge 37, 3) := by decide +kernel
theorem dX10_count_116 : decode cX10_count 116 = .ok (.iload_n 2, 1) := by decide +kernel
theorem dX10_count_117 : decode cX10_count 117 = .ok (.aload_n 0, 1) := by decide +kernel
theorem dX10_count_118 : decode cX10_count 118 = .ok (.iload_n 3, 1) := by decide +kernel
theorem dX10_count_119 : decode cX10_count 119 = .ok (.invokevirtual 280, 3) := by decide +kernel
theorem dX10_count_122 : decode cX10_count 122 = .ok (.ifCond .eq 7, 3) := by decide +kernel
theorem dX10_count_125 : decode cX10_count 125 = .ok (.iconst 0, 1) := by decide +kernel
theorem dX10_count_126 : decode cX10_count 126 = .ok (.goto 16, 3) := by decide +kernel
theorem dX10_count_129 : decode cX10_count 129 = .ok (.aload_n 0, 1) := by decide +kernel
theorem dX10_count_130 : decode cX10_count 130 = .ok (.getfield 35, 3) := by decide +kernel
theorem dX10_count_133 : decode cX10_count 133 = .ok (.sipush 3849, 3) := by decide +kernel
theorem dX10_count_136 : decode cX10_count 136 = .ok (.iload_n 3, 1) := by decide +kernel
theorem dX10_count_137 : decode cX10_count 137 = .ok (.imul, 1) := by decide +kernel
theorem dX10_count_138 : decode cX10_count 138 = .ok (.bipush 15, 2) := by decide +kernel
theorem dX10_count_140 : decode cX10_count 140 = .ok (.iadd, 1) := by decide +kernel
theorem dX10_count_141 : decode cX10_count 141 = .ok (.iaload, 1) := by decide +kernel
theorem dX10_count_142 : decode cX10_count 142 = .ok (.iadd, 1) := by decide +kernel
theorem dX10_count_143 : decode cX10_count 143 = .ok (.istore_n 2, 1) := by decide +kernel
theorem dX10_count_144 : decode cX10_count 144 = .ok (.iinc 3 1, 3) := by decide +kernel
theorem dX10_count_147 : decode cX10_count 147 = .ok (.goto (-36), 3) := by decide +kernel
theorem dX10_count_150 : decode cX10_count 150 = .ok (.iload_n 2, 1) := by decide +kernel
theorem dX10_count_151 : decode cX10_count 151 = .ok (.ireturn, 1) := by decide +kernel
theorem dX10_count_152 : decode cX10_count 152 = .ok (.sipush (-2001), 3) := by decide +kernel
theorem dX10_count_155 : decode cX10_count 155 = .ok (.ireturn, 1) := by decide +kernel
