theorem dX9_init_0 : decode cX9_init 0 = .ok (.aload_n 0, 1) := by decide +kernel
theorem dX9_init_1 : decode cX9_init 1 = .ok (.invokespecial 1, 3) := by decide +kernel
theorem dX9_init_4 : decode cX9_init 4 = .ok (.aload_n 0, 1) := by decide +kernel
theorem dX9_init_5 : decode cX9_init 5 = .ok (.sipush 186, 3) := by decide +kernel
theorem dX9_init_8 : decode cX9_init 8 = .ok (.newarray .int, 2) := by decide +kernel
theorem dX9_init_10 : decode cX9_init 10 = .ok (.putfield 7, 3) := by decide +kernel
theorem dX9_init_13 : decode cX9_init 13 = .ok (.aload_n 0, 1) := by decide +kernel
theorem dX9_init_14 : decode cX9_init 14 = .ok (.bipush 62, 2) := by decide +kernel
theorem dX9_init_16 : decode cX9_init 16 = .ok (.newarray .int, 2) := by decide +kernel
theorem dX9_init_18 : decode cX9_init 18 = .ok (.putfield 13, 3) := by decide +kernel
theorem dX9_init_21 : decode cX9_init 21 = .ok (.aload_n 0, 1) := by decide +kernel
theorem dX9_init_22 : decode cX9_init 22 = .ok (.iconst 2, 1) := by decide +kernel
theorem dX9_init_23 : decode cX9_init 23 = .ok (.newarray .boolean, 2) := by decide +kernel
theorem dX9_init_25 : decode cX9_init 25 = .ok (.putfield 16, 3) := by decide +kernel
theorem dX9_init_28 : decode cX9_init 28 = .ok (.aload_n 0, 1) := by decide +kernel
theorem dX9_init_29 : decode cX9_init 29 = .ok (.bipush 62, 2) := by decide +kernel
theorem dX9_init_31 : decode cX9_init 31 = .ok (.newarray .int, 2) := by decide +kernel
theorem dX9_init_33 : decode cX9_init 33 = .ok (.putfield 20, 3) := by decide +kernel
theorem dX9_init_36 : decode cX9_init 36 = .ok (.aload_n 0, 1) := by decide +kernel
theorem dX9_init_37 : decode cX9_init 37 = .ok (.sipush 160, 3) := by decide +kernel
theorem dX9_init_40 : decode cX9_init 40 = .ok (.newarray .int, 2) := by decide +kernel
theorem dX9_init_42 : decode cX9_init 42 = .ok (.putfield 23, 3) := by decide +kernel
theorem dX9_init_45 : decode cX9_init 45 = .ok (.aload_n 0, 1) := by decide +kernel
theorem dX9_init_46 : decode cX9_init 46 = .ok (.iconst 4, 1) := by decide +kernel
theorem dX9_init_47 : decode cX9_init 47 = .ok (.newarray .int, 2) := by decide +kernel
theorem dX9_init_49 : decode cX9_init 49 = .ok (.putfield 26, 3) := by decide +kernel
theorem dX9_init_52 : decode cX9_init 52 = .ok (.aload_n 0, 1) := by decide +kernel
theorem dX9_init_53 : decode cX9_init 53 = .ok (.iconst 4, 1) := by decide +kernel
theorem dX9_init_54 : decode cX9_init 54 = .ok (.newarray .int, 2) := by decide +kernel
theorem dX9_init_56 : decode cX9_init 56 = .ok (.putfield 29, 3) := by decide +kernel
theorem dX9_init_59 : decode cX9_init 59 = .ok (.aload_n 0, 1) := by decide +kernel
theorem dX9_init_60 : decode cX9_init 60 = .ok (.bipush 84, 2) := by decide +kernel
theorem dX9_init_62 : decode cX9_init 62 = .ok (.newarray .int, 2) := by decide +kernel
theorem dX9_init_64 : decode cX9_init 64 = .ok (.putfield 32, 3) := by decide +kernel
theorem dX9_init_67 : decode cX9_init 67 = .ok (.aload_n 0, 1) := by decide +kernel
theorem dX9_init_68 : decode cX9_init 68 = .ok (.sipush 840, 3) := by decide +kernel
theorem dX9_init_71 : decode cX9_init 71 = .ok (.newarray .int, 2) := by decide +kernel
theorem dX9_init_73 : decode cX9_init 73 = .ok (.putfield 35, 3) := by decide +kernel
theorem dX9_init_76 : decode cX9_init 76 = .ok (.aload_n 0, 1) := by decide +kernel
theorem dX9_init_77 : decode cX9_init 77 = .ok (.iconst 4, 1) := by decide +kernel
theorem dX9_init_78 : decode cX9_init 78 = .ok (.newarray .int, 2) := by decide +kernel
theorem dX9_init_80 : decode cX9_init 80 = .ok (.putfield 38, 3) := by decide +kernel
theorem dX9_init_83 : decode cX9_init 83 = .ok (.aload_n 0, 1) := by decide +kernel
theorem dX9_init_84 : decode cX9_init 84 = .ok (.iconst 4, 1) := by decide +kernel
theorem dX9_init_85 : decode cX9_init 85 = .ok (.newarray .int, 2) := by decide +kernel
theorem dX9_init_87 : decode cX9_init 87 = .ok (.putfield 41, 3) := by decide +kernel
theorem dX9_init_90 : decode cX9_init 90 = .ok (.aload_n 0, 1) := by decide +kernel
theorem dX9_init_91 : decode cX9_init 91 = .ok (.sipush 160, 3) := by decide +kernel
theorem dX9_init_94 : decode cX9_init 94 = .ok (.newarray .int, 2) := by decide +kernel
theorem dX9_init_96 : decode cX9_init 96 = .ok (.putfield 44, 3) := by decide +kernel
theorem dX9_init_99 : decode cX9_init 99 = .ok (.aload_n 0, 1) := by decide +kernel
theorem dX9_init_100 : decode cX9_init 100 = .ok (.bipush 62, 2) := by decide +kernel
theorem dX9_init_102 : decode cX9_init 102 = .ok (.newarray .int, 2) := by decide +kernel
theorem dX9_init_104 : decode cX9_init 104 = .ok (.putfield 47, 3) := by decide +kernel
theorem dX9_init_107 : decode cX9_init 107 = .ok (.iconst 0, 1) := by decide +kernel
theorem dX9_init_108 : decode cX9_init 108 = .ok (.istore_n 1, 1) := by decide +kernel
theorem dX9_init_109 : decode cX9_init 109 = .ok (.iload_n 1, 1) := by decide +kernel
theorem dX9_init_110 : decode cX9_init 110 = .ok (.iconst 4, 1) := by decide +kernel
theorem dX9_init_111 : decode cX9_init 111 = .ok (.if_icmp .ge 17, 3) := by decide +kernel
theorem dX9_init_114 : decode cX9_init 114 = .ok (.aload_n 0, 1) := by decide +kernel
theorem dX9_init_115 : decode cX9_init 115 = .ok (.getfield 38, 3) := by decide +kernel
theorem dX9_init_118 : decode cX9_init 118 = .ok (.iload_n 1, 1) := by decide +kernel
theorem dX9_init_119 : decode cX9_init 119 = .ok (.bipush (-4), 2) := by decide +kernel
theorem dX9_init_121 : decode cX9_init 121 = .ok (.iastore, 1) := by decide +kernel
theorem dX9_init_122 : decode cX9_init 122 = .ok (.iinc 1 1, 3) := by decide +kernel
theorem dX9_init_125 : decode cX9_init 125 = .ok (.goto (-16), 3) := by decide +kernel
theorem dX9_init_128 : decode cX9_init 128 = .ok (.aload_n 0, 1) := by decide +kernel
theorem dX9_init_129 : decode cX9_init 129 = .ok (.invokevirtual 50, 3) := by decide +kernel
theorem dX9_init_132 : decode cX9_init 132 = .ok (.aload_n 0, 1) := by decide +kernel
theorem dX9_init_133 : decode cX9_init 133 = .ok (.invokevirtual 53, 3) := by decide +kernel
theorem dX9_init_136 : decode cX9_init 136 = .ok (.return_, 1) := by decide +kernel
theorem dX9_in_0 : decode cX9_in 0 = .ok (.lload_n 0, 1) := by decide +kernel
theorem dX9_in_1 : decode cX9_in 1 = .ok (.lload_n 2, 1) := by decide +kernel
theorem dX9_in_2 : decode cX9_in 2 = .ok (.lcmp, 1) := by decide +kernel
theorem dX9_in_3 : decode cX9_in 3 = .ok (.ifCond .lt 14, 3) := by decide +kernel
theorem dX9_in_6 : decode cX9_in 6 = .ok (.lload_n 0, 1) := by decide +kernel
theorem dX9_in_7 : decode cX9_in 7 = .ok (.lload 4, 2) := by decide +kernel
theorem dX9_in_9 : decode cX9_in 9 = .ok (.lcmp, 1) := by decide +kernel
theorem dX9_in_10 : decode cX9_in 10 = .ok (.ifCond .gt 7, 3) := by decide +kernel
theorem dX9_in_13 : decode cX9_in 13 = .ok (.iconst 1, 1) := by decide +kernel
theorem dX9_in_14 : decode cX9_in 14 = .ok (.goto 4, 3) := by decide +kernel
theorem dX9_in_17 : decode cX9_in 17 = .ok (.iconst 0, 1) := by decide +kernel
theorem dX9_in_18 : decode cX9_in 18 = .ok (.ireturn, 1) := by decide +kernel
theorem dX9_flag_0 : decode cX9_flag 0 = .ok (.iload_n 0, 1) := by decide +kernel
theorem dX9_flag_1 : decode cX9_flag 1 = .ok (.ifCond .eq 7, 3) := by decide +kernel
theorem dX9_flag_4 : decode cX9_flag 4 = .ok (.iconst 1, 1) := by decide +kernel
theorem dX9_flag_5 : decode cX9_flag 5 = .ok (.goto 4, 3) := by decide +kernel
theorem dX9_flag_8 : decode cX9_flag 8 = .ok (.iconst 0, 1) := by decide +kernel
theorem dX9_flag_9 : decode cX9_flag 9 = .ok (.ireturn, 1) := by decide +kernel
theorem dX9_lesser_0 : decode cX9_lesser 0 = .ok (.iload_n 0, 1) := by decide +kernel
theorem dX9_lesser_1 : decode cX9_lesser 1 = .ok (.iload_n 1, 1) := by decide +kernel
theorem dX9_lesser_2 : decode cX9_lesser 2 = .ok (.if_icmp .ge 7, 3) := by decide +kernel
theorem dX9_lesser_5 : decode cX9_lesser 5 = .ok (.iload_n 0, 1) := by decide +kernel
theorem dX9_lesser_6 : decode cX9_lesser 6 = .ok (.goto 4, 3) := by decide +kernel
theorem dX9_lesser_9 : decode cX9_lesser 9 = .ok (.iload_n 1, 1) := by decide +kernel
theorem dX9_lesser_10 : decode cX9_lesser 10 = .ok (.ireturn, 1) := by decide +kernel
theorem dX9_bitsOf_0 : decode cX9_bitsOf 0 = .ok (.iconst 0, 1) := by decide +kernel
theorem dX9_bitsOf_1 : decode cX9_bitsOf 1 = .ok (.istore_n 1, 1) := by decide +kernel
theorem dX9_bitsOf_2 : decode cX9_bitsOf 2 = .ok (.iconst 0, 1) := by decide +kernel
theorem dX9_bitsOf_3 : decode cX9_bitsOf 3 = .ok (.istore_n 2, 1) := by decide +kernel
theorem dX9_bitsOf_4 : decode cX9_bitsOf 4 = .ok (.iload_n 2, 1) := by decide +kernel
theorem dX9_bitsOf_5 : decode cX9_bitsOf 5 = .ok (.bipush 8, 2) := by decide +kernel
theorem dX9_bitsOf_7 : decode cX9_bitsOf 7 = .ok (.if_icmp .ge 17, 3) := by decide +kernel
theorem dX9_bitsOf_10 : decode cX9_bitsOf 10 = .ok (.iload_n 1, 1) := by decide +kernel
theorem dX9_bitsOf_11 : decode cX9_bitsOf 11 = .ok (.iload_n 0, 1) := by decide +kernel
theorem dX9_bitsOf_12 : decode cX9_bitsOf 12 = .ok (.iload_n 2, 1) := by decide +kernel
theorem dX9_bitsOf_13 : decode cX9_bitsOf 13 = .ok (.ishr, 1) := by decide +kernel
theorem dX9_bitsOf_14 : decode cX9_bitsOf 14 = .ok (.iconst 1, 1) := by decide +kernel
theorem dX9_bitsOf_15 : decode cX9_bitsOf 15 = .ok (.iand, 1) := by decide +kernel
theorem dX9_bitsOf_16 : decode cX9_bitsOf 16 = .ok (.iadd, 1) := by decide +kernel
theorem dX9_bitsOf_17 : decode cX9_bitsOf 17 = .ok (.istore_n 1, 1) := by decide +kernel
theorem dX9_bitsOf_18 : decode cX9_bitsOf 18 = .ok (.iinc 2 1, 3) := by decide +kernel
theorem dX9_bitsOf_21 : decode cX9_bitsOf 21 = .ok (.goto (-17), 3) := by decide +kernel
theorem dX9_bitsOf_24 : decode cX9_bitsOf 24 = .ok (.iload_n 1, 1) := by decide +kernel
theorem dX9_bitsOf_25 : decode cX9_bitsOf 25 = .ok (.ireturn, 1) := by decide +kernel
theorem dX9_firstDraft_0 : decode cX9_firstDraft 0 = .ok (.iconst 0, 1) := by decide +kernel
theorem dX9_firstDraft_1 : decode cX9_firstDraft 1 = .ok (.istore_n 1, 1) := by decide +kernel
theorem dX9_firstDraft_2 : decode cX9_firstDraft 2 = .ok (.iload_n 1, 1) := by decide +kernel
theorem dX9_firstDraft_3 : decode cX9_firstDraft 3 = .ok (.bipush 62, 2) := by decide +kernel
theorem dX9_firstDraft_5 : decode cX9_firstDraft 5 = .ok (.if_icmp .ge 16, 3) := by decide +kernel
theorem dX9_firstDraft_8 : decode cX9_firstDraft 8 = .ok (.aload_n 0, 1) := by decide +kernel
theorem dX9_firstDraft_9 : decode cX9_firstDraft 9 = .ok (.getfield 20, 3) := by decide +kernel
theorem dX9_firstDraft_12 : decode cX9_firstDraft 12 = .ok (.iload_n 1, 1) := by decide +kernel
theorem dX9_firstDraft_13 : decode cX9_firstDraft 13 = .ok (.iconst 0, 1) := by decide +kernel
theorem dX9_firstDraft_14 : decode cX9_firstDraft 14 = .ok (.iastore, 1) := by decide +kernel
theorem dX9_firstDraft_15 : decode cX9_firstDraft 15 = .ok (.iinc 1 1, 3) := by decide +kernel
theorem dX9_firstDraft_18 : decode cX9_firstDraft 18 = .ok (.goto (-16), 3) := by decide +kernel
theorem dX9_firstDraft_21 : decode cX9_firstDraft 21 = .ok (.aload_n 0, 1) := by decide +kernel
theorem dX9_firstDraft_22 : decode cX9_firstDraft 22 = .ok (.iconst 0, 1) := by decide +kernel
theorem dX9_firstDraft_23 : decode cX9_firstDraft 23 = .ok (.putfield 56, 3) := by decide +kernel
theorem dX9_firstDraft_26 : decode cX9_firstDraft 26 = .ok (.aload_n 0, 1) := by decide +kernel
theorem dX9_firstDraft_27 : decode cX9_firstDraft 27 = .ok (.iconst 0, 1) := by decide +kernel
theorem dX9_firstDraft_28 : decode cX9_firstDraft 28 = .ok (.putfield 60, 3) := by decide +kernel
theorem dX9_firstDraft_31 : decode cX9_firstDraft 31 = .ok (.aload_n 0, 1) := by decide +kernel
theorem dX9_firstDraft_32 : decode cX9_firstDraft 32 = .ok (.iconst 0, 1) := by decide +kernel
theorem dX9_firstDraft_33 : decode cX9_firstDraft 33 = .ok (.putfield 63, 3) := by decide +kernel
theorem dX9_firstDraft_36 : decode cX9_firstDraft 36 = .ok (.aload_n 0, 1) := by decide +kernel
theorem dX9_firstDraft_37 : decode cX9_firstDraft 37 = .ok (.bipush (-4), 2) := by decide +kernel
theorem dX9_firstDraft_39 : decode cX9_firstDraft 39 = .ok (.putfield 67, 3) := by decide +kernel
theorem dX9_firstDraft_42 : decode cX9_firstDraft 42 = .ok (.return_, 1) := by decide +kernel
theorem dX9_keepDraft_0 : decode cX9_keepDraft 0 = .ok (.iconst 0, 1) := by decide +kernel
theorem dX9_keepDraft_1 : decode cX9_keepDraft 1 = .ok (.istore_n 1, 1) := by decide +kernel
theorem dX9_keepDraft_2 : decode cX9_keepDraft 2 = .ok (.iload_n 1, 1) := by decide +kernel
theorem dX9_keepDraft_3 : decode cX9_keepDraft 3 = .ok (.bipush 62, 2) := by decide +kernel
theorem dX9_keepDraft_5 : decode cX9_keepDraft 5 = .ok (.if_icmp .ge 21, 3) := by decide +kernel
theorem dX9_keepDraft_8 : decode cX9_keepDraft 8 = .ok (.aload_n 0, 1) := by decide +kernel
theorem dX9_keepDraft_9 : decode cX9_keepDraft 9 = .ok (.getfield 7, 3) := by decide +kernel
theorem dX9_keepDraft_12 : decode cX9_keepDraft 12 = .ok (.iload_n 1, 1) := by decide +kernel
theorem dX9_keepDraft_13 : decode cX9_keepDraft 13 = .ok (.aload_n 0, 1) := by decide +kernel
theorem dX9_keepDraft_14 : decode cX9_keepDraft 14 = .ok (.getfield 20, 3) := by decide +kernel
theorem dX9_keepDraft_17 : decode cX9_keepDraft 17 = .ok (.iload_n 1, 1) := by decide +kernel
theorem dX9_keepDraft_18 : decode cX9_keepDraft 18 = .ok (.iaload, 1) := by decide +kernel
theorem dX9_keepDraft_19 : decode cX9_keepDraft 19 = .ok (.iastore, 1) := by decide +kernel
theorem dX9_keepDraft_20 : decode cX9_keepDraft 20 = .ok (.iinc 1 1, 3) := by decide +kernel
theorem dX9_keepDraft_23 : decode cX9_keepDraft 23 = .ok (.goto (-21), 3) := by decide +kernel
theorem dX9_keepDraft_26 : decode cX9_keepDraft 26 = .ok (.aload_n 0, 1) := by decide +kernel
theorem dX9_keepDraft_27 : decode cX9_keepDraft 27 = .ok (.aload_n 0, 1) := by decide +kernel
theorem dX9_keepDraft_28 : decode cX9_keepDraft 28 = .ok (.getfield 56, 3) := by decide +kernel
theorem dX9_keepDraft_31 : decode cX9_keepDraft 31 = .ok (.putfield 70, 3) := by decide +kernel
theorem dX9_keepDraft_34 : decode cX9_keepDraft 34 = .ok (.aload_n 0, 1) := by decide +kernel
theorem dX9_keepDraft_35 : decode cX9_keepDraft 35 = .ok (.aload_n 0, 1) := by decide +kernel
theorem dX9_keepDraft_36 : decode cX9_keepDraft 36 = .ok (.getfield 60, 3) := by decide +kernel
theorem dX9_keepDraft_39 : decode cX9_keepDraft 39 = .ok (.putfield 73, 3) := by decide +kernel
theorem dX9_keepDraft_42 : decode cX9_keepDraft 42 = .ok (.aload_n 0, 1) := by decide +kernel
theorem dX9_keepDraft_43 : decode cX9_keepDraft 43 = .ok (.getfield 16, 3) := by decide +kernel
theorem dX9_keepDraft_46 : decode cX9_keepDraft 46 = .ok (.iconst 0, 1) := by decide +kernel
theorem dX9_keepDraft_47 : decode cX9_keepDraft 47 = .ok (.iconst 0, 1) := by decide +kernel
theorem dX9_keepDraft_48 : decode cX9_keepDraft 48 = .ok (.bastore, 1) := by decide +kernel
theorem dX9_keepDraft_49 : decode cX9_keepDraft 49 = .ok (.aload_n 0, 1) := by decide +kernel
theorem dX9_keepDraft_50 : decode cX9_keepDraft 50 = .ok (.getfield 16, 3) := by decide +kernel
theorem dX9_keepDraft_53 : decode cX9_keepDraft 53 = .ok (.iconst 1, 1) := by decide +kernel
theorem dX9_keepDraft_54 : decode cX9_keepDraft 54 = .ok (.iconst 0, 1) := by decide +kernel
theorem dX9_keepDraft_55 : decode cX9_keepDraft 55 = .ok (.bastore, 1) := by decide +kernel
theorem dX9_keepDraft_56 : decode cX9_keepDraft 56 = .ok (.return_, 1) := by decide +kernel
theorem dX9_feed_0 : decode cX9_feed 0 = .ok (.iload_n 1, 1) := by decide +kernel
theorem dX9_feed_1 : decode cX9_feed 1 = .ok (.i2l, 1) := by decide +kernel
theorem dX9_feed_2 : decode cX9_feed 2 = .ok (.lconst 0, 1) := by decide +kernel
theorem dX9_feed_3 : decode cX9_feed 3 = .ok (.ldc2_w 76, 3) := by decide +kernel
theorem dX9_feed_6 : decode cX9_feed 6 = .ok (.invokestatic 78, 3) := by decide +kernel
theorem dX9_feed_9 : decode cX9_feed 9 = .ok (.ifCond .ne 5, 3) := by decide +kernel
theorem dX9_feed_12 : decode cX9_feed 12 = .ok (.iconst (-1), 1) := by decide +kernel
theorem dX9_feed_13 : decode cX9_feed 13 = .ok (.ireturn, 1) := by decide +kernel
theorem dX9_feed_14 : decode cX9_feed 14 = .ok (.aload_n 0, 1) := by decide +kernel
theorem dX9_feed_15 : decode cX9_feed 15 = .ok (.getfield 82, 3) := by decide +kernel
theorem dX9_feed_18 : decode cX9_feed 18 = .ok (.sipush 160, 3) := by decide +kernel
theorem dX9_feed_21 : decode cX9_feed 21 = .ok (.if_icmp .ne 6, 3) := by decide +kernel
theorem dX9_feed_24 : decode cX9_feed 24 = .ok (.bipush (-3), 2) := by decide +kernel
theorem dX9_feed_26 : decode cX9_feed 26 = .ok (.ireturn, 1) := by decide +kernel
theorem dX9_feed_27 : decode cX9_feed 27 = .ok (.aload_n 0, 1) := by decide +kernel
theorem dX9_feed_28 : decode cX9_feed 28 = .ok (.getfield 23, 3) := by decide +kernel
theorem dX9_feed_31 : decode cX9_feed 31 = .ok (.aload_n 0, 1) := by decide +kernel
theorem dX9_feed_32 : decode cX9_feed 32 = .ok (.getfield 82, 3) := by decide +kernel
theorem dX9_feed_35 : decode cX9_feed 35 = .ok (.iload_n 1, 1) := by decide +kernel
theorem dX9_feed_36 : decode cX9_feed 36 = .ok (.iastore, 1) := by decide +kernel
theorem dX9_feed_37 : decode cX9_feed 37 = .ok (.aload_n 0, 1) := by decide +kernel
theorem dX9_feed_38 : decode cX9_feed 38 = .ok (.dup, 1) := by decide +kernel
theorem dX9_feed_39 : decode cX9_feed 39 = .ok (.getfield 82, 3) := by decide +kernel
theorem dX9_feed_42 : decode cX9_feed 42 = .ok (.iconst 1, 1) := by decide +kernel
theorem dX9_feed_43 : decode cX9_feed 43 = .ok (.iadd, 1) := by decide +kernel
theorem dX9_feed_44 : decode cX9_feed 44 = .ok (.putfield 82, 3) := by decide +kernel
theorem dX9_feed_47 : decode cX9_feed 47 = .ok (.aload_n 0, 1) := by decide +kernel
theorem dX9_feed_48 : decode cX9_feed 48 = .ok (.getfield 82, 3) := by decide +kernel
theorem dX9_feed_51 : decode cX9_feed 51 = .ok (.ireturn, 1) := by decide +kernel
theorem dX9_end_0 : decode cX9_end 0 = .ok (.iload_n 1, 1) := by decide +kernel
theorem dX9_end_1 : decode cX9_end 1 = .ok (.i2l, 1) := by decide +kernel
theorem dX9_end_2 : decode cX9_end 2 = .ok (.lconst 0, 1) := by decide +kernel
theorem dX9_end_3 : decode cX9_end 3 = .ok (.aload_n 0, 1) := by decide +kernel
theorem dX9_end_4 : decode cX9_end 4 = .ok (.getfield 82, 3) := by decide +kernel
theorem dX9_end_7 : decode cX9_end 7 = .ok (.i2l, 1) := by decide +kernel
theorem dX9_end_8 : decode cX9_end 8 = .ok (.invokestatic 78, 3) := by decide +kernel
theorem dX9_end_11 : decode cX9_end 11 = .ok (.ifCond .ne 5, 3) := by decide +kernel
theorem dX9_end_14 : decode cX9_end 14 = .ok (.iconst (-1), 1) := by decide +kernel
theorem dX9_end_15 : decode cX9_end 15 = .ok (.ireturn, 1) := by decide +kernel
theorem dX9_end_16 : decode cX9_end 16 = .ok (.aload_n 0, 1) := by decide +kernel
theorem dX9_end_17 : decode cX9_end 17 = .ok (.getfield 82, 3) := by decide +kernel
theorem dX9_end_20 : decode cX9_end 20 = .ok (.istore_n 2, 1) := by decide +kernel
theorem dX9_end_21 : decode cX9_end 21 = .ok (.aload_n 0, 1) := by decide +kernel
theorem dX9_end_22 : decode cX9_end 22 = .ok (.iload_n 1, 1) := by decide +kernel
theorem dX9_end_23 : decode cX9_end 23 = .ok (.putfield 82, 3) := by decide +kernel
theorem dX9_end_26 : decode cX9_end 26 = .ok (.iload_n 2, 1) := by decide +kernel
theorem dX9_end_27 : decode cX9_end 27 = .ok (.ireturn, 1) := by decide +kernel
theorem dX9_needs_0 : decode cX9_needs 0 = .ok (.iload_n 1, 1) := by decide +kernel
theorem dX9_needs_1 : decode cX9_needs 1 = .ok (.ifCond .ne 23, 3) := by decide +kernel
theorem dX9_needs_4 : decode cX9_needs 4 = .ok (.aload_n 0, 1) := by decide +kernel
theorem dX9_needs_5 : decode cX9_needs 5 = .ok (.getfield 85, 3) := by decide +kernel
theorem dX9_needs_8 : decode cX9_needs 8 = .ok (.ifCond .ne 16, 3) := by decide +kernel
theorem dX9_needs_11 : decode cX9_needs 11 = .ok (.aload_n 0, 1) := by decide +kernel
theorem dX9_needs_12 : decode cX9_needs 12 = .ok (.iload_n 2, 1) := by decide +kernel
theorem dX9_needs_13 : decode cX9_needs 13 = .ok (.putfield 85, 3) := by decide +kernel
theorem dX9_needs_16 : decode cX9_needs 16 = .ok (.aload_n 0, 1) := by decide +kernel
theorem dX9_needs_17 : decode cX9_needs 17 = .ok (.aload_n 0, 1) := by decide +kernel
theorem dX9_needs_18 : decode cX9_needs 18 = .ok (.getfield 88, 3) := by decide +kernel
theorem dX9_needs_21 : decode cX9_needs 21 = .ok (.putfield 91, 3) := by decide +kernel
theorem dX9_needs_24 : decode cX9_needs 24 = .ok (.return_, 1) := by decide +kernel
theorem dX9_byteAt_0 : decode cX9_byteAt 0 = .ok (.iload_n 1, 1) := by decide +kernel
theorem dX9_byteAt_1 : decode cX9_byteAt 1 = .ok (.aload_n 0, 1) := by decide +kernel
theorem dX9_byteAt_2 : decode cX9_byteAt 2 = .ok (.getfield 82, 3) := by decide +kernel
theorem dX9_byteAt_5 : decode cX9_byteAt 5 = .ok (.if_icmp .ge 12, 3) := by decide +kernel
theorem dX9_byteAt_8 : decode cX9_byteAt 8 = .ok (.aload_n 0, 1) := by decide +kernel
theorem dX9_byteAt_9 : decode cX9_byteAt 9 = .ok (.getfield 23, 3) := by decide +kernel
theorem dX9_byteAt_12 : decode cX9_byteAt 12 = .ok (.iload_n 1, 1) := by decide +kernel
theorem dX9_byteAt_13 : decode cX9_byteAt 13 = .ok (.iaload, 1) := by decide +kernel
theorem dX9_byteAt_14 : decode cX9_byteAt 14 = .ok (.goto 4, 3) := by decide +kernel
theorem dX9_byteAt_17 : decode cX9_byteAt 17 = .ok (.iconst (-1), 1) := by decide +kernel
theorem dX9_byteAt_18 : decode cX9_byteAt 18 = .ok (.ireturn, 1) := by decide +kernel
theorem dX9_is_0 : decode cX9_is 0 = .ok (.aload_n 0, 1) := by decide +kernel
theorem dX9_is_1 : decode cX9_is 1 = .ok (.getfield 94, 3) := by decide +kernel
theorem dX9_is_4 : decode cX9_is 4 = .ok (.aload_n 0, 1) := by decide +kernel
theorem dX9_is_5 : decode cX9_is 5 = .ok (.getfield 88, 3) := by decide +kernel
theorem dX9_is_8 : decode cX9_is 8 = .ok (.isub, 1) := by decide +kernel
theorem dX9_is_9 : decode cX9_is 9 = .ok (.iload_n 1, 1) := by decide +kernel
theorem dX9_is_10 : decode cX9_is 10 = .ok (.if_icmp .ne 63, 3) := by decide +kernel
theorem dX9_is_13 : decode cX9_is 13 = .ok (.aload_n 0, 1) := by decide +kernel
theorem dX9_is_14 : decode cX9_is 14 = .ok (.aload_n 0, 1) := by decide +kernel
theorem dX9_is_15 : decode cX9_is 15 = .ok (.getfield 88, 3) := by decide +kernel
theorem dX9_is_18 : decode cX9_is 18 = .ok (.invokevirtual 97, 3) := by decide +kernel
theorem dX9_is_21 : decode cX9_is 21 = .ok (.iload_n 2, 1) := by decide +kernel
theorem dX9_is_22 : decode cX9_is 22 = .ok (.if_icmp .ne 51, 3) := by decide +kernel
theorem dX9_is_25 : decode cX9_is 25 = .ok (.aload_n 0, 1) := by decide +kernel
theorem dX9_is_26 : decode cX9_is 26 = .ok (.aload_n 0, 1) := by decide +kernel
theorem dX9_is_27 : decode cX9_is 27 = .ok (.getfield 88, 3) := by decide +kernel
theorem dX9_is_30 : decode cX9_is 30 = .ok (.iconst 1, 1) := by decide +kernel
theorem dX9_is_31 : decode cX9_is 31 = .ok (.iadd, 1) := by decide +kernel
theorem dX9_is_32 : decode cX9_is 32 = .ok (.invokevirtual 97, 3) := by decide +kernel
theorem dX9_is_35 : decode cX9_is 35 = .ok (.iload_n 3, 1) := by decide +kernel
theorem dX9_is_36 : decode cX9_is 36 = .ok (.if_icmp .ne 37, 3) := by decide +kernel
theorem dX9_is_39 : decode cX9_is 39 = .ok (.aload_n 0, 1) := by decide +kernel
theorem dX9_is_40 : decode cX9_is 40 = .ok (.aload_n 0, 1) := by decide +kernel
theorem dX9_is_41 : decode cX9_is 41 = .ok (.getfield 88, 3) := by decide +kernel
theorem dX9_is_44 : decode cX9_is 44 = .ok (.iconst 2, 1) := by decide +kernel
theorem dX9_is_45 : decode cX9_is 45 = .ok (.iadd, 1) := by decide +kernel
theorem dX9_is_46 : decode cX9_is 46 = .ok (.invokevirtual 97, 3) := by decide +kernel
theorem dX9_is_49 : decode cX9_is 49 = .ok (.iload 4, 2) := by decide +kernel
theorem dX9_is_51 : decode cX9_is 51 = .ok (.if_icmp .ne 22, 3) := by decide +kernel
theorem dX9_is_54 : decode cX9_is 54 = .ok (.aload_n 0, 1) := by decide +kernel
theorem dX9_is_55 : decode cX9_is 55 = .ok (.aload_n 0, 1) := by decide +kernel
theorem dX9_is_56 : decode cX9_is 56 = .ok (.getfield 88, 3) := by decide +kernel
theorem dX9_is_59 : decode cX9_is 59 = .ok (.iconst 3, 1) := by decide +kernel
theorem dX9_is_60 : decode cX9_is 60 = .ok (.iadd, 1) := by decide +kernel
theorem dX9_is_61 : decode cX9_is 61 = .ok (.invokevirtual 97, 3) := by decide +kernel
theorem dX9_is_64 : decode cX9_is 64 = .ok (.iload 5, 2) := by decide +kernel
theorem dX9_is_66 : decode cX9_is 66 = .ok (.if_icmp .ne 7, 3) := by decide +kernel
theorem dX9_is_69 : decode cX9_is 69 = .ok (.iconst 1, 1) := by decide +kernel
theorem dX9_is_70 : decode cX9_is 70 = .ok (.goto 4, 3) := by decide +kernel
theorem dX9_is_73 : decode cX9_is 73 = .ok (.iconst 0, 1) := by decide +kernel
theorem dX9_is_74 : decode cX9_is 74 = .ok (.ireturn, 1) := by decide +kernel
theorem dX9_ends_0 : decode cX9_ends 0 = .ok (.aload_n 0, 1) := by decide +kernel
theorem dX9_ends_1 : decode cX9_ends 1 = .ok (.aload_n 0, 1) := by decide +kernel
theorem dX9_ends_2 : decode cX9_ends 2 = .ok (.getfield 88, 3) := by decide +kernel
theorem dX9_ends_5 : decode cX9_ends 5 = .ok (.iconst 4, 1) := by decide +kernel
theorem dX9_ends_6 : decode cX9_ends 6 = .ok (.iadd, 1) := by decide +kernel
theorem dX9_ends_7 : decode cX9_ends 7 = .ok (.invokevirtual 97, 3) := by decide +kernel
theorem dX9_ends_10 : decode cX9_ends 10 = .ok (.iload_n 1, 1) := by decide +kernel
theorem dX9_ends_11 : decode cX9_ends 11 = .ok (.if_icmp .ne 25, 3) := by decide +kernel
theorem dX9_ends_14 : decode cX9_ends 14 = .ok (.iload_n 2, 1) := by decide +kernel
theorem dX9_ends_15 : decode cX9_ends 15 = .ok (.ifCond .eq 17, 3) := by decide +kernel
theorem dX9_ends_18 : decode cX9_ends 18 = .ok (.aload_n 0, 1) := by decide +kernel
theorem dX9_ends_19 : decode cX9_ends 19 = .ok (.aload_n 0, 1) := by decide +kernel
theorem dX9_ends_20 : decode cX9_ends 20 = .ok (.getfield 88, 3) := by decide +kernel
theorem dX9_ends_23 : decode cX9_ends 23 = .ok (.iconst 5, 1) := by decide +kernel
theorem dX9_ends_24 : decode cX9_ends 24 = .ok (.iadd, 1) := by decide +kernel
theorem dX9_ends_25 : decode cX9_ends 25 = .ok (.invokevirtual 97, 3) := by decide +kernel
theorem dX9_ends_28 : decode cX9_ends 28 = .ok (.iload_n 2, 1) := by decide +kernel
theorem dX9_ends_29 : decode cX9_ends 29 = .ok (.if_icmp .ne 7, 3) := by decide +kernel
theorem dX9_ends_32 : decode cX9_ends 32 = .ok (.iconst 1, 1) := by decide +kernel
theorem dX9_ends_33 : decode cX9_ends 33 = .ok (.goto 4, 3) := by decide +kernel
theorem dX9_ends_36 : decode cX9_ends 36 = .ok (.iconst 0, 1) := by decide +kernel
theorem dX9_ends_37 : decode cX9_ends 37 = .ok (.ireturn, 1) := by decide +kernel
theorem dX9_lineNow_0 : decode cX9_lineNow 0 = .ok (.aload_n 0, 1) := by decide +kernel
theorem dX9_lineNow_1 : decode cX9_lineNow 1 = .ok (.iconst 5, 1) := by decide +kernel
theorem dX9_lineNow_2 : decode cX9_lineNow 2 = .ok (.bipush 103, 2) := by decide +kernel
theorem dX9_lineNow_4 : decode cX9_lineNow 4 = .ok (.bipush 117, 2) := by decide +kernel
theorem dX9_lineNow_6 : decode cX9_lineNow 6 = .ok (.bipush 101, 2) := by decide +kernel
theorem dX9_lineNow_8 : decode cX9_lineNow 8 = .ok (.bipush 115, 2) := by decide +kernel
theorem dX9_lineNow_10 : decode cX9_lineNow 10 = .ok (.invokevirtual 101, 3) := by decide +kernel
theorem dX9_lineNow_13 : decode cX9_lineNow 13 = .ok (.ifCond .eq 15, 3) := by decide +kernel
theorem dX9_lineNow_16 : decode cX9_lineNow 16 = .ok (.aload_n 0, 1) := by decide +kernel
theorem dX9_lineNow_17 : decode cX9_lineNow 17 = .ok (.bipush 116, 2) := by decide +kernel
theorem dX9_lineNow_19 : decode cX9_lineNow 19 = .ok (.iconst 0, 1) := by decide +kernel
theorem dX9_lineNow_20 : decode cX9_lineNow 20 = .ok (.invokevirtual 105, 3) := by decide +kernel
theorem dX9_lineNow_23 : decode cX9_lineNow 23 = .ok (.ifCond .eq 5, 3) := by decide +kernel
theorem dX9_lineNow_26 : decode cX9_lineNow 26 = .ok (.iconst 0, 1) := by decide +kernel
theorem dX9_lineNow_27 : decode cX9_lineNow 27 = .ok (.ireturn, 1) := by decide +kernel
theorem dX9_lineNow_28 : decode cX9_lineNow 28 = .ok (.aload_n 0, 1) := by decide +kernel
theorem dX9_lineNow_29 : decode cX9_lineNow 29 = .ok (.bipush 6, 2) := by decide +kernel
theorem dX9_lineNow_31 : decode cX9_lineNow 31 = .ok (.bipush 110, 2) := by decide +kernel
theorem dX9_lineNow_33 : decode cX9_lineNow 33 = .ok (.bipush 101, 2) := by decide +kernel
theorem dX9_lineNow_35 : decode cX9_lineNow 35 = .ok (.bipush 112, 2) := by decide +kernel
theorem dX9_lineNow_37 : decode cX9_lineNow 37 = .ok (.bipush 104, 2) := by decide +kernel
theorem dX9_lineNow_39 : decode cX9_lineNow 39 = .ok (.invokevirtual 101, 3) := by decide +kernel
theorem dX9_lineNow_42 : decode cX9_lineNow 42 = .ok (.ifCond .eq 16, 3) := by decide +kernel
theorem dX9_lineNow_45 : decode cX9_lineNow 45 = .ok (.aload_n 0, 1) := by decide +kernel
theorem dX9_lineNow_46 : decode cX9_lineNow 46 = .ok (.bipush 101, 2) := by decide +kernel
theorem dX9_lineNow_48 : decode cX9_lineNow 48 = .ok (.bipush 119, 2) := by decide +kernel
theorem dX9_lineNow_50 : decode cX9_lineNow 50 = .ok (.invokevirtual 105, 3) := by decide +kernel
theorem dX9_lineNow_53 : decode cX9_lineNow 53 = .ok (.ifCond .eq 5, 3) := by decide +kernel
theorem dX9_lineNow_56 : decode cX9_lineNow 56 = .ok (.iconst 1, 1) := by decide +kernel
theorem dX9_lineNow_57 : decode cX9_lineNow 57 = .ok (.ireturn, 1) := by decide +kernel
theorem dX9_lineNow_58 : decode cX9_lineNow 58 = .ok (.aload_n 0, 1) := by decide +kernel
theorem dX9_lineNow_59 : decode cX9_lineNow 59 = .ok (.iconst 4, 1) := by decide +kernel
theorem dX9_lineNow_60 : decode cX9_lineNow 60 = .ok (.bipush 108, 2) := by decide +kernel
theorem dX9_lineNow_62 : decode cX9_lineNow 62 = .ok (.bipush 111, 2) := by decide +kernel
theorem dX9_lineNow_64 : decode cX9_lineNow 64 = .ok (.bipush 114, 2) := by decide +kernel
theorem dX9_lineNow_66 : decode cX9_lineNow 66 = .ok (.bipush 100, 2) := by decide +kernel
theorem dX9_lineNow_68 : decode cX9_lineNow 68 = .ok (.invokevirtual 101, 3) := by decide +kernel
theorem dX9_lineNow_71 : decode cX9_lineNow 71 = .ok (.ifCond .eq 5, 3) := by decide +kernel
theorem dX9_lineNow_74 : decode cX9_lineNow 74 = .ok (.iconst 2, 1) := by decide +kernel
theorem dX9_lineNow_75 : decode cX9_lineNow 75 = .ok (.ireturn, 1) := by decide +kernel
theorem dX9_lineNow_76 : decode cX9_lineNow 76 = .ok (.aload_n 0, 1) := by decide +kernel
theorem dX9_lineNow_77 : decode cX9_lineNow 77 = .ok (.iconst 4, 1) := by decide +kernel
theorem dX9_lineNow_78 : decode cX9_lineNow 78 = .ok (.bipush 109, 2) := by decide +kernel
theorem dX9_lineNow_80 : decode cX9_lineNow 80 = .ok (.bipush 97, 2) := by decide +kernel
theorem dX9_lineNow_82 : decode cX9_lineNow 82 = .ok (.bipush 105, 2) := by decide +kernel
theorem dX9_lineNow_84 : decode cX9_lineNow 84 = .ok (.bipush 100, 2) := by decide +kernel
theorem dX9_lineNow_86 : decode cX9_lineNow 86 = .ok (.invokevirtual 101, 3) := by decide +kernel
theorem dX9_lineNow_89 : decode cX9_lineNow 89 = .ok (.ifCond .eq 5, 3) := by decide +kernel
theorem dX9_lineNow_92 : decode cX9_lineNow 92 = .ok (.iconst 3, 1) := by decide +kernel
theorem dX9_lineNow_93 : decode cX9_lineNow 93 = .ok (.ireturn, 1) := by decide +kernel
theorem dX9_lineNow_94 : decode cX9_lineNow 94 = .ok (.aload_n 0, 1) := by decide +kernel
theorem dX9_lineNow_95 : decode cX9_lineNow 95 = .ok (.iconst 4, 1) := by decide +kernel
theorem dX9_lineNow_96 : decode cX9_lineNow 96 = .ok (.bipush 98, 2) := by decide +kernel
theorem dX9_lineNow_98 : decode cX9_lineNow 98 = .ok (.bipush 111, 2) := by decide +kernel
theorem dX9_lineNow_100 : decode cX9_lineNow 100 = .ok (.bipush 111, 2) := by decide +kernel
theorem dX9_lineNow_102 : decode cX9_lineNow 102 = .ok (.bipush 107, 2) := by decide +kernel
theorem dX9_lineNow_104 : decode cX9_lineNow 104 = .ok (.invokevirtual 101, 3) := by decide +kernel
theorem dX9_lineNow_107 : decode cX9_lineNow 107 = .ok (.ifCond .eq 7, 3) := by decide +kernel
theorem dX9_lineNow_110 : decode cX9_lineNow 110 = .ok (.iconst 4, 1) := by decide +kernel
theorem dX9_lineNow_111 : decode cX9_lineNow 111 = .ok (.goto 35, 3) := by decide +kernel
theorem dX9_lineNow_114 : decode cX9_lineNow 114 = .ok (.aload_n 0, 1) := by decide +kernel
theorem dX9_lineNow_115 : decode cX9_lineNow 115 = .ok (.iconst 5, 1) := by decide +kernel
theorem dX9_lineNow_116 : decode cX9_lineNow 116 = .ok (.bipush 115, 2) := by decide +kernel
theorem dX9_lineNow_118 : decode cX9_lineNow 118 = .ok (.bipush 116, 2) := by decide +kernel
theorem dX9_lineNow_120 : decode cX9_lineNow 120 = .ok (.bipush 101, 2) := by decide +kernel
theorem dX9_lineNow_122 : decode cX9_lineNow 122 = .ok (.bipush 112, 2) := by decide +kernel
theorem dX9_lineNow_124 : decode cX9_lineNow 124 = .ok (.invokevirtual 101, 3) := by decide +kernel
theorem dX9_lineNow_127 : decode cX9_lineNow 127 = .ok (.ifCond .eq 17, 3) := by decide +kernel
theorem dX9_lineNow_130 : decode cX9_lineNow 130 = .ok (.aload_n 0, 1) := by decide +kernel
theorem dX9_lineNow_131 : decode cX9_lineNow 131 = .ok (.bipush 115, 2) := by decide +kernel
theorem dX9_lineNow_133 : decode cX9_lineNow 133 = .ok (.iconst 0, 1) := by decide +kernel
theorem dX9_lineNow_134 : decode cX9_lineNow 134 = .ok (.invokevirtual 105, 3) := by decide +kernel
theorem dX9_lineNow_137 : decode cX9_lineNow 137 = .ok (.ifCond .eq 7, 3) := by decide +kernel
theorem dX9_lineNow_140 : decode cX9_lineNow 140 = .ok (.iconst 5, 1) := by decide +kernel
theorem dX9_lineNow_141 : decode cX9_lineNow 141 = .ok (.goto 5, 3) := by decide +kernel
theorem dX9_lineNow_144 : decode cX9_lineNow 144 = .ok (.bipush (-4), 2) := by decide +kernel
theorem dX9_lineNow_146 : decode cX9_lineNow 146 = .ok (.ireturn, 1) := by decide +kernel
theorem dX9_takes_0 : decode cX9_takes 0 = .ok (.aload_n 0, 1) := by decide +kernel
theorem dX9_takes_1 : decode cX9_takes 1 = .ok (.getfield 85, 3) := by decide +kernel
theorem dX9_takes_4 : decode cX9_takes 4 = .ok (.ifCond .le 4, 3) := by decide +kernel
theorem dX9_takes_7 : decode cX9_takes 7 = .ok (.return_, 1) := by decide +kernel
theorem dX9_takes_8 : decode cX9_takes 8 = .ok (.aload_n 0, 1) := by decide +kernel
theorem dX9_takes_9 : decode cX9_takes 9 = .ok (.aload_n 0, 1) := by decide +kernel
theorem dX9_takes_10 : decode cX9_takes 10 = .ok (.getfield 94, 3) := by decide +kernel
theorem dX9_takes_13 : decode cX9_takes 13 = .ok (.invokevirtual 97, 3) := by decide +kernel
theorem dX9_takes_16 : decode cX9_takes 16 = .ok (.bipush 32, 2) := by decide +kernel
theorem dX9_takes_18 : decode cX9_takes 18 = .ok (.if_icmp .ne 16, 3) := by decide +kernel
theorem dX9_takes_21 : decode cX9_takes 21 = .ok (.aload_n 0, 1) := by decide +kernel
theorem dX9_takes_22 : decode cX9_takes 22 = .ok (.dup, 1) := by decide +kernel
theorem dX9_takes_23 : decode cX9_takes 23 = .ok (.getfield 94, 3) := by decide +kernel
theorem dX9_takes_26 : decode cX9_takes 26 = .ok (.iconst 1, 1) := by decide +kernel
theorem dX9_takes_27 : decode cX9_takes 27 = .ok (.iadd, 1) := by decide +kernel
theorem dX9_takes_28 : decode cX9_takes 28 = .ok (.putfield 94, 3) := by decide +kernel
theorem dX9_takes_31 : decode cX9_takes 31 = .ok (.goto (-23), 3) := by decide +kernel
theorem dX9_takes_34 : decode cX9_takes 34 = .ok (.aload_n 0, 1) := by decide +kernel
theorem dX9_takes_35 : decode cX9_takes 35 = .ok (.aload_n 0, 1) := by decide +kernel
theorem dX9_takes_36 : decode cX9_takes 36 = .ok (.getfield 94, 3) := by decide +kernel
theorem dX9_takes_39 : decode cX9_takes 39 = .ok (.putfield 88, 3) := by decide +kernel
theorem dX9_takes_42 : decode cX9_takes 42 = .ok (.aload_n 0, 1) := by decide +kernel
theorem dX9_takes_43 : decode cX9_takes 43 = .ok (.aload_n 0, 1) := by decide +kernel
theorem dX9_takes_44 : decode cX9_takes 44 = .ok (.getfield 94, 3) := by decide +kernel
theorem dX9_takes_47 : decode cX9_takes 47 = .ok (.invokevirtual 97, 3) := by decide +kernel
theorem dX9_takes_50 : decode cX9_takes 50 = .ok (.istore_n 1, 1) := by decide +kernel
theorem dX9_takes_51 : decode cX9_takes 51 = .ok (.iload_n 1, 1) := by decide +kernel
theorem dX9_takes_52 : decode cX9_takes 52 = .ok (.ifCond .ge 11, 3) := by decide +kernel
theorem dX9_takes_55 : decode cX9_takes 55 = .ok (.aload_n 0, 1) := by decide +kernel
theorem dX9_takes_56 : decode cX9_takes 56 = .ok (.iconst 0, 1) := by decide +kernel
theorem dX9_takes_57 : decode cX9_takes 57 = .ok (.putfield 109, 3) := by decide +kernel
theorem dX9_takes_60 : decode cX9_takes 60 = .ok (.goto 214, 3) := by decide +kernel
theorem dX9_takes_63 : decode cX9_takes 63 = .ok (.iload_n 1, 1) := by decide +kernel
theorem dX9_takes_64 : decode cX9_takes 64 = .ok (.i2l, 1) := by decide +kernel
theorem dX9_takes_65 : decode cX9_takes 65 = .ok (.ldc2_w 112, 3) := by decide +kernel
theorem dX9_takes_68 : decode cX9_takes 68 = .ok (.ldc2_w 114, 3) := by decide +kernel
theorem dX9_takes_71 : decode cX9_takes 71 = .ok (.invokestatic 78, 3) := by decide +kernel
theorem dX9_takes_74 : decode cX9_takes 74 = .ok (.ifCond .eq 42, 3) := by decide +kernel
theorem dX9_takes_77 : decode cX9_takes 77 = .ok (.aload_n 0, 1) := by decide +kernel
theorem dX9_takes_78 : decode cX9_takes 78 = .ok (.iconst 1, 1) := by decide +kernel
theorem dX9_takes_79 : decode cX9_takes 79 = .ok (.putfield 109, 3) := by decide +kernel
theorem dX9_takes_82 : decode cX9_takes 82 = .ok (.aload_n 0, 1) := by decide +kernel
theorem dX9_takes_83 : decode cX9_takes 83 = .ok (.aload_n 0, 1) := by decide +kernel
theorem dX9_takes_84 : decode cX9_takes 84 = .ok (.getfield 94, 3) := by decide +kernel
theorem dX9_takes_87 : decode cX9_takes 87 = .ok (.invokevirtual 97, 3) := by decide +kernel
theorem dX9_takes_90 : decode cX9_takes 90 = .ok (.i2l, 1) := by decide +kernel
theorem dX9_takes_91 : decode cX9_takes 91 = .ok (.ldc2_w 112, 3) := by decide +kernel
theorem dX9_takes_94 : decode cX9_takes 94 = .ok (.ldc2_w 114, 3) := by decide +kernel
theorem dX9_takes_97 : decode cX9_takes 97 = .ok (.invokestatic 78, 3) := by decide +kernel
theorem dX9_takes_100 : decode cX9_takes 100 = .ok (.ifCond .eq 174, 3) := by decide +kernel
theorem dX9_takes_103 : decode cX9_takes 103 = .ok (.aload_n 0, 1) := by decide +kernel
theorem dX9_takes_104 : decode cX9_takes 104 = .ok (.dup, 1) := by decide +kernel
theorem dX9_takes_105 : decode cX9_takes 105 = .ok (.getfield 94, 3) := by decide +kernel
theorem dX9_takes_108 : decode cX9_takes 108 = .ok (.iconst 1, 1) := by decide +kernel
theorem dX9_takes_109 : decode cX9_takes 109 = .ok (.iadd, 1) := by decide +kernel
theorem dX9_takes_110 : decode cX9_takes 110 = .ok (.putfield 94, 3) := by decide +kernel
theorem dX9_takes_113 : decode cX9_takes 113 = .ok (.goto (-31), 3) := by decide +kernel
theorem dX9_takes_116 : decode cX9_takes 116 = .ok (.iload_n 1, 1) := by decide +kernel
theorem dX9_takes_117 : decode cX9_takes 117 = .ok (.i2l, 1) := by decide +kernel
theorem dX9_takes_118 : decode cX9_takes 118 = .ok (.ldc2_w 116, 3) := by decide +kernel
theorem dX9_takes_121 : decode cX9_takes 121 = .ok (.ldc2_w 118, 3) := by decide +kernel
theorem dX9_takes_124 : decode cX9_takes 124 = .ok (.invokestatic 78, 3) := by decide +kernel
theorem dX9_takes_127 : decode cX9_takes 127 = .ok (.ifCond .eq 116, 3) := by decide +kernel
theorem dX9_takes_130 : decode cX9_takes 130 = .ok (.aload_n 0, 1) := by decide +kernel
theorem dX9_takes_131 : decode cX9_takes 131 = .ok (.iconst 2, 1) := by decide +kernel
theorem dX9_takes_132 : decode cX9_takes 132 = .ok (.putfield 109, 3) := by decide +kernel
theorem dX9_takes_135 : decode cX9_takes 135 = .ok (.aload_n 0, 1) := by decide +kernel
theorem dX9_takes_136 : decode cX9_takes 136 = .ok (.iconst 0, 1) := by decide +kernel
theorem dX9_takes_137 : decode cX9_takes 137 = .ok (.putfield 120, 3) := by decide +kernel
theorem dX9_takes_140 : decode cX9_takes 140 = .ok (.aload_n 0, 1) := by decide +kernel
theorem dX9_takes_141 : decode cX9_takes 141 = .ok (.aload_n 0, 1) := by decide +kernel
theorem dX9_takes_142 : decode cX9_takes 142 = .ok (.getfield 94, 3) := by decide +kernel
theorem dX9_takes_145 : decode cX9_takes 145 = .ok (.invokevirtual 97, 3) := by decide +kernel
theorem dX9_takes_148 : decode cX9_takes 148 = .ok (.i2l, 1) := by decide +kernel
theorem dX9_takes_149 : decode cX9_takes 149 = .ok (.ldc2_w 116, 3) := by decide +kernel
theorem dX9_takes_152 : decode cX9_takes 152 = .ok (.ldc2_w 118, 3) := by decide +kernel
theorem dX9_takes_155 : decode cX9_takes 155 = .ok (.invokestatic 78, 3) := by decide +kernel
theorem dX9_takes_158 : decode cX9_takes 158 = .ok (.ifCond .eq 59, 3) := by decide +kernel
theorem dX9_takes_161 : decode cX9_takes 161 = .ok (.aload_n 0, 1) := by decide +kernel
theorem dX9_takes_162 : decode cX9_takes 162 = .ok (.aload_n 0, 1) := by decide +kernel
theorem dX9_takes_163 : decode cX9_takes 163 = .ok (.getfield 94, 3) := by decide +kernel
theorem dX9_takes_166 : decode cX9_takes 166 = .ok (.aload_n 0, 1) := by decide +kernel
theorem dX9_takes_167 : decode cX9_takes 167 = .ok (.getfield 88, 3) := by decide +kernel
theorem dX9_takes_170 : decode cX9_takes 170 = .ok (.isub, 1) := by decide +kernel
theorem dX9_takes_171 : decode cX9_takes 171 = .ok (.iconst 2, 1) := by decide +kernel
theorem dX9_takes_172 : decode cX9_takes 172 = .ok (.if_icmp .ge 25, 3) := by decide +kernel
theorem dX9_takes_175 : decode cX9_takes 175 = .ok (.bipush 10, 2) := by decide +kernel
theorem dX9_takes_177 : decode cX9_takes 177 = .ok (.aload_n 0, 1) := by decide +kernel
theorem dX9_takes_178 : decode cX9_takes 178 = .ok (.getfield 120, 3) := by decide +kernel
theorem dX9_takes_181 : decode cX9_takes 181 = .ok (.imul, 1) := by decide +kernel
theorem dX9_takes_182 : decode cX9_takes 182 = .ok (.aload_n 0, 1) := by decide +kernel
theorem dX9_takes_183 : decode cX9_takes 183 = .ok (.aload_n 0, 1) := by decide +kernel
theorem dX9_takes_184 : decode cX9_takes 184 = .ok (.getfield 94, 3) := by decide +kernel
theorem dX9_takes_187 : decode cX9_takes 187 = .ok (.invokevirtual 97, 3) := by decide +kernel
theorem dX9_takes_190 : decode cX9_takes 190 = .ok (.iadd, 1) := by decide +kernel
theorem dX9_takes_191 : decode cX9_takes 191 = .ok (.bipush 48, 2) := by decide +kernel
theorem dX9_takes_193 : decode cX9_takes 193 = .ok (.isub, 1) := by decide +kernel
theorem dX9_takes_194 : decode cX9_takes 194 = .ok (.goto 7, 3) := by decide +kernel
theorem dX9_takes_197 : decode cX9_takes 197 = .ok (.aload_n 0, 1) := by decide +kernel
theorem dX9_takes_198 : decode cX9_takes 198 = .ok (.getfield 120, 3) := by decide +kernel
theorem dX9_takes_201 : decode cX9_takes 201 = .ok (.putfield 120, 3) := by decide +kernel
theorem dX9_takes_204 : decode cX9_takes 204 = .ok (.aload_n 0, 1) := by decide +kernel
theorem dX9_takes_205 : decode cX9_takes 205 = .ok (.dup, 1) := by decide +kernel
theorem dX9_takes_206 : decode cX9_takes 206 = .ok (.getfield 94, 3) := by decide +kernel
theorem dX9_takes_209 : decode cX9_takes 209 = .ok (.iconst 1, 1) := by decide +kernel
theorem dX9_takes_210 : decode cX9_takes 210 = .ok (.iadd, 1) := by decide +kernel
theorem dX9_takes_211 : decode cX9_takes 211 = .ok (.putfield 94, 3) := by decide +kernel
theorem dX9_takes_214 : decode cX9_takes 214 = .ok (.goto (-74), 3) := by decide +kernel
theorem dX9_takes_217 : decode cX9_takes 217 = .ok (.aload_n 0, 1) := by decide +kernel
theorem dX9_takes_218 : decode cX9_takes 218 = .ok (.aload_n 0, 1) := by decide +kernel
theorem dX9_takes_219 : decode cX9_takes 219 = .ok (.getfield 94, 3) := by decide +kernel
theorem dX9_takes_222 : decode cX9_takes 222 = .ok (.aload_n 0, 1) := by decide +kernel
theorem dX9_takes_223 : decode cX9_takes 223 = .ok (.getfield 88, 3) := by decide +kernel
theorem dX9_takes_226 : decode cX9_takes 226 = .ok (.isub, 1) := by decide +kernel
theorem dX9_takes_227 : decode cX9_takes 227 = .ok (.iconst 2, 1) := by decide +kernel
theorem dX9_takes_228 : decode cX9_takes 228 = .ok (.if_icmp .gt 7, 3) := by decide +kernel
theorem dX9_takes_231 : decode cX9_takes 231 = .ok (.iconst 1, 1) := by decide +kernel
theorem dX9_takes_232 : decode cX9_takes 232 = .ok (.goto 4, 3) := by decide +kernel
theorem dX9_takes_235 : decode cX9_takes 235 = .ok (.iconst 0, 1) := by decide +kernel
theorem dX9_takes_236 : decode cX9_takes 236 = .ok (.iconst 1, 1) := by decide +kernel
theorem dX9_takes_237 : decode cX9_takes 237 = .ok (.invokevirtual 123, 3) := by decide +kernel
theorem dX9_takes_240 : decode cX9_takes 240 = .ok (.goto 34, 3) := by decide +kernel
theorem dX9_takes_243 : decode cX9_takes 243 = .ok (.aload_n 0, 1) := by decide +kernel
theorem dX9_takes_244 : decode cX9_takes 244 = .ok (.iconst 3, 1) := by decide +kernel
theorem dX9_takes_245 : decode cX9_takes 245 = .ok (.putfield 109, 3) := by decide +kernel
theorem dX9_takes_248 : decode cX9_takes 248 = .ok (.aload_n 0, 1) := by decide +kernel
theorem dX9_takes_249 : decode cX9_takes 249 = .ok (.iload_n 1, 1) := by decide +kernel
theorem dX9_takes_250 : decode cX9_takes 250 = .ok (.bipush 59, 2) := by decide +kernel
theorem dX9_takes_252 : decode cX9_takes 252 = .ok (.if_icmp .ne 7, 3) := by decide +kernel
theorem dX9_takes_255 : decode cX9_takes 255 = .ok (.iconst 1, 1) := by decide +kernel
theorem dX9_takes_256 : decode cX9_takes 256 = .ok (.goto 4, 3) := by decide +kernel
theorem dX9_takes_259 : decode cX9_takes 259 = .ok (.iconst 0, 1) := by decide +kernel
theorem dX9_takes_260 : decode cX9_takes 260 = .ok (.iconst 1, 1) := by decide +kernel
theorem dX9_takes_261 : decode cX9_takes 261 = .ok (.invokevirtual 123, 3) := by decide +kernel
theorem dX9_takes_264 : decode cX9_takes 264 = .ok (.aload_n 0, 1) := by decide +kernel
theorem dX9_takes_265 : decode cX9_takes 265 = .ok (.dup, 1) := by decide +kernel
theorem dX9_takes_266 : decode cX9_takes 266 = .ok (.getfield 94, 3) := by decide +kernel
theorem dX9_takes_269 : decode cX9_takes 269 = .ok (.iconst 1, 1) := by decide +kernel
theorem dX9_takes_270 : decode cX9_takes 270 = .ok (.iadd, 1) := by decide +kernel
theorem dX9_takes_271 : decode cX9_takes 271 = .ok (.putfield 94, 3) := by decide +kernel
theorem dX9_takes_274 : decode cX9_takes 274 = .ok (.return_, 1) := by decide +kernel
theorem dX9_looked_0 : decode cX9_looked 0 = .ok (.aload_n 0, 1) := by decide +kernel
theorem dX9_looked_1 : decode cX9_looked 1 = .ok (.getfield 85, 3) := by decide +kernel
theorem dX9_looked_4 : decode cX9_looked 4 = .ok (.ifCond .ne 21, 3) := by decide +kernel
theorem dX9_looked_7 : decode cX9_looked 7 = .ok (.aload_n 0, 1) := by decide +kernel
theorem dX9_looked_8 : decode cX9_looked 8 = .ok (.aload_n 0, 1) := by decide +kernel
theorem dX9_looked_9 : decode cX9_looked 9 = .ok (.getfield 109, 3) := by decide +kernel
theorem dX9_looked_12 : decode cX9_looked 12 = .ok (.iconst 2, 1) := by decide +kernel
theorem dX9_looked_13 : decode cX9_looked 13 = .ok (.if_icmp .ne 7, 3) := by decide +kernel
theorem dX9_looked_16 : decode cX9_looked 16 = .ok (.iconst 1, 1) := by decide +kernel
theorem dX9_looked_17 : decode cX9_looked 17 = .ok (.goto 4, 3) := by decide +kernel
theorem dX9_looked_20 : decode cX9_looked 20 = .ok (.iconst 0, 1) := by decide +kernel
theorem dX9_looked_21 : decode cX9_looked 21 = .ok (.iconst 2, 1) := by decide +kernel
theorem dX9_looked_22 : decode cX9_looked 22 = .ok (.invokevirtual 123, 3) := by decide +kernel
theorem dX9_looked_25 : decode cX9_looked 25 = .ok (.aload_n 0, 1) := by decide +kernel
theorem dX9_looked_26 : decode cX9_looked 26 = .ok (.getfield 85, 3) := by decide +kernel
theorem dX9_looked_29 : decode cX9_looked 29 = .ok (.ifCond .ne 20, 3) := by decide +kernel
theorem dX9_looked_32 : decode cX9_looked 32 = .ok (.aload_n 0, 1) := by decide +kernel
theorem dX9_looked_33 : decode cX9_looked 33 = .ok (.aload_n 0, 1) := by decide +kernel
theorem dX9_looked_34 : decode cX9_looked 34 = .ok (.getfield 120, 3) := by decide +kernel
theorem dX9_looked_37 : decode cX9_looked 37 = .ok (.i2l, 1) := by decide +kernel
theorem dX9_looked_38 : decode cX9_looked 38 = .ok (.iload_n 1, 1) := by decide +kernel
theorem dX9_looked_39 : decode cX9_looked 39 = .ok (.i2l, 1) := by decide +kernel
theorem dX9_looked_40 : decode cX9_looked 40 = .ok (.iload_n 2, 1) := by decide +kernel
theorem dX9_looked_41 : decode cX9_looked 41 = .ok (.i2l, 1) := by decide +kernel
theorem dX9_looked_42 : decode cX9_looked 42 = .ok (.invokestatic 78, 3) := by decide +kernel
theorem dX9_looked_45 : decode cX9_looked 45 = .ok (.iconst 3, 1) := by decide +kernel
theorem dX9_looked_46 : decode cX9_looked 46 = .ok (.invokevirtual 123, 3) := by decide +kernel
theorem dX9_looked_49 : decode cX9_looked 49 = .ok (.aload_n 0, 1) := by decide +kernel
theorem dX9_looked_50 : decode cX9_looked 50 = .ok (.getfield 85, 3) := by decide +kernel
theorem dX9_looked_53 : decode cX9_looked 53 = .ok (.ifCond .ne 10, 3) := by decide +kernel
theorem dX9_looked_56 : decode cX9_looked 56 = .ok (.aload_n 0, 1) := by decide +kernel
theorem dX9_looked_57 : decode cX9_looked 57 = .ok (.getfield 120, 3) := by decide +kernel
theorem dX9_looked_60 : decode cX9_looked 60 = .ok (.goto 4, 3) := by decide +kernel
theorem dX9_looked_63 : decode cX9_looked 63 = .ok (.iconst 0, 1) := by decide +kernel
theorem dX9_looked_64 : decode cX9_looked 64 = .ok (.ireturn, 1) := by decide +kernel
theorem dX9_readNumber_0 : decode cX9_readNumber 0 = .ok (.aload_n 0, 1) := by decide +kernel
theorem dX9_readNumber_1 : decode cX9_readNumber 1 = .ok (.iload_n 1, 1) := by decide +kernel
theorem dX9_readNumber_2 : decode cX9_readNumber 2 = .ok (.iload_n 2, 1) := by decide +kernel
theorem dX9_readNumber_3 : decode cX9_readNumber 3 = .ok (.invokevirtual 127, 3) := by decide +kernel
theorem dX9_readNumber_6 : decode cX9_readNumber 6 = .ok (.istore_n 3, 1) := by decide +kernel
theorem dX9_readNumber_7 : decode cX9_readNumber 7 = .ok (.aload_n 0, 1) := by decide +kernel
theorem dX9_readNumber_8 : decode cX9_readNumber 8 = .ok (.invokevirtual 131, 3) := by decide +kernel
theorem dX9_readNumber_11 : decode cX9_readNumber 11 = .ok (.iload_n 3, 1) := by decide +kernel
theorem dX9_readNumber_12 : decode cX9_readNumber 12 = .ok (.ireturn, 1) := by decide +kernel
theorem dX9_readBook_0 : decode cX9_readBook 0 = .ok (.aload_n 0, 1) := by decide +kernel
theorem dX9_readBook_1 : decode cX9_readBook 1 = .ok (.iconst 0, 1) := by decide +kernel
theorem dX9_readBook_2 : decode cX9_readBook 2 = .ok (.bipush 9, 2) := by decide +kernel
theorem dX9_readBook_4 : decode cX9_readBook 4 = .ok (.invokevirtual 127, 3) := by decide +kernel
theorem dX9_readBook_7 : decode cX9_readBook 7 = .ok (.istore_n 1, 1) := by decide +kernel
theorem dX9_readBook_8 : decode cX9_readBook 8 = .ok (.aload_n 0, 1) := by decide +kernel
theorem dX9_readBook_9 : decode cX9_readBook 9 = .ok (.iload_n 1, 1) := by decide +kernel
theorem dX9_readBook_10 : decode cX9_readBook 10 = .ok (.bipush 8, 2) := by decide +kernel
theorem dX9_readBook_12 : decode cX9_readBook 12 = .ok (.if_icmp .eq 7, 3) := by decide +kernel
theorem dX9_readBook_15 : decode cX9_readBook 15 = .ok (.iconst 1, 1) := by decide +kernel
theorem dX9_readBook_16 : decode cX9_readBook 16 = .ok (.goto 4, 3) := by decide +kernel
theorem dX9_readBook_19 : decode cX9_readBook 19 = .ok (.iconst 0, 1) := by decide +kernel
theorem dX9_readBook_20 : decode cX9_readBook 20 = .ok (.iconst 3, 1) := by decide +kernel
theorem dX9_readBook_21 : decode cX9_readBook 21 = .ok (.invokevirtual 123, 3) := by decide +kernel
theorem dX9_readBook_24 : decode cX9_readBook 24 = .ok (.aload_n 0, 1) := by decide +kernel
theorem dX9_readBook_25 : decode cX9_readBook 25 = .ok (.invokevirtual 131, 3) := by decide +kernel
theorem dX9_readBook_28 : decode cX9_readBook 28 = .ok (.aload_n 0, 1) := by decide +kernel
theorem dX9_readBook_29 : decode cX9_readBook 29 = .ok (.iload_n 1, 1) := by decide +kernel
theorem dX9_readBook_30 : decode cX9_readBook 30 = .ok (.bipush 8, 2) := by decide +kernel
theorem dX9_readBook_32 : decode cX9_readBook 32 = .ok (.if_icmp .ge 15, 3) := by decide +kernel
theorem dX9_readBook_35 : decode cX9_readBook 35 = .ok (.iload_n 1, 1) := by decide +kernel
theorem dX9_readBook_36 : decode cX9_readBook 36 = .ok (.aload_n 0, 1) := by decide +kernel
theorem dX9_readBook_37 : decode cX9_readBook 37 = .ok (.getfield 67, 3) := by decide +kernel
theorem dX9_readBook_40 : decode cX9_readBook 40 = .ok (.if_icmp .le 7, 3) := by decide +kernel
theorem dX9_readBook_43 : decode cX9_readBook 43 = .ok (.iload_n 1, 1) := by decide +kernel
theorem dX9_readBook_44 : decode cX9_readBook 44 = .ok (.goto 7, 3) := by decide +kernel
theorem dX9_readBook_47 : decode cX9_readBook 47 = .ok (.aload_n 0, 1) := by decide +kernel
theorem dX9_readBook_48 : decode cX9_readBook 48 = .ok (.getfield 67, 3) := by decide +kernel
theorem dX9_readBook_51 : decode cX9_readBook 51 = .ok (.putfield 67, 3) := by decide +kernel
theorem dX9_readBook_54 : decode cX9_readBook 54 = .ok (.iload_n 1, 1) := by decide +kernel
theorem dX9_readBook_55 : decode cX9_readBook 55 = .ok (.bipush 9, 2) := by decide +kernel
theorem dX9_readBook_57 : decode cX9_readBook 57 = .ok (.if_icmp .ne 8, 3) := by decide +kernel
theorem dX9_readBook_60 : decode cX9_readBook 60 = .ok (.bipush (-4), 2) := by decide +kernel
theorem dX9_readBook_62 : decode cX9_readBook 62 = .ok (.goto 4, 3) := by decide +kernel
theorem dX9_readBook_65 : decode cX9_readBook 65 = .ok (.iload_n 1, 1) := by decide +kernel
theorem dX9_readBook_66 : decode cX9_readBook 66 = .ok (.ireturn, 1) := by decide +kernel
theorem dX9_readLineOf_0 : decode cX9_readLineOf 0 = .ok (.iload_n 1, 1) := by decide +kernel
theorem dX9_readLineOf_1 : decode cX9_readLineOf 1 = .ok (.lookupswitch 114 #[(4, 27), (5, 97)], 27) := by decide +kernel
theorem dX9_readLineOf_28 : decode cX9_readLineOf 28 = .ok (.aload_n 0, 1) := by decide +kernel
theorem dX9_readLineOf_29 : decode cX9_readLineOf 29 = .ok (.getfield 20, 3) := by decide +kernel
theorem dX9_readLineOf_32 : decode cX9_readLineOf 32 = .ok (.iconst 3, 1) := by decide +kernel
theorem dX9_readLineOf_33 : decode cX9_readLineOf 33 = .ok (.aload_n 0, 1) := by decide +kernel
theorem dX9_readLineOf_34 : decode cX9_readLineOf 34 = .ok (.getfield 56, 3) := by decide +kernel
theorem dX9_readLineOf_37 : decode cX9_readLineOf 37 = .ok (.imul, 1) := by decide +kernel
theorem dX9_readLineOf_38 : decode cX9_readLineOf 38 = .ok (.iconst 0, 1) := by decide +kernel
theorem dX9_readLineOf_39 : decode cX9_readLineOf 39 = .ok (.iadd, 1) := by decide +kernel
theorem dX9_readLineOf_40 : decode cX9_readLineOf 40 = .ok (.aload_n 0, 1) := by decide +kernel
theorem dX9_readLineOf_41 : decode cX9_readLineOf 41 = .ok (.iconst 0, 1) := by decide +kernel
theorem dX9_readLineOf_42 : decode cX9_readLineOf 42 = .ok (.bipush 7, 2) := by decide +kernel
theorem dX9_readLineOf_44 : decode cX9_readLineOf 44 = .ok (.invokevirtual 134, 3) := by decide +kernel
theorem dX9_readLineOf_47 : decode cX9_readLineOf 47 = .ok (.iastore, 1) := by decide +kernel
theorem dX9_readLineOf_48 : decode cX9_readLineOf 48 = .ok (.aload_n 0, 1) := by decide +kernel
theorem dX9_readLineOf_49 : decode cX9_readLineOf 49 = .ok (.getfield 20, 3) := by decide +kernel
theorem dX9_readLineOf_52 : decode cX9_readLineOf 52 = .ok (.iconst 3, 1) := by decide +kernel
theorem dX9_readLineOf_53 : decode cX9_readLineOf 53 = .ok (.aload_n 0, 1) := by decide +kernel
theorem dX9_readLineOf_54 : decode cX9_readLineOf 54 = .ok (.getfield 56, 3) := by decide +kernel
theorem dX9_readLineOf_57 : decode cX9_readLineOf 57 = .ok (.imul, 1) := by decide +kernel
theorem dX9_readLineOf_58 : decode cX9_readLineOf 58 = .ok (.iconst 1, 1) := by decide +kernel
theorem dX9_readLineOf_59 : decode cX9_readLineOf 59 = .ok (.iadd, 1) := by decide +kernel
theorem dX9_readLineOf_60 : decode cX9_readLineOf 60 = .ok (.aload_n 0, 1) := by decide +kernel
theorem dX9_readLineOf_61 : decode cX9_readLineOf 61 = .ok (.iconst 0, 1) := by decide +kernel
theorem dX9_readLineOf_62 : decode cX9_readLineOf 62 = .ok (.bipush 9, 2) := by decide +kernel
theorem dX9_readLineOf_64 : decode cX9_readLineOf 64 = .ok (.invokevirtual 134, 3) := by decide +kernel
theorem dX9_readLineOf_67 : decode cX9_readLineOf 67 = .ok (.iastore, 1) := by decide +kernel
theorem dX9_readLineOf_68 : decode cX9_readLineOf 68 = .ok (.aload_n 0, 1) := by decide +kernel
theorem dX9_readLineOf_69 : decode cX9_readLineOf 69 = .ok (.getfield 20, 3) := by decide +kernel
theorem dX9_readLineOf_72 : decode cX9_readLineOf 72 = .ok (.iconst 3, 1) := by decide +kernel
theorem dX9_readLineOf_73 : decode cX9_readLineOf 73 = .ok (.aload_n 0, 1) := by decide +kernel
theorem dX9_readLineOf_74 : decode cX9_readLineOf 74 = .ok (.getfield 56, 3) := by decide +kernel
theorem dX9_readLineOf_77 : decode cX9_readLineOf 77 = .ok (.imul, 1) := by decide +kernel
theorem dX9_readLineOf_78 : decode cX9_readLineOf 78 = .ok (.iconst 2, 1) := by decide +kernel
theorem dX9_readLineOf_79 : decode cX9_readLineOf 79 = .ok (.iadd, 1) := by decide +kernel
theorem dX9_readLineOf_80 : decode cX9_readLineOf 80 = .ok (.aload_n 0, 1) := by decide +kernel
theorem dX9_readLineOf_81 : decode cX9_readLineOf 81 = .ok (.invokevirtual 137, 3) := by decide +kernel
theorem dX9_readLineOf_84 : decode cX9_readLineOf 84 = .ok (.iastore, 1) := by decide +kernel
theorem dX9_readLineOf_85 : decode cX9_readLineOf 85 = .ok (.aload_n 0, 1) := by decide +kernel
theorem dX9_readLineOf_86 : decode cX9_readLineOf 86 = .ok (.dup, 1) := by decide +kernel
theorem dX9_readLineOf_87 : decode cX9_readLineOf 87 = .ok (.getfield 56, 3) := by decide +kernel
theorem dX9_readLineOf_90 : decode cX9_readLineOf 90 = .ok (.iconst 1, 1) := by decide +kernel
theorem dX9_readLineOf_91 : decode cX9_readLineOf 91 = .ok (.iadd, 1) := by decide +kernel
theorem dX9_readLineOf_92 : decode cX9_readLineOf 92 = .ok (.putfield 56, 3) := by decide +kernel
theorem dX9_readLineOf_95 : decode cX9_readLineOf 95 = .ok (.goto 90, 3) := by decide +kernel
theorem dX9_readLineOf_98 : decode cX9_readLineOf 98 = .ok (.aload_n 0, 1) := by decide +kernel
theorem dX9_readLineOf_99 : decode cX9_readLineOf 99 = .ok (.getfield 20, 3) := by decide +kernel
theorem dX9_readLineOf_102 : decode cX9_readLineOf 102 = .ok (.bipush 40, 2) := by decide +kernel
theorem dX9_readLineOf_104 : decode cX9_readLineOf 104 = .ok (.aload_n 0, 1) := by decide +kernel
theorem dX9_readLineOf_105 : decode cX9_readLineOf 105 = .ok (.iconst 0, 1) := by decide +kernel
theorem dX9_readLineOf_106 : decode cX9_readLineOf 106 = .ok (.bipush 7, 2) := by decide +kernel
theorem dX9_readLineOf_108 : decode cX9_readLineOf 108 = .ok (.invokevirtual 134, 3) := by decide +kernel
theorem dX9_readLineOf_111 : decode cX9_readLineOf 111 = .ok (.iastore, 1) := by decide +kernel
theorem dX9_readLineOf_112 : decode cX9_readLineOf 112 = .ok (.goto 73, 3) := by decide +kernel
theorem dX9_readLineOf_115 : decode cX9_readLineOf 115 = .ok (.aload_n 0, 1) := by decide +kernel
theorem dX9_readLineOf_116 : decode cX9_readLineOf 116 = .ok (.getfield 20, 3) := by decide +kernel
theorem dX9_readLineOf_119 : decode cX9_readLineOf 119 = .ok (.bipush 24, 2) := by decide +kernel
theorem dX9_readLineOf_121 : decode cX9_readLineOf 121 = .ok (.iconst 4, 1) := by decide +kernel
theorem dX9_readLineOf_122 : decode cX9_readLineOf 122 = .ok (.aload_n 0, 1) := by decide +kernel
theorem dX9_readLineOf_123 : decode cX9_readLineOf 123 = .ok (.getfield 60, 3) := by decide +kernel
theorem dX9_readLineOf_126 : decode cX9_readLineOf 126 = .ok (.imul, 1) := by decide +kernel
theorem dX9_readLineOf_127 : decode cX9_readLineOf 127 = .ok (.iadd, 1) := by decide +kernel
theorem dX9_readLineOf_128 : decode cX9_readLineOf 128 = .ok (.iconst 0, 1) := by decide +kernel
theorem dX9_readLineOf_129 : decode cX9_readLineOf 129 = .ok (.iadd, 1) := by decide +kernel
theorem dX9_readLineOf_130 : decode cX9_readLineOf 130 = .ok (.iload_n 1, 1) := by decide +kernel
theorem dX9_readLineOf_131 : decode cX9_readLineOf 131 = .ok (.iastore, 1) := by decide +kernel
theorem dX9_readLineOf_132 : decode cX9_readLineOf 132 = .ok (.aload_n 0, 1) := by decide +kernel
theorem dX9_readLineOf_133 : decode cX9_readLineOf 133 = .ok (.getfield 20, 3) := by decide +kernel
theorem dX9_readLineOf_136 : decode cX9_readLineOf 136 = .ok (.bipush 24, 2) := by decide +kernel
theorem dX9_readLineOf_138 : decode cX9_readLineOf 138 = .ok (.iconst 4, 1) := by decide +kernel
theorem dX9_readLineOf_139 : decode cX9_readLineOf 139 = .ok (.aload_n 0, 1) := by decide +kernel
theorem dX9_readLineOf_140 : decode cX9_readLineOf 140 = .ok (.getfield 60, 3) := by decide +kernel
theorem dX9_readLineOf_143 : decode cX9_readLineOf 143 = .ok (.imul, 1) := by decide +kernel
theorem dX9_readLineOf_144 : decode cX9_readLineOf 144 = .ok (.iadd, 1) := by decide +kernel
theorem dX9_readLineOf_145 : decode cX9_readLineOf 145 = .ok (.iconst 1, 1) := by decide +kernel
theorem dX9_readLineOf_146 : decode cX9_readLineOf 146 = .ok (.iadd, 1) := by decide +kernel
theorem dX9_readLineOf_147 : decode cX9_readLineOf 147 = .ok (.aload_n 0, 1) := by decide +kernel
theorem dX9_readLineOf_148 : decode cX9_readLineOf 148 = .ok (.invokevirtual 137, 3) := by decide +kernel
theorem dX9_readLineOf_151 : decode cX9_readLineOf 151 = .ok (.iastore, 1) := by decide +kernel
theorem dX9_readLineOf_152 : decode cX9_readLineOf 152 = .ok (.aload_n 0, 1) := by decide +kernel
theorem dX9_readLineOf_153 : decode cX9_readLineOf 153 = .ok (.getfield 20, 3) := by decide +kernel
theorem dX9_readLineOf_156 : decode cX9_readLineOf 156 = .ok (.bipush 24, 2) := by decide +kernel
theorem dX9_readLineOf_158 : decode cX9_readLineOf 158 = .ok (.iconst 4, 1) := by decide +kernel
theorem dX9_readLineOf_159 : decode cX9_readLineOf 159 = .ok (.aload_n 0, 1) := by decide +kernel
theorem dX9_readLineOf_160 : decode cX9_readLineOf 160 = .ok (.getfield 60, 3) := by decide +kernel
theorem dX9_readLineOf_163 : decode cX9_readLineOf 163 = .ok (.imul, 1) := by decide +kernel
theorem dX9_readLineOf_164 : decode cX9_readLineOf 164 = .ok (.iadd, 1) := by decide +kernel
theorem dX9_readLineOf_165 : decode cX9_readLineOf 165 = .ok (.iconst 2, 1) := by decide +kernel
theorem dX9_readLineOf_166 : decode cX9_readLineOf 166 = .ok (.iadd, 1) := by decide +kernel
theorem dX9_readLineOf_167 : decode cX9_readLineOf 167 = .ok (.aload_n 0, 1) := by decide +kernel
theorem dX9_readLineOf_168 : decode cX9_readLineOf 168 = .ok (.iconst 1, 1) := by decide +kernel
theorem dX9_readLineOf_169 : decode cX9_readLineOf 169 = .ok (.bipush 99, 2) := by decide +kernel
theorem dX9_readLineOf_171 : decode cX9_readLineOf 171 = .ok (.invokevirtual 134, 3) := by decide +kernel
theorem dX9_readLineOf_174 : decode cX9_readLineOf 174 = .ok (.iastore, 1) := by decide +kernel
theorem dX9_readLineOf_175 : decode cX9_readLineOf 175 = .ok (.aload_n 0, 1) := by decide +kernel
theorem dX9_readLineOf_176 : decode cX9_readLineOf 176 = .ok (.dup, 1) := by decide +kernel
theorem dX9_readLineOf_177 : decode cX9_readLineOf 177 = .ok (.getfield 60, 3) := by decide +kernel
theorem dX9_readLineOf_180 : decode cX9_readLineOf 180 = .ok (.iconst 1, 1) := by decide +kernel
theorem dX9_readLineOf_181 : decode cX9_readLineOf 181 = .ok (.iadd, 1) := by decide +kernel
theorem dX9_readLineOf_182 : decode cX9_readLineOf 182 = .ok (.putfield 60, 3) := by decide +kernel
theorem dX9_readLineOf_185 : decode cX9_readLineOf 185 = .ok (.return_, 1) := by decide +kernel
theorem dX9_readLine_0 : decode cX9_readLine 0 = .ok (.aload_n 0, 1) := by decide +kernel
theorem dX9_readLine_1 : decode cX9_readLine 1 = .ok (.getfield 109, 3) := by decide +kernel
theorem dX9_readLine_4 : decode cX9_readLine 4 = .ok (.iconst 1, 1) := by decide +kernel
theorem dX9_readLine_5 : decode cX9_readLine 5 = .ok (.if_icmp .ne 10, 3) := by decide +kernel
theorem dX9_readLine_8 : decode cX9_readLine 8 = .ok (.aload_n 0, 1) := by decide +kernel
theorem dX9_readLine_9 : decode cX9_readLine 9 = .ok (.invokevirtual 141, 3) := by decide +kernel
theorem dX9_readLine_12 : decode cX9_readLine 12 = .ok (.goto 5, 3) := by decide +kernel
theorem dX9_readLine_15 : decode cX9_readLine 15 = .ok (.bipush (-4), 2) := by decide +kernel
theorem dX9_readLine_17 : decode cX9_readLine 17 = .ok (.istore_n 1, 1) := by decide +kernel
theorem dX9_readLine_18 : decode cX9_readLine 18 = .ok (.aload_n 0, 1) := by decide +kernel
theorem dX9_readLine_19 : decode cX9_readLine 19 = .ok (.iload_n 1, 1) := by decide +kernel
theorem dX9_readLine_20 : decode cX9_readLine 20 = .ok (.bipush (-4), 2) := by decide +kernel
theorem dX9_readLine_22 : decode cX9_readLine 22 = .ok (.if_icmp .eq 7, 3) := by decide +kernel
theorem dX9_readLine_25 : decode cX9_readLine 25 = .ok (.iconst 1, 1) := by decide +kernel
theorem dX9_readLine_26 : decode cX9_readLine 26 = .ok (.goto 4, 3) := by decide +kernel
theorem dX9_readLine_29 : decode cX9_readLine 29 = .ok (.iconst 0, 1) := by decide +kernel
theorem dX9_readLine_30 : decode cX9_readLine 30 = .ok (.iconst 2, 1) := by decide +kernel
theorem dX9_readLine_31 : decode cX9_readLine 31 = .ok (.invokevirtual 123, 3) := by decide +kernel
theorem dX9_readLine_34 : decode cX9_readLine 34 = .ok (.aload_n 0, 1) := by decide +kernel
theorem dX9_readLine_35 : decode cX9_readLine 35 = .ok (.iload_n 1, 1) := by decide +kernel
theorem dX9_readLine_36 : decode cX9_readLine 36 = .ok (.iconst 5, 1) := by decide +kernel
theorem dX9_readLine_37 : decode cX9_readLine 37 = .ok (.if_icmp .eq 28, 3) := by decide +kernel
theorem dX9_readLine_40 : decode cX9_readLine 40 = .ok (.iload_n 1, 1) := by decide +kernel
theorem dX9_readLine_41 : decode cX9_readLine 41 = .ok (.iconst 4, 1) := by decide +kernel
theorem dX9_readLine_42 : decode cX9_readLine 42 = .ok (.if_icmp .ne 15, 3) := by decide +kernel
theorem dX9_readLine_45 : decode cX9_readLine 45 = .ok (.aload_n 0, 1) := by decide +kernel
theorem dX9_readLine_46 : decode cX9_readLine 46 = .ok (.getfield 56, 3) := by decide +kernel
theorem dX9_readLine_49 : decode cX9_readLine 49 = .ok (.bipush 8, 2) := by decide +kernel
theorem dX9_readLine_51 : decode cX9_readLine 51 = .ok (.if_icmp .ge 18, 3) := by decide +kernel
theorem dX9_readLine_54 : decode cX9_readLine 54 = .ok (.goto 11, 3) := by decide +kernel
theorem dX9_readLine_57 : decode cX9_readLine 57 = .ok (.aload_n 0, 1) := by decide +kernel
theorem dX9_readLine_58 : decode cX9_readLine 58 = .ok (.getfield 60, 3) := by decide +kernel
theorem dX9_readLine_61 : decode cX9_readLine 61 = .ok (.iconst 4, 1) := by decide +kernel
theorem dX9_readLine_62 : decode cX9_readLine 62 = .ok (.if_icmp .ge 7, 3) := by decide +kernel
theorem dX9_readLine_65 : decode cX9_readLine 65 = .ok (.iconst 1, 1) := by decide +kernel
theorem dX9_readLine_66 : decode cX9_readLine 66 = .ok (.goto 4, 3) := by decide +kernel
theorem dX9_readLine_69 : decode cX9_readLine 69 = .ok (.iconst 0, 1) := by decide +kernel
theorem dX9_readLine_70 : decode cX9_readLine 70 = .ok (.iconst 5, 1) := by decide +kernel
theorem dX9_readLine_71 : decode cX9_readLine 71 = .ok (.invokevirtual 123, 3) := by decide +kernel
theorem dX9_readLine_74 : decode cX9_readLine 74 = .ok (.aload_n 0, 1) := by decide +kernel
theorem dX9_readLine_75 : decode cX9_readLine 75 = .ok (.iload_n 1, 1) := by decide +kernel
theorem dX9_readLine_76 : decode cX9_readLine 76 = .ok (.iconst 5, 1) := by decide +kernel
theorem dX9_readLine_77 : decode cX9_readLine 77 = .ok (.if_icmp .ne 10, 3) := by decide +kernel
theorem dX9_readLine_80 : decode cX9_readLine 80 = .ok (.aload_n 0, 1) := by decide +kernel
theorem dX9_readLine_81 : decode cX9_readLine 81 = .ok (.getfield 63, 3) := by decide +kernel
theorem dX9_readLine_84 : decode cX9_readLine 84 = .ok (.ifCond .ne 7, 3) := by decide +kernel
theorem dX9_readLine_87 : decode cX9_readLine 87 = .ok (.iconst 1, 1) := by decide +kernel
theorem dX9_readLine_88 : decode cX9_readLine 88 = .ok (.goto 4, 3) := by decide +kernel
theorem dX9_readLine_91 : decode cX9_readLine 91 = .ok (.iconst 0, 1) := by decide +kernel
theorem dX9_readLine_92 : decode cX9_readLine 92 = .ok (.iconst 4, 1) := by decide +kernel
theorem dX9_readLine_93 : decode cX9_readLine 93 = .ok (.invokevirtual 123, 3) := by decide +kernel
theorem dX9_readLine_96 : decode cX9_readLine 96 = .ok (.aload_n 0, 1) := by decide +kernel
theorem dX9_readLine_97 : decode cX9_readLine 97 = .ok (.aload_n 0, 1) := by decide +kernel
theorem dX9_readLine_98 : decode cX9_readLine 98 = .ok (.getfield 63, 3) := by decide +kernel
theorem dX9_readLine_101 : decode cX9_readLine 101 = .ok (.ifCond .ne 8, 3) := by decide +kernel
theorem dX9_readLine_104 : decode cX9_readLine 104 = .ok (.iload_n 1, 1) := by decide +kernel
theorem dX9_readLine_105 : decode cX9_readLine 105 = .ok (.iconst 5, 1) := by decide +kernel
theorem dX9_readLine_106 : decode cX9_readLine 106 = .ok (.if_icmp .ne 7, 3) := by decide +kernel
theorem dX9_readLine_109 : decode cX9_readLine 109 = .ok (.iconst 1, 1) := by decide +kernel
theorem dX9_readLine_110 : decode cX9_readLine 110 = .ok (.goto 4, 3) := by decide +kernel
theorem dX9_readLine_113 : decode cX9_readLine 113 = .ok (.iconst 0, 1) := by decide +kernel
theorem dX9_readLine_114 : decode cX9_readLine 114 = .ok (.putfield 63, 3) := by decide +kernel
theorem dX9_readLine_117 : decode cX9_readLine 117 = .ok (.aload_n 0, 1) := by decide +kernel
theorem dX9_readLine_118 : decode cX9_readLine 118 = .ok (.invokevirtual 131, 3) := by decide +kernel
theorem dX9_readLine_121 : decode cX9_readLine 121 = .ok (.aload_n 0, 1) := by decide +kernel
theorem dX9_readLine_122 : decode cX9_readLine 122 = .ok (.getfield 85, 3) := by decide +kernel
theorem dX9_readLine_125 : decode cX9_readLine 125 = .ok (.ifCond .le 4, 3) := by decide +kernel
theorem dX9_readLine_128 : decode cX9_readLine 128 = .ok (.return_, 1) := by decide +kernel
theorem dX9_readLine_129 : decode cX9_readLine 129 = .ok (.aload_n 0, 1) := by decide +kernel
theorem dX9_readLine_130 : decode cX9_readLine 130 = .ok (.iload_n 1, 1) := by decide +kernel
theorem dX9_readLine_131 : decode cX9_readLine 131 = .ok (.invokevirtual 144, 3) := by decide +kernel
theorem dX9_readLine_134 : decode cX9_readLine 134 = .ok (.aload_n 0, 1) := by decide +kernel
theorem dX9_readLine_135 : decode cX9_readLine 135 = .ok (.getfield 85, 3) := by decide +kernel
theorem dX9_readLine_138 : decode cX9_readLine 138 = .ok (.ifCond .ne 21, 3) := by decide +kernel
theorem dX9_readLine_141 : decode cX9_readLine 141 = .ok (.aload_n 0, 1) := by decide +kernel
theorem dX9_readLine_142 : decode cX9_readLine 142 = .ok (.aload_n 0, 1) := by decide +kernel
theorem dX9_readLine_143 : decode cX9_readLine 143 = .ok (.getfield 109, 3) := by decide +kernel
theorem dX9_readLine_146 : decode cX9_readLine 146 = .ok (.iconst 3, 1) := by decide +kernel
theorem dX9_readLine_147 : decode cX9_readLine 147 = .ok (.if_icmp .ne 7, 3) := by decide +kernel
theorem dX9_readLine_150 : decode cX9_readLine 150 = .ok (.iconst 1, 1) := by decide +kernel
theorem dX9_readLine_151 : decode cX9_readLine 151 = .ok (.goto 4, 3) := by decide +kernel
theorem dX9_readLine_154 : decode cX9_readLine 154 = .ok (.iconst 0, 1) := by decide +kernel
theorem dX9_readLine_155 : decode cX9_readLine 155 = .ok (.iconst 2, 1) := by decide +kernel
theorem dX9_readLine_156 : decode cX9_readLine 156 = .ok (.invokevirtual 123, 3) := by decide +kernel
theorem dX9_readLine_159 : decode cX9_readLine 159 = .ok (.aload_n 0, 1) := by decide +kernel
theorem dX9_readLine_160 : decode cX9_readLine 160 = .ok (.invokevirtual 131, 3) := by decide +kernel
theorem dX9_readLine_163 : decode cX9_readLine 163 = .ok (.return_, 1) := by decide +kernel
theorem dX9_text_0 : decode cX9_text 0 = .ok (.iconst 0, 1) := by decide +kernel
theorem dX9_text_1 : decode cX9_text 1 = .ok (.istore_n 1, 1) := by decide +kernel
theorem dX9_text_2 : decode cX9_text 2 = .ok (.aload_n 0, 1) := by decide +kernel
theorem dX9_text_3 : decode cX9_text 3 = .ok (.iconst 0, 1) := by decide +kernel
theorem dX9_text_4 : decode cX9_text 4 = .ok (.putfield 85, 3) := by decide +kernel
theorem dX9_text_7 : decode cX9_text 7 = .ok (.aload_n 0, 1) := by decide +kernel
theorem dX9_text_8 : decode cX9_text 8 = .ok (.iconst 0, 1) := by decide +kernel
theorem dX9_text_9 : decode cX9_text 9 = .ok (.putfield 94, 3) := by decide +kernel
theorem dX9_text_12 : decode cX9_text 12 = .ok (.aload_n 0, 1) := by decide +kernel
theorem dX9_text_13 : decode cX9_text 13 = .ok (.invokevirtual 50, 3) := by decide +kernel
theorem dX9_text_16 : decode cX9_text 16 = .ok (.aload_n 0, 1) := by decide +kernel
theorem dX9_text_17 : decode cX9_text 17 = .ok (.invokevirtual 131, 3) := by decide +kernel
theorem dX9_text_20 : decode cX9_text 20 = .ok (.aload_n 0, 1) := by decide +kernel
theorem dX9_text_21 : decode cX9_text 21 = .ok (.getfield 85, 3) := by decide +kernel
theorem dX9_text_24 : decode cX9_text 24 = .ok (.ifCond .ne 20, 3) := by decide +kernel
theorem dX9_text_27 : decode cX9_text 27 = .ok (.aload_n 0, 1) := by decide +kernel
theorem dX9_text_28 : decode cX9_text 28 = .ok (.getfield 109, 3) := by decide +kernel
theorem dX9_text_31 : decode cX9_text 31 = .ok (.ifCond .eq 13, 3) := by decide +kernel
theorem dX9_text_34 : decode cX9_text 34 = .ok (.aload_n 0, 1) := by decide +kernel
theorem dX9_text_35 : decode cX9_text 35 = .ok (.invokevirtual 148, 3) := by decide +kernel
theorem dX9_text_38 : decode cX9_text 38 = .ok (.iinc 1 1, 3) := by decide +kernel
theorem dX9_text_41 : decode cX9_text 41 = .ok (.goto (-21), 3) := by decide +kernel
theorem dX9_text_44 : decode cX9_text 44 = .ok (.aload_n 0, 1) := by decide +kernel
theorem dX9_text_45 : decode cX9_text 45 = .ok (.getfield 85, 3) := by decide +kernel
theorem dX9_text_48 : decode cX9_text 48 = .ok (.ifCond .ne 25, 3) := by decide +kernel
theorem dX9_text_51 : decode cX9_text 51 = .ok (.aload_n 0, 1) := by decide +kernel
theorem dX9_text_52 : decode cX9_text 52 = .ok (.aload_n 0, 1) := by decide +kernel
theorem dX9_text_53 : decode cX9_text 53 = .ok (.getfield 67, 3) := by decide +kernel
theorem dX9_text_56 : decode cX9_text 56 = .ok (.aload_n 0, 1) := by decide +kernel
theorem dX9_text_57 : decode cX9_text 57 = .ok (.getfield 56, 3) := by decide +kernel
theorem dX9_text_60 : decode cX9_text 60 = .ok (.if_icmp .ge 7, 3) := by decide +kernel
theorem dX9_text_63 : decode cX9_text 63 = .ok (.iconst 1, 1) := by decide +kernel
theorem dX9_text_64 : decode cX9_text 64 = .ok (.goto 4, 3) := by decide +kernel
theorem dX9_text_67 : decode cX9_text 67 = .ok (.iconst 0, 1) := by decide +kernel
theorem dX9_text_68 : decode cX9_text 68 = .ok (.bipush 6, 2) := by decide +kernel
theorem dX9_text_70 : decode cX9_text 70 = .ok (.invokevirtual 123, 3) := by decide +kernel
theorem dX9_text_73 : decode cX9_text 73 = .ok (.aload_n 0, 1) := by decide +kernel
theorem dX9_text_74 : decode cX9_text 74 = .ok (.iconst 0, 1) := by decide +kernel
theorem dX9_text_75 : decode cX9_text 75 = .ok (.putfield 82, 3) := by decide +kernel
theorem dX9_text_78 : decode cX9_text 78 = .ok (.aload_n 0, 1) := by decide +kernel
theorem dX9_text_79 : decode cX9_text 79 = .ok (.getfield 85, 3) := by decide +kernel
theorem dX9_text_82 : decode cX9_text 82 = .ok (.ifCond .le 11, 3) := by decide +kernel
theorem dX9_text_85 : decode cX9_text 85 = .ok (.bipush (-10), 2) := by decide +kernel
theorem dX9_text_87 : decode cX9_text 87 = .ok (.aload_n 0, 1) := by decide +kernel
theorem dX9_text_88 : decode cX9_text 88 = .ok (.getfield 91, 3) := by decide +kernel
theorem dX9_text_91 : decode cX9_text 91 = .ok (.isub, 1) := by decide +kernel
theorem dX9_text_92 : decode cX9_text 92 = .ok (.ireturn, 1) := by decide +kernel
theorem dX9_text_93 : decode cX9_text 93 = .ok (.aload_n 0, 1) := by decide +kernel
theorem dX9_text_94 : decode cX9_text 94 = .ok (.invokevirtual 53, 3) := by decide +kernel
theorem dX9_text_97 : decode cX9_text 97 = .ok (.iload_n 1, 1) := by decide +kernel
theorem dX9_text_98 : decode cX9_text 98 = .ok (.ireturn, 1) := by decide +kernel
theorem dX9_fault_0 : decode cX9_fault 0 = .ok (.aload_n 0, 1) := by decide +kernel
theorem dX9_fault_1 : decode cX9_fault 1 = .ok (.getfield 85, 3) := by decide +kernel
theorem dX9_fault_4 : decode cX9_fault 4 = .ok (.ireturn, 1) := by decide +kernel
theorem dX9_isBook_0 : decode cX9_isBook 0 = .ok (.iload_n 1, 1) := by decide +kernel
theorem dX9_isBook_1 : decode cX9_isBook 1 = .ok (.i2l, 1) := by decide +kernel
theorem dX9_isBook_2 : decode cX9_isBook 2 = .ok (.lconst 0, 1) := by decide +kernel
theorem dX9_isBook_3 : decode cX9_isBook 3 = .ok (.aload_n 0, 1) := by decide +kernel
theorem dX9_isBook_4 : decode cX9_isBook 4 = .ok (.getfield 70, 3) := by decide +kernel
theorem dX9_isBook_7 : decode cX9_isBook 7 = .ok (.iconst 1, 1) := by decide +kernel
theorem dX9_isBook_8 : decode cX9_isBook 8 = .ok (.isub, 1) := by decide +kernel
theorem dX9_isBook_9 : decode cX9_isBook 9 = .ok (.i2l, 1) := by decide +kernel
theorem dX9_isBook_10 : decode cX9_isBook 10 = .ok (.invokestatic 78, 3) := by decide +kernel
theorem dX9_isBook_13 : decode cX9_isBook 13 = .ok (.ireturn, 1) := by decide +kernel
theorem dX9_isReader_0 : decode cX9_isReader 0 = .ok (.iload_n 1, 1) := by decide +kernel
theorem dX9_isReader_1 : decode cX9_isReader 1 = .ok (.i2l, 1) := by decide +kernel
theorem dX9_isReader_2 : decode cX9_isReader 2 = .ok (.lconst 0, 1) := by decide +kernel
theorem dX9_isReader_3 : decode cX9_isReader 3 = .ok (.aload_n 0, 1) := by decide +kernel
theorem dX9_isReader_4 : decode cX9_isReader 4 = .ok (.getfield 73, 3) := by decide +kernel
theorem dX9_isReader_7 : decode cX9_isReader 7 = .ok (.iconst 1, 1) := by decide +kernel
theorem dX9_isReader_8 : decode cX9_isReader 8 = .ok (.isub, 1) := by decide +kernel
theorem dX9_isReader_9 : decode cX9_isReader 9 = .ok (.i2l, 1) := by decide +kernel
theorem dX9_isReader_10 : decode cX9_isReader 10 = .ok (.invokestatic 78, 3) := by decide +kernel
theorem dX9_isReader_13 : decode cX9_isReader 13 = .ok (.ireturn, 1) := by decide +kernel
theorem dX9_isBay_0 : decode cX9_isBay 0 = .ok (.iload_n 0, 1) := by decide +kernel
theorem dX9_isBay_1 : decode cX9_isBay 1 = .ok (.i2l, 1) := by decide +kernel
theorem dX9_isBay_2 : decode cX9_isBay 2 = .ok (.lconst 0, 1) := by decide +kernel
theorem dX9_isBay_3 : decode cX9_isBay 3 = .ok (.ldc2_w 151, 3) := by decide +kernel
theorem dX9_isBay_6 : decode cX9_isBay 6 = .ok (.invokestatic 78, 3) := by decide +kernel
theorem dX9_isBay_9 : decode cX9_isBay 9 = .ok (.ireturn, 1) := by decide +kernel
theorem dX9_isPart_0 : decode cX9_isPart 0 = .ok (.iload_n 0, 1) := by decide +kernel
theorem dX9_isPart_1 : decode cX9_isPart 1 = .ok (.i2l, 1) := by decide +kernel
theorem dX9_isPart_2 : decode cX9_isPart 2 = .ok (.lconst 0, 1) := by decide +kernel
theorem dX9_isPart_3 : decode cX9_isPart 3 = .ok (.lconst 1, 1) := by decide +kernel
theorem dX9_isPart_4 : decode cX9_isPart 4 = .ok (.invokestatic 78, 3) := by decide +kernel
theorem dX9_isPart_7 : decode cX9_isPart 7 = .ok (.ireturn, 1) := by decide +kernel
theorem dX9_starts_0 : decode cX9_starts 0 = .ok (.iconst 0, 1) := by decide +kernel
theorem dX9_starts_1 : decode cX9_starts 1 = .ok (.istore_n 1, 1) := by decide +kernel
theorem dX9_starts_2 : decode cX9_starts 2 = .ok (.iload_n 1, 1) := by decide +kernel
theorem dX9_starts_3 : decode cX9_starts 3 = .ok (.bipush 62, 2) := by decide +kernel
theorem dX9_starts_5 : decode cX9_starts 5 = .ok (.if_icmp .ge 21, 3) := by decide +kernel
theorem dX9_starts_8 : decode cX9_starts 8 = .ok (.aload_n 0, 1) := by decide +kernel
theorem dX9_starts_9 : decode cX9_starts 9 = .ok (.getfield 13, 3) := by decide +kernel
theorem dX9_starts_12 : decode cX9_starts 12 = .ok (.iload_n 1, 1) := by decide +kernel
theorem dX9_starts_13 : decode cX9_starts 13 = .ok (.aload_n 0, 1) := by decide +kernel
theorem dX9_starts_14 : decode cX9_starts 14 = .ok (.getfield 7, 3) := by decide +kernel
theorem dX9_starts_17 : decode cX9_starts 17 = .ok (.iload_n 1, 1) := by decide +kernel
theorem dX9_starts_18 : decode cX9_starts 18 = .ok (.iaload, 1) := by decide +kernel
theorem dX9_starts_19 : decode cX9_starts 19 = .ok (.iastore, 1) := by decide +kernel
theorem dX9_starts_20 : decode cX9_starts 20 = .ok (.iinc 1 1, 3) := by decide +kernel
theorem dX9_starts_23 : decode cX9_starts 23 = .ok (.goto (-21), 3) := by decide +kernel
theorem dX9_starts_26 : decode cX9_starts 26 = .ok (.return_, 1) := by decide +kernel
theorem dX9_settles_0 : decode cX9_settles 0 = .ok (.iconst 0, 1) := by decide +kernel
theorem dX9_settles_1 : decode cX9_settles 1 = .ok (.istore_n 1, 1) := by decide +kernel
theorem dX9_settles_2 : decode cX9_settles 2 = .ok (.iload_n 1, 1) := by decide +kernel
theorem dX9_settles_3 : decode cX9_settles 3 = .ok (.bipush 62, 2) := by decide +kernel
theorem dX9_settles_5 : decode cX9_settles 5 = .ok (.if_icmp .ge 21, 3) := by decide +kernel
theorem dX9_settles_8 : decode cX9_settles 8 = .ok (.aload_n 0, 1) := by decide +kernel
theorem dX9_settles_9 : decode cX9_settles 9 = .ok (.getfield 7, 3) := by decide +kernel
theorem dX9_settles_12 : decode cX9_settles 12 = .ok (.iload_n 1, 1) := by decide +kernel
theorem dX9_settles_13 : decode cX9_settles 13 = .ok (.aload_n 0, 1) := by decide +kernel
theorem dX9_settles_14 : decode cX9_settles 14 = .ok (.getfield 13, 3) := by decide +kernel
theorem dX9_settles_17 : decode cX9_settles 17 = .ok (.iload_n 1, 1) := by decide +kernel
theorem dX9_settles_18 : decode cX9_settles 18 = .ok (.iaload, 1) := by decide +kernel
theorem dX9_settles_19 : decode cX9_settles 19 = .ok (.iastore, 1) := by decide +kernel
theorem dX9_settles_20 : decode cX9_settles 20 = .ok (.iinc 1 1, 3) := by decide +kernel
theorem dX9_settles_23 : decode cX9_settles 23 = .ok (.goto (-21), 3) := by decide +kernel
theorem dX9_settles_26 : decode cX9_settles 26 = .ok (.return_, 1) := by decide +kernel
theorem dX9_of_0 : decode cX9_of 0 = .ok (.aload_n 0, 1) := by decide +kernel
theorem dX9_of_1 : decode cX9_of 1 = .ok (.getfield 13, 3) := by decide +kernel
theorem dX9_of_4 : decode cX9_of 4 = .ok (.iconst 3, 1) := by decide +kernel
theorem dX9_of_5 : decode cX9_of 5 = .ok (.iload_n 1, 1) := by decide +kernel
theorem dX9_of_6 : decode cX9_of 6 = .ok (.imul, 1) := by decide +kernel
theorem dX9_of_7 : decode cX9_of 7 = .ok (.iload_n 2, 1) := by decide +kernel
theorem dX9_of_8 : decode cX9_of 8 = .ok (.iadd, 1) := by decide +kernel
theorem dX9_of_9 : decode cX9_of 9 = .ok (.iaload, 1) := by decide +kernel
theorem dX9_of_10 : decode cX9_of 10 = .ok (.ireturn, 1) := by decide +kernel
theorem dX9_ofReader_0 : decode cX9_ofReader 0 = .ok (.aload_n 0, 1) := by decide +kernel
theorem dX9_ofReader_1 : decode cX9_ofReader 1 = .ok (.getfield 13, 3) := by decide +kernel
theorem dX9_ofReader_4 : decode cX9_ofReader 4 = .ok (.bipush 24, 2) := by decide +kernel
theorem dX9_ofReader_6 : decode cX9_ofReader 6 = .ok (.iconst 4, 1) := by decide +kernel
theorem dX9_ofReader_7 : decode cX9_ofReader 7 = .ok (.iload_n 1, 1) := by decide +kernel
theorem dX9_ofReader_8 : decode cX9_ofReader 8 = .ok (.imul, 1) := by decide +kernel
theorem dX9_ofReader_9 : decode cX9_ofReader 9 = .ok (.iadd, 1) := by decide +kernel
theorem dX9_ofReader_10 : decode cX9_ofReader 10 = .ok (.iload_n 2, 1) := by decide +kernel
theorem dX9_ofReader_11 : decode cX9_ofReader 11 = .ok (.iadd, 1) := by decide +kernel
theorem dX9_ofReader_12 : decode cX9_ofReader 12 = .ok (.iaload, 1) := by decide +kernel
theorem dX9_ofReader_13 : decode cX9_ofReader 13 = .ok (.ireturn, 1) := by decide +kernel
theorem dX9_becomesOf_0 : decode cX9_becomesOf 0 = .ok (.aload_n 0, 1) := by decide +kernel
theorem dX9_becomesOf_1 : decode cX9_becomesOf 1 = .ok (.getfield 13, 3) := by decide +kernel
theorem dX9_becomesOf_4 : decode cX9_becomesOf 4 = .ok (.bipush 24, 2) := by decide +kernel
theorem dX9_becomesOf_6 : decode cX9_becomesOf 6 = .ok (.iconst 4, 1) := by decide +kernel
theorem dX9_becomesOf_7 : decode cX9_becomesOf 7 = .ok (.iload_n 1, 1) := by decide +kernel
theorem dX9_becomesOf_8 : decode cX9_becomesOf 8 = .ok (.imul, 1) := by decide +kernel
theorem dX9_becomesOf_9 : decode cX9_becomesOf 9 = .ok (.iadd, 1) := by decide +kernel
theorem dX9_becomesOf_10 : decode cX9_becomesOf 10 = .ok (.iload_n 2, 1) := by decide +kernel
theorem dX9_becomesOf_11 : decode cX9_becomesOf 11 = .ok (.iadd, 1) := by decide +kernel
theorem dX9_becomesOf_12 : decode cX9_becomesOf 12 = .ok (.iload_n 3, 1) := by decide +kernel
theorem dX9_becomesOf_13 : decode cX9_becomesOf 13 = .ok (.iastore, 1) := by decide +kernel
theorem dX9_becomesOf_14 : decode cX9_becomesOf 14 = .ok (.return_, 1) := by decide +kernel
theorem dX9_had_0 : decode cX9_had 0 = .ok (.aload_n 0, 1) := by decide +kernel
theorem dX9_had_1 : decode cX9_had 1 = .ok (.iload_n 1, 1) := by decide +kernel
theorem dX9_had_2 : decode cX9_had 2 = .ok (.iconst 3, 1) := by decide +kernel
theorem dX9_had_3 : decode cX9_had 3 = .ok (.invokevirtual 153, 3) := by decide +kernel
theorem dX9_had_6 : decode cX9_had 6 = .ok (.iload_n 2, 1) := by decide +kernel
theorem dX9_had_7 : decode cX9_had 7 = .ok (.ishr, 1) := by decide +kernel
theorem dX9_had_8 : decode cX9_had 8 = .ok (.iconst 1, 1) := by decide +kernel
theorem dX9_had_9 : decode cX9_had 9 = .ok (.iand, 1) := by decide +kernel
theorem dX9_had_10 : decode cX9_had 10 = .ok (.iconst 1, 1) := by decide +kernel
theorem dX9_had_11 : decode cX9_had 11 = .ok (.if_icmp .ne 7, 3) := by decide +kernel
theorem dX9_had_14 : decode cX9_had 14 = .ok (.iconst 1, 1) := by decide +kernel
theorem dX9_had_15 : decode cX9_had 15 = .ok (.goto 4, 3) := by decide +kernel
theorem dX9_had_18 : decode cX9_had 18 = .ok (.iconst 0, 1) := by decide +kernel
theorem dX9_had_19 : decode cX9_had 19 = .ok (.ireturn, 1) := by decide +kernel
theorem dX9_climb_0 : decode cX9_climb 0 = .ok (.iload_n 0, 1) := by decide +kernel
theorem dX9_climb_1 : decode cX9_climb 1 = .ok (.tableswitch 45 1 3 #[27, 31, 37], 27) := by decide +kernel
theorem dX9_climb_28 : decode cX9_climb 28 = .ok (.iconst 2, 1) := by decide +kernel
theorem dX9_climb_29 : decode cX9_climb 29 = .ok (.iload_n 1, 1) := by decide +kernel
theorem dX9_climb_30 : decode cX9_climb 30 = .ok (.imul, 1) := by decide +kernel
theorem dX9_climb_31 : decode cX9_climb 31 = .ok (.ireturn, 1) := by decide +kernel
theorem dX9_climb_32 : decode cX9_climb 32 = .ok (.iload_n 1, 1) := by decide +kernel
theorem dX9_climb_33 : decode cX9_climb 33 = .ok (.iconst 1, 1) := by decide +kernel
theorem dX9_climb_34 : decode cX9_climb 34 = .ok (.iadd, 1) := by decide +kernel
theorem dX9_climb_35 : decode cX9_climb 35 = .ok (.iconst 2, 1) := by decide +kernel
theorem dX9_climb_36 : decode cX9_climb 36 = .ok (.idiv, 1) := by decide +kernel
theorem dX9_climb_37 : decode cX9_climb 37 = .ok (.ireturn, 1) := by decide +kernel
theorem dX9_climb_38 : decode cX9_climb 38 = .ok (.iconst 2, 1) := by decide +kernel
theorem dX9_climb_39 : decode cX9_climb 39 = .ok (.iload_n 1, 1) := by decide +kernel
theorem dX9_climb_40 : decode cX9_climb 40 = .ok (.imul, 1) := by decide +kernel
theorem dX9_climb_41 : decode cX9_climb 41 = .ok (.iconst 2, 1) := by decide +kernel
theorem dX9_climb_42 : decode cX9_climb 42 = .ok (.idiv, 1) := by decide +kernel
theorem dX9_climb_43 : decode cX9_climb 43 = .ok (.iconst 1, 1) := by decide +kernel
theorem dX9_climb_44 : decode cX9_climb 44 = .ok (.iadd, 1) := by decide +kernel
theorem dX9_climb_45 : decode cX9_climb 45 = .ok (.ireturn, 1) := by decide +kernel
theorem dX9_climb_46 : decode cX9_climb 46 = .ok (.iload_n 1, 1) := by decide +kernel
theorem dX9_climb_47 : decode cX9_climb 47 = .ok (.ireturn, 1) := by decide +kernel
theorem dX9_dizziness_0 : decode cX9_dizziness 0 = .ok (.iload_n 1, 1) := by decide +kernel
theorem dX9_dizziness_1 : decode cX9_dizziness 1 = .ok (.iconst 5, 1) := by decide +kernel
theorem dX9_dizziness_2 : decode cX9_dizziness 2 = .ok (.if_icmp .le 11, 3) := by decide +kernel
theorem dX9_dizziness_5 : decode cX9_dizziness 5 = .ok (.iconst 2, 1) := by decide +kernel
theorem dX9_dizziness_6 : decode cX9_dizziness 6 = .ok (.iload_n 1, 1) := by decide +kernel
theorem dX9_dizziness_7 : decode cX9_dizziness 7 = .ok (.imul, 1) := by decide +kernel
theorem dX9_dizziness_8 : decode cX9_dizziness 8 = .ok (.iconst 5, 1) := by decide +kernel
theorem dX9_dizziness_9 : decode cX9_dizziness 9 = .ok (.isub, 1) := by decide +kernel
theorem dX9_dizziness_10 : decode cX9_dizziness 10 = .ok (.goto 4, 3) := by decide +kernel
theorem dX9_dizziness_13 : decode cX9_dizziness 13 = .ok (.iload_n 1, 1) := by decide +kernel
theorem dX9_dizziness_14 : decode cX9_dizziness 14 = .ok (.istore_n 2, 1) := by decide +kernel
theorem dX9_dizziness_15 : decode cX9_dizziness 15 = .ok (.iload_n 0, 1) := by decide +kernel
theorem dX9_dizziness_16 : decode cX9_dizziness 16 = .ok (.tableswitch 38 1 3 #[28, 30, 34], 28) := by decide +kernel
theorem dX9_dizziness_44 : decode cX9_dizziness 44 = .ok (.iload_n 2, 1) := by decide +kernel
theorem dX9_dizziness_45 : decode cX9_dizziness 45 = .ok (.ireturn, 1) := by decide +kernel
theorem dX9_dizziness_46 : decode cX9_dizziness 46 = .ok (.iconst 2, 1) := by decide +kernel
theorem dX9_dizziness_47 : decode cX9_dizziness 47 = .ok (.iload_n 1, 1) := by decide +kernel
theorem dX9_dizziness_48 : decode cX9_dizziness 48 = .ok (.imul, 1) := by decide +kernel
theorem dX9_dizziness_49 : decode cX9_dizziness 49 = .ok (.ireturn, 1) := by decide +kernel
theorem dX9_dizziness_50 : decode cX9_dizziness 50 = .ok (.iload_n 2, 1) := by decide +kernel
theorem dX9_dizziness_51 : decode cX9_dizziness 51 = .ok (.iconst 3, 1) := by decide +kernel
theorem dX9_dizziness_52 : decode cX9_dizziness 52 = .ok (.idiv, 1) := by decide +kernel
theorem dX9_dizziness_53 : decode cX9_dizziness 53 = .ok (.ireturn, 1) := by decide +kernel
theorem dX9_dizziness_54 : decode cX9_dizziness 54 = .ok (.iload_n 1, 1) := by decide +kernel
theorem dX9_dizziness_55 : decode cX9_dizziness 55 = .ok (.ireturn, 1) := by decide +kernel
theorem dX9_minutesOf_0 : decode cX9_minutesOf 0 = .ok (.aload_n 0, 1) := by decide +kernel
theorem dX9_minutesOf_1 : decode cX9_minutesOf 1 = .ok (.iload_n 2, 1) := by decide +kernel
theorem dX9_minutesOf_2 : decode cX9_minutesOf 2 = .ok (.iconst 0, 1) := by decide +kernel
theorem dX9_minutesOf_3 : decode cX9_minutesOf 3 = .ok (.invokevirtual 156, 3) := by decide +kernel
theorem dX9_minutesOf_6 : decode cX9_minutesOf 6 = .ok (.aload_n 0, 1) := by decide +kernel
theorem dX9_minutesOf_7 : decode cX9_minutesOf 7 = .ok (.getfield 13, 3) := by decide +kernel
theorem dX9_minutesOf_10 : decode cX9_minutesOf 10 = .ok (.bipush 40, 2) := by decide +kernel
theorem dX9_minutesOf_12 : decode cX9_minutesOf 12 = .ok (.iaload, 1) := by decide +kernel
theorem dX9_minutesOf_13 : decode cX9_minutesOf 13 = .ok (.isub, 1) := by decide +kernel
theorem dX9_minutesOf_14 : decode cX9_minutesOf 14 = .ok (.istore_n 3, 1) := by decide +kernel
theorem dX9_minutesOf_15 : decode cX9_minutesOf 15 = .ok (.iload_n 3, 1) := by decide +kernel
theorem dX9_minutesOf_16 : decode cX9_minutesOf 16 = .ok (.ifCond .ge 8, 3) := by decide +kernel
theorem dX9_minutesOf_19 : decode cX9_minutesOf 19 = .ok (.iload_n 3, 1) := by decide +kernel
theorem dX9_minutesOf_20 : decode cX9_minutesOf 20 = .ok (.ineg, 1) := by decide +kernel
theorem dX9_minutesOf_21 : decode cX9_minutesOf 21 = .ok (.goto 4, 3) := by decide +kernel
theorem dX9_minutesOf_24 : decode cX9_minutesOf 24 = .ok (.iload_n 3, 1) := by decide +kernel
theorem dX9_minutesOf_25 : decode cX9_minutesOf 25 = .ok (.iconst 2, 1) := by decide +kernel
theorem dX9_minutesOf_26 : decode cX9_minutesOf 26 = .ok (.aload_n 0, 1) := by decide +kernel
theorem dX9_minutesOf_27 : decode cX9_minutesOf 27 = .ok (.iload_n 1, 1) := by decide +kernel
theorem dX9_minutesOf_28 : decode cX9_minutesOf 28 = .ok (.iconst 0, 1) := by decide +kernel
theorem dX9_minutesOf_29 : decode cX9_minutesOf 29 = .ok (.invokevirtual 153, 3) := by decide +kernel
theorem dX9_minutesOf_32 : decode cX9_minutesOf 32 = .ok (.aload_n 0, 1) := by decide +kernel
theorem dX9_minutesOf_33 : decode cX9_minutesOf 33 = .ok (.iload_n 2, 1) := by decide +kernel
theorem dX9_minutesOf_34 : decode cX9_minutesOf 34 = .ok (.iconst 1, 1) := by decide +kernel
theorem dX9_minutesOf_35 : decode cX9_minutesOf 35 = .ok (.invokevirtual 156, 3) := by decide +kernel
theorem dX9_minutesOf_38 : decode cX9_minutesOf 38 = .ok (.invokestatic 159, 3) := by decide +kernel
theorem dX9_minutesOf_41 : decode cX9_minutesOf 41 = .ok (.imul, 1) := by decide +kernel
theorem dX9_minutesOf_42 : decode cX9_minutesOf 42 = .ok (.iadd, 1) := by decide +kernel
theorem dX9_minutesOf_43 : decode cX9_minutesOf 43 = .ok (.ireturn, 1) := by decide +kernel
theorem dX9_startsCounting_0 : decode cX9_startsCounting 0 = .ok (.aload_n 0, 1) := by decide +kernel
theorem dX9_startsCounting_1 : decode cX9_startsCounting 1 = .ok (.iconst 0, 1) := by decide +kernel
theorem dX9_startsCounting_2 : decode cX9_startsCounting 2 = .ok (.putfield 162, 3) := by decide +kernel
theorem dX9_startsCounting_5 : decode cX9_startsCounting 5 = .ok (.aload_n 0, 1) := by decide +kernel
theorem dX9_startsCounting_6 : decode cX9_startsCounting 6 = .ok (.iconst 0, 1) := by decide +kernel
theorem dX9_startsCounting_7 : decode cX9_startsCounting 7 = .ok (.putfield 165, 3) := by decide +kernel
theorem dX9_startsCounting_10 : decode cX9_startsCounting 10 = .ok (.aload_n 0, 1) := by decide +kernel
theorem dX9_startsCounting_11 : decode cX9_startsCounting 11 = .ok (.iconst 0, 1) := by decide +kernel
theorem dX9_startsCounting_12 : decode cX9_startsCounting 12 = .ok (.putfield 168, 3) := by decide +kernel
theorem dX9_startsCounting_15 : decode cX9_startsCounting 15 = .ok (.return_, 1) := by decide +kernel
theorem dX9_fetches_0 : decode cX9_fetches 0 = .ok (.aload_n 0, 1) := by decide +kernel
theorem dX9_fetches_1 : decode cX9_fetches 1 = .ok (.iload_n 1, 1) := by decide +kernel
theorem dX9_fetches_2 : decode cX9_fetches 2 = .ok (.iload_n 2, 1) := by decide +kernel
theorem dX9_fetches_3 : decode cX9_fetches 3 = .ok (.invokevirtual 171, 3) := by decide +kernel
theorem dX9_fetches_6 : decode cX9_fetches 6 = .ok (.istore_n 3, 1) := by decide +kernel
theorem dX9_fetches_7 : decode cX9_fetches 7 = .ok (.aload_n 0, 1) := by decide +kernel
theorem dX9_fetches_8 : decode cX9_fetches 8 = .ok (.getfield 13, 3) := by decide +kernel
theorem dX9_fetches_11 : decode cX9_fetches 11 = .ok (.bipush 40, 2) := by decide +kernel
theorem dX9_fetches_13 : decode cX9_fetches 13 = .ok (.aload_n 0, 1) := by decide +kernel
theorem dX9_fetches_14 : decode cX9_fetches 14 = .ok (.iload_n 2, 1) := by decide +kernel
theorem dX9_fetches_15 : decode cX9_fetches 15 = .ok (.iconst 0, 1) := by decide +kernel
theorem dX9_fetches_16 : decode cX9_fetches 16 = .ok (.invokevirtual 156, 3) := by decide +kernel
theorem dX9_fetches_19 : decode cX9_fetches 19 = .ok (.iastore, 1) := by decide +kernel
theorem dX9_fetches_20 : decode cX9_fetches 20 = .ok (.aload_n 0, 1) := by decide +kernel
theorem dX9_fetches_21 : decode cX9_fetches 21 = .ok (.getfield 13, 3) := by decide +kernel
theorem dX9_fetches_24 : decode cX9_fetches 24 = .ok (.bipush 41, 2) := by decide +kernel
theorem dX9_fetches_26 : decode cX9_fetches 26 = .ok (.dup2, 1) := by decide +kernel
theorem dX9_fetches_27 : decode cX9_fetches 27 = .ok (.iaload, 1) := by decide +kernel
theorem dX9_fetches_28 : decode cX9_fetches 28 = .ok (.iload_n 3, 1) := by decide +kernel
theorem dX9_fetches_29 : decode cX9_fetches 29 = .ok (.iadd, 1) := by decide +kernel
theorem dX9_fetches_30 : decode cX9_fetches 30 = .ok (.iastore, 1) := by decide +kernel
theorem dX9_fetches_31 : decode cX9_fetches 31 = .ok (.aload_n 0, 1) := by decide +kernel
theorem dX9_fetches_32 : decode cX9_fetches 32 = .ok (.iload_n 1, 1) := by decide +kernel
theorem dX9_fetches_33 : decode cX9_fetches 33 = .ok (.iconst 3, 1) := by decide +kernel
theorem dX9_fetches_34 : decode cX9_fetches 34 = .ok (.aload_n 0, 1) := by decide +kernel
theorem dX9_fetches_35 : decode cX9_fetches 35 = .ok (.iload_n 1, 1) := by decide +kernel
theorem dX9_fetches_36 : decode cX9_fetches 36 = .ok (.iconst 3, 1) := by decide +kernel
theorem dX9_fetches_37 : decode cX9_fetches 37 = .ok (.invokevirtual 153, 3) := by decide +kernel
theorem dX9_fetches_40 : decode cX9_fetches 40 = .ok (.iconst 1, 1) := by decide +kernel
theorem dX9_fetches_41 : decode cX9_fetches 41 = .ok (.iload_n 2, 1) := by decide +kernel
theorem dX9_fetches_42 : decode cX9_fetches 42 = .ok (.ishl, 1) := by decide +kernel
theorem dX9_fetches_43 : decode cX9_fetches 43 = .ok (.ior, 1) := by decide +kernel
theorem dX9_fetches_44 : decode cX9_fetches 44 = .ok (.invokevirtual 174, 3) := by decide +kernel
theorem dX9_fetches_47 : decode cX9_fetches 47 = .ok (.aload_n 0, 1) := by decide +kernel
theorem dX9_fetches_48 : decode cX9_fetches 48 = .ok (.dup, 1) := by decide +kernel
theorem dX9_fetches_49 : decode cX9_fetches 49 = .ok (.getfield 165, 3) := by decide +kernel
theorem dX9_fetches_52 : decode cX9_fetches 52 = .ok (.iload_n 3, 1) := by decide +kernel
theorem dX9_fetches_53 : decode cX9_fetches 53 = .ok (.iadd, 1) := by decide +kernel
theorem dX9_fetches_54 : decode cX9_fetches 54 = .ok (.putfield 165, 3) := by decide +kernel
theorem dX9_fetches_57 : decode cX9_fetches 57 = .ok (.aload_n 0, 1) := by decide +kernel
theorem dX9_fetches_58 : decode cX9_fetches 58 = .ok (.dup, 1) := by decide +kernel
theorem dX9_fetches_59 : decode cX9_fetches 59 = .ok (.getfield 162, 3) := by decide +kernel
theorem dX9_fetches_62 : decode cX9_fetches 62 = .ok (.iconst 1, 1) := by decide +kernel
theorem dX9_fetches_63 : decode cX9_fetches 63 = .ok (.iadd, 1) := by decide +kernel
theorem dX9_fetches_64 : decode cX9_fetches 64 = .ok (.putfield 162, 3) := by decide +kernel
theorem dX9_fetches_67 : decode cX9_fetches 67 = .ok (.return_, 1) := by decide +kernel
theorem dX9_readerGoes_0 : decode cX9_readerGoes 0 = .ok (.iconst 0, 1) := by decide +kernel
theorem dX9_readerGoes_1 : decode cX9_readerGoes 1 = .ok (.istore_n 2, 1) := by decide +kernel
theorem dX9_readerGoes_2 : decode cX9_readerGoes 2 = .ok (.iconst 0, 1) := by decide +kernel
theorem dX9_readerGoes_3 : decode cX9_readerGoes 3 = .ok (.istore_n 3, 1) := by decide +kernel
theorem dX9_readerGoes_4 : decode cX9_readerGoes 4 = .ok (.aload_n 0, 1) := by decide +kernel
theorem dX9_readerGoes_5 : decode cX9_readerGoes 5 = .ok (.bipush (-4), 2) := by decide +kernel
theorem dX9_readerGoes_7 : decode cX9_readerGoes 7 = .ok (.putfield 178, 3) := by decide +kernel
theorem dX9_readerGoes_10 : decode cX9_readerGoes 10 = .ok (.iconst 0, 1) := by decide +kernel
theorem dX9_readerGoes_11 : decode cX9_readerGoes 11 = .ok (.istore 4, 2) := by decide +kernel
theorem dX9_readerGoes_13 : decode cX9_readerGoes 13 = .ok (.iload 4, 2) := by decide +kernel
theorem dX9_readerGoes_15 : decode cX9_readerGoes 15 = .ok (.bipush 8, 2) := by decide +kernel
theorem dX9_readerGoes_17 : decode cX9_readerGoes 17 = .ok (.if_icmp .gt 133, 3) := by decide +kernel
theorem dX9_readerGoes_20 : decode cX9_readerGoes 20 = .ok (.iload_n 3, 1) := by decide +kernel
theorem dX9_readerGoes_21 : decode cX9_readerGoes 21 = .ok (.ifCond .ne 129, 3) := by decide +kernel
theorem dX9_readerGoes_24 : decode cX9_readerGoes 24 = .ok (.aload_n 0, 1) := by decide +kernel
theorem dX9_readerGoes_25 : decode cX9_readerGoes 25 = .ok (.iload_n 1, 1) := by decide +kernel
theorem dX9_readerGoes_26 : decode cX9_readerGoes 26 = .ok (.iconst 1, 1) := by decide +kernel
theorem dX9_readerGoes_27 : decode cX9_readerGoes 27 = .ok (.invokevirtual 153, 3) := by decide +kernel
theorem dX9_readerGoes_30 : decode cX9_readerGoes 30 = .ok (.istore 5, 2) := by decide +kernel
theorem dX9_readerGoes_32 : decode cX9_readerGoes 32 = .ok (.iload 5, 2) := by decide +kernel
theorem dX9_readerGoes_34 : decode cX9_readerGoes 34 = .ok (.bipush (-4), 2) := by decide +kernel
theorem dX9_readerGoes_36 : decode cX9_readerGoes 36 = .ok (.if_icmp .ne 8, 3) := by decide +kernel
theorem dX9_readerGoes_39 : decode cX9_readerGoes 39 = .ok (.iconst 1, 1) := by decide +kernel
theorem dX9_readerGoes_40 : decode cX9_readerGoes 40 = .ok (.istore_n 3, 1) := by decide +kernel
theorem dX9_readerGoes_41 : decode cX9_readerGoes 41 = .ok (.goto 103, 3) := by decide +kernel
theorem dX9_readerGoes_44 : decode cX9_readerGoes 44 = .ok (.aload_n 0, 1) := by decide +kernel
theorem dX9_readerGoes_45 : decode cX9_readerGoes 45 = .ok (.iload_n 1, 1) := by decide +kernel
theorem dX9_readerGoes_46 : decode cX9_readerGoes 46 = .ok (.iload 5, 2) := by decide +kernel
theorem dX9_readerGoes_48 : decode cX9_readerGoes 48 = .ok (.invokevirtual 181, 3) := by decide +kernel
theorem dX9_readerGoes_51 : decode cX9_readerGoes 51 = .ok (.ifCond .eq 16, 3) := by decide +kernel
theorem dX9_readerGoes_54 : decode cX9_readerGoes 54 = .ok (.aload_n 0, 1) := by decide +kernel
theorem dX9_readerGoes_55 : decode cX9_readerGoes 55 = .ok (.iload_n 1, 1) := by decide +kernel
theorem dX9_readerGoes_56 : decode cX9_readerGoes 56 = .ok (.iconst 1, 1) := by decide +kernel
theorem dX9_readerGoes_57 : decode cX9_readerGoes 57 = .ok (.bipush (-4), 2) := by decide +kernel
theorem dX9_readerGoes_59 : decode cX9_readerGoes 59 = .ok (.invokevirtual 174, 3) := by decide +kernel
theorem dX9_readerGoes_62 : decode cX9_readerGoes 62 = .ok (.iconst 1, 1) := by decide +kernel
theorem dX9_readerGoes_63 : decode cX9_readerGoes 63 = .ok (.istore_n 3, 1) := by decide +kernel
theorem dX9_readerGoes_64 : decode cX9_readerGoes 64 = .ok (.goto 80, 3) := by decide +kernel
theorem dX9_readerGoes_67 : decode cX9_readerGoes 67 = .ok (.aload_n 0, 1) := by decide +kernel
theorem dX9_readerGoes_68 : decode cX9_readerGoes 68 = .ok (.iload_n 1, 1) := by decide +kernel
theorem dX9_readerGoes_69 : decode cX9_readerGoes 69 = .ok (.iconst 0, 1) := by decide +kernel
theorem dX9_readerGoes_70 : decode cX9_readerGoes 70 = .ok (.invokevirtual 153, 3) := by decide +kernel
theorem dX9_readerGoes_73 : decode cX9_readerGoes 73 = .ok (.aload_n 0, 1) := by decide +kernel
theorem dX9_readerGoes_74 : decode cX9_readerGoes 74 = .ok (.iload 5, 2) := by decide +kernel
theorem dX9_readerGoes_76 : decode cX9_readerGoes 76 = .ok (.iconst 1, 1) := by decide +kernel
theorem dX9_readerGoes_77 : decode cX9_readerGoes 77 = .ok (.invokevirtual 156, 3) := by decide +kernel
theorem dX9_readerGoes_80 : decode cX9_readerGoes 80 = .ok (.invokestatic 184, 3) := by decide +kernel
theorem dX9_readerGoes_83 : decode cX9_readerGoes 83 = .ok (.istore 6, 2) := by decide +kernel
theorem dX9_readerGoes_85 : decode cX9_readerGoes 85 = .ok (.iload_n 2, 1) := by decide +kernel
theorem dX9_readerGoes_86 : decode cX9_readerGoes 86 = .ok (.iload 6, 2) := by decide +kernel
theorem dX9_readerGoes_88 : decode cX9_readerGoes 88 = .ok (.iadd, 1) := by decide +kernel
theorem dX9_readerGoes_89 : decode cX9_readerGoes 89 = .ok (.aload_n 0, 1) := by decide +kernel
theorem dX9_readerGoes_90 : decode cX9_readerGoes 90 = .ok (.iload_n 1, 1) := by decide +kernel
theorem dX9_readerGoes_91 : decode cX9_readerGoes 91 = .ok (.iconst 2, 1) := by decide +kernel
theorem dX9_readerGoes_92 : decode cX9_readerGoes 92 = .ok (.invokevirtual 153, 3) := by decide +kernel
theorem dX9_readerGoes_95 : decode cX9_readerGoes 95 = .ok (.if_icmp .le 24, 3) := by decide +kernel
theorem dX9_readerGoes_98 : decode cX9_readerGoes 98 = .ok (.aload_n 0, 1) := by decide +kernel
theorem dX9_readerGoes_99 : decode cX9_readerGoes 99 = .ok (.iload 5, 2) := by decide +kernel
theorem dX9_readerGoes_101 : decode cX9_readerGoes 101 = .ok (.putfield 178, 3) := by decide +kernel
theorem dX9_readerGoes_104 : decode cX9_readerGoes 104 = .ok (.aload_n 0, 1) := by decide +kernel
theorem dX9_readerGoes_105 : decode cX9_readerGoes 105 = .ok (.dup, 1) := by decide +kernel
theorem dX9_readerGoes_106 : decode cX9_readerGoes 106 = .ok (.getfield 168, 3) := by decide +kernel
theorem dX9_readerGoes_109 : decode cX9_readerGoes 109 = .ok (.iconst 1, 1) := by decide +kernel
theorem dX9_readerGoes_110 : decode cX9_readerGoes 110 = .ok (.iadd, 1) := by decide +kernel
theorem dX9_readerGoes_111 : decode cX9_readerGoes 111 = .ok (.putfield 168, 3) := by decide +kernel
theorem dX9_readerGoes_114 : decode cX9_readerGoes 114 = .ok (.iconst 1, 1) := by decide +kernel
theorem dX9_readerGoes_115 : decode cX9_readerGoes 115 = .ok (.istore_n 3, 1) := by decide +kernel
theorem dX9_readerGoes_116 : decode cX9_readerGoes 116 = .ok (.goto 28, 3) := by decide +kernel
theorem dX9_readerGoes_119 : decode cX9_readerGoes 119 = .ok (.aload_n 0, 1) := by decide +kernel
theorem dX9_readerGoes_120 : decode cX9_readerGoes 120 = .ok (.iload_n 1, 1) := by decide +kernel
theorem dX9_readerGoes_121 : decode cX9_readerGoes 121 = .ok (.iload 5, 2) := by decide +kernel
theorem dX9_readerGoes_123 : decode cX9_readerGoes 123 = .ok (.invokevirtual 187, 3) := by decide +kernel
theorem dX9_readerGoes_126 : decode cX9_readerGoes 126 = .ok (.iload_n 2, 1) := by decide +kernel
theorem dX9_readerGoes_127 : decode cX9_readerGoes 127 = .ok (.iload 6, 2) := by decide +kernel
theorem dX9_readerGoes_129 : decode cX9_readerGoes 129 = .ok (.iadd, 1) := by decide +kernel
theorem dX9_readerGoes_130 : decode cX9_readerGoes 130 = .ok (.istore_n 2, 1) := by decide +kernel
theorem dX9_readerGoes_131 : decode cX9_readerGoes 131 = .ok (.aload_n 0, 1) := by decide +kernel
theorem dX9_readerGoes_132 : decode cX9_readerGoes 132 = .ok (.iload_n 1, 1) := by decide +kernel
theorem dX9_readerGoes_133 : decode cX9_readerGoes 133 = .ok (.iconst 1, 1) := by decide +kernel
theorem dX9_readerGoes_134 : decode cX9_readerGoes 134 = .ok (.aload_n 0, 1) := by decide +kernel
theorem dX9_readerGoes_135 : decode cX9_readerGoes 135 = .ok (.iload 5, 2) := by decide +kernel
theorem dX9_readerGoes_137 : decode cX9_readerGoes 137 = .ok (.iconst 2, 1) := by decide +kernel
theorem dX9_readerGoes_138 : decode cX9_readerGoes 138 = .ok (.invokevirtual 156, 3) := by decide +kernel
theorem dX9_readerGoes_141 : decode cX9_readerGoes 141 = .ok (.invokevirtual 174, 3) := by decide +kernel
theorem dX9_readerGoes_144 : decode cX9_readerGoes 144 = .ok (.iinc 4 1, 3) := by decide +kernel
theorem dX9_readerGoes_147 : decode cX9_readerGoes 147 = .ok (.goto (-134), 3) := by decide +kernel
theorem dX9_readerGoes_150 : decode cX9_readerGoes 150 = .ok (.return_, 1) := by decide +kernel
theorem dX9_dayGoes_0 : decode cX9_dayGoes 0 = .ok (.iconst 0, 1) := by decide +kernel
theorem dX9_dayGoes_1 : decode cX9_dayGoes 1 = .ok (.istore_n 1, 1) := by decide +kernel
theorem dX9_dayGoes_2 : decode cX9_dayGoes 2 = .ok (.iload_n 1, 1) := by decide +kernel
theorem dX9_dayGoes_3 : decode cX9_dayGoes 3 = .ok (.aload_n 0, 1) := by decide +kernel
theorem dX9_dayGoes_4 : decode cX9_dayGoes 4 = .ok (.getfield 73, 3) := by decide +kernel
theorem dX9_dayGoes_7 : decode cX9_dayGoes 7 = .ok (.if_icmp .ge 14, 3) := by decide +kernel
theorem dX9_dayGoes_10 : decode cX9_dayGoes 10 = .ok (.aload_n 0, 1) := by decide +kernel
theorem dX9_dayGoes_11 : decode cX9_dayGoes 11 = .ok (.iload_n 1, 1) := by decide +kernel
theorem dX9_dayGoes_12 : decode cX9_dayGoes 12 = .ok (.invokevirtual 191, 3) := by decide +kernel
theorem dX9_dayGoes_15 : decode cX9_dayGoes 15 = .ok (.iinc 1 1, 3) := by decide +kernel
theorem dX9_dayGoes_18 : decode cX9_dayGoes 18 = .ok (.goto (-16), 3) := by decide +kernel
theorem dX9_dayGoes_21 : decode cX9_dayGoes 21 = .ok (.aload_n 0, 1) := by decide +kernel
theorem dX9_dayGoes_22 : decode cX9_dayGoes 22 = .ok (.getfield 13, 3) := by decide +kernel
theorem dX9_dayGoes_25 : decode cX9_dayGoes 25 = .ok (.bipush 42, 2) := by decide +kernel
theorem dX9_dayGoes_27 : decode cX9_dayGoes 27 = .ok (.dup2, 1) := by decide +kernel
theorem dX9_dayGoes_28 : decode cX9_dayGoes 28 = .ok (.iaload, 1) := by decide +kernel
theorem dX9_dayGoes_29 : decode cX9_dayGoes 29 = .ok (.iconst 1, 1) := by decide +kernel
theorem dX9_dayGoes_30 : decode cX9_dayGoes 30 = .ok (.iadd, 1) := by decide +kernel
theorem dX9_dayGoes_31 : decode cX9_dayGoes 31 = .ok (.iastore, 1) := by decide +kernel
theorem dX9_dayGoes_32 : decode cX9_dayGoes 32 = .ok (.return_, 1) := by decide +kernel
theorem dX9_daysGo_0 : decode cX9_daysGo 0 = .ok (.aload_n 0, 1) := by decide +kernel
theorem dX9_daysGo_1 : decode cX9_daysGo 1 = .ok (.invokevirtual 194, 3) := by decide +kernel
theorem dX9_daysGo_4 : decode cX9_daysGo 4 = .ok (.iconst 0, 1) := by decide +kernel
theorem dX9_daysGo_5 : decode cX9_daysGo 5 = .ok (.istore_n 2, 1) := by decide +kernel
theorem dX9_daysGo_6 : decode cX9_daysGo 6 = .ok (.iload_n 2, 1) := by decide +kernel
theorem dX9_daysGo_7 : decode cX9_daysGo 7 = .ok (.iload_n 1, 1) := by decide +kernel
theorem dX9_daysGo_8 : decode cX9_daysGo 8 = .ok (.if_icmp .ge 13, 3) := by decide +kernel
theorem dX9_daysGo_11 : decode cX9_daysGo 11 = .ok (.aload_n 0, 1) := by decide +kernel
theorem dX9_daysGo_12 : decode cX9_daysGo 12 = .ok (.invokevirtual 197, 3) := by decide +kernel
theorem dX9_daysGo_15 : decode cX9_daysGo 15 = .ok (.iinc 2 1, 3) := by decide +kernel
theorem dX9_daysGo_18 : decode cX9_daysGo 18 = .ok (.goto (-12), 3) := by decide +kernel
theorem dX9_daysGo_21 : decode cX9_daysGo 21 = .ok (.return_, 1) := by decide +kernel
theorem dX9_doneNow_0 : decode cX9_doneNow 0 = .ok (.iconst 0, 1) := by decide +kernel
theorem dX9_doneNow_1 : decode cX9_doneNow 1 = .ok (.istore_n 1, 1) := by decide +kernel
theorem dX9_doneNow_2 : decode cX9_doneNow 2 = .ok (.iconst 0, 1) := by decide +kernel
theorem dX9_doneNow_3 : decode cX9_doneNow 3 = .ok (.istore_n 2, 1) := by decide +kernel
theorem dX9_doneNow_4 : decode cX9_doneNow 4 = .ok (.iload_n 2, 1) := by decide +kernel
theorem dX9_doneNow_5 : decode cX9_doneNow 5 = .ok (.aload_n 0, 1) := by decide +kernel
theorem dX9_doneNow_6 : decode cX9_doneNow 6 = .ok (.getfield 73, 3) := by decide +kernel
theorem dX9_doneNow_9 : decode cX9_doneNow 9 = .ok (.if_icmp .ge 33, 3) := by decide +kernel
theorem dX9_doneNow_12 : decode cX9_doneNow 12 = .ok (.iload_n 1, 1) := by decide +kernel
theorem dX9_doneNow_13 : decode cX9_doneNow 13 = .ok (.aload_n 0, 1) := by decide +kernel
theorem dX9_doneNow_14 : decode cX9_doneNow 14 = .ok (.iload_n 2, 1) := by decide +kernel
theorem dX9_doneNow_15 : decode cX9_doneNow 15 = .ok (.iconst 1, 1) := by decide +kernel
theorem dX9_doneNow_16 : decode cX9_doneNow 16 = .ok (.invokevirtual 153, 3) := by decide +kernel
theorem dX9_doneNow_19 : decode cX9_doneNow 19 = .ok (.bipush (-4), 2) := by decide +kernel
theorem dX9_doneNow_21 : decode cX9_doneNow 21 = .ok (.if_icmp .ne 7, 3) := by decide +kernel
theorem dX9_doneNow_24 : decode cX9_doneNow 24 = .ok (.iconst 1, 1) := by decide +kernel
theorem dX9_doneNow_25 : decode cX9_doneNow 25 = .ok (.goto 4, 3) := by decide +kernel
theorem dX9_doneNow_28 : decode cX9_doneNow 28 = .ok (.iconst 0, 1) := by decide +kernel
theorem dX9_doneNow_29 : decode cX9_doneNow 29 = .ok (.invokestatic 200, 3) := by decide +kernel
theorem dX9_doneNow_32 : decode cX9_doneNow 32 = .ok (.iload_n 2, 1) := by decide +kernel
theorem dX9_doneNow_33 : decode cX9_doneNow 33 = .ok (.ishl, 1) := by decide +kernel
theorem dX9_doneNow_34 : decode cX9_doneNow 34 = .ok (.ior, 1) := by decide +kernel
theorem dX9_doneNow_35 : decode cX9_doneNow 35 = .ok (.istore_n 1, 1) := by decide +kernel
theorem dX9_doneNow_36 : decode cX9_doneNow 36 = .ok (.iinc 2 1, 3) := by decide +kernel
theorem dX9_doneNow_39 : decode cX9_doneNow 39 = .ok (.goto (-35), 3) := by decide +kernel
theorem dX9_doneNow_42 : decode cX9_doneNow 42 = .ok (.iload_n 1, 1) := by decide +kernel
theorem dX9_doneNow_43 : decode cX9_doneNow 43 = .ok (.ireturn, 1) := by decide +kernel
theorem dX9_rule_0 : decode cX9_rule 0 = .ok (.aload_n 0, 1) := by decide +kernel
theorem dX9_rule_1 : decode cX9_rule 1 = .ok (.invokevirtual 204, 3) := by decide +kernel
theorem dX9_rule_4 : decode cX9_rule 4 = .ok (.iload_n 1, 1) := by decide +kernel
theorem dX9_rule_5 : decode cX9_rule 5 = .ok (.tableswitch 78 0 5 #[39, 44, 49, 57, 65, 73], 39) := by decide +kernel
theorem dX9_rule_44 : decode cX9_rule 44 = .ok (.aload_n 0, 1) := by decide +kernel
theorem dX9_rule_45 : decode cX9_rule 45 = .ok (.getfield 70, 3) := by decide +kernel
theorem dX9_rule_48 : decode cX9_rule 48 = .ok (.ireturn, 1) := by decide +kernel
theorem dX9_rule_49 : decode cX9_rule 49 = .ok (.aload_n 0, 1) := by decide +kernel
theorem dX9_rule_50 : decode cX9_rule 50 = .ok (.getfield 73, 3) := by decide +kernel
theorem dX9_rule_53 : decode cX9_rule 53 = .ok (.ireturn, 1) := by decide +kernel
theorem dX9_rule_54 : decode cX9_rule 54 = .ok (.aload_n 0, 1) := by decide +kernel
theorem dX9_rule_55 : decode cX9_rule 55 = .ok (.getfield 7, 3) := by decide +kernel
theorem dX9_rule_58 : decode cX9_rule 58 = .ok (.bipush 40, 2) := by decide +kernel
theorem dX9_rule_60 : decode cX9_rule 60 = .ok (.iaload, 1) := by decide +kernel
theorem dX9_rule_61 : decode cX9_rule 61 = .ok (.ireturn, 1) := by decide +kernel
theorem dX9_rule_62 : decode cX9_rule 62 = .ok (.aload_n 0, 1) := by decide +kernel
theorem dX9_rule_63 : decode cX9_rule 63 = .ok (.getfield 7, 3) := by decide +kernel
theorem dX9_rule_66 : decode cX9_rule 66 = .ok (.bipush 41, 2) := by decide +kernel
theorem dX9_rule_68 : decode cX9_rule 68 = .ok (.iaload, 1) := by decide +kernel
theorem dX9_rule_69 : decode cX9_rule 69 = .ok (.ireturn, 1) := by decide +kernel
theorem dX9_rule_70 : decode cX9_rule 70 = .ok (.aload_n 0, 1) := by decide +kernel
theorem dX9_rule_71 : decode cX9_rule 71 = .ok (.getfield 7, 3) := by decide +kernel
theorem dX9_rule_74 : decode cX9_rule 74 = .ok (.bipush 42, 2) := by decide +kernel
theorem dX9_rule_76 : decode cX9_rule 76 = .ok (.iaload, 1) := by decide +kernel
theorem dX9_rule_77 : decode cX9_rule 77 = .ok (.ireturn, 1) := by decide +kernel
theorem dX9_rule_78 : decode cX9_rule 78 = .ok (.aload_n 0, 1) := by decide +kernel
theorem dX9_rule_79 : decode cX9_rule 79 = .ok (.invokevirtual 207, 3) := by decide +kernel
theorem dX9_rule_82 : decode cX9_rule 82 = .ok (.ireturn, 1) := by decide +kernel
theorem dX9_rule_83 : decode cX9_rule 83 = .ok (.iconst (-1), 1) := by decide +kernel
theorem dX9_rule_84 : decode cX9_rule 84 = .ok (.ireturn, 1) := by decide +kernel
theorem dX9_book_0 : decode cX9_book 0 = .ok (.aload_n 0, 1) := by decide +kernel
theorem dX9_book_1 : decode cX9_book 1 = .ok (.iload_n 1, 1) := by decide +kernel
theorem dX9_book_2 : decode cX9_book 2 = .ok (.invokevirtual 210, 3) := by decide +kernel
theorem dX9_book_5 : decode cX9_book 5 = .ok (.ifCond .eq 15, 3) := by decide +kernel
theorem dX9_book_8 : decode cX9_book 8 = .ok (.iload_n 2, 1) := by decide +kernel
theorem dX9_book_9 : decode cX9_book 9 = .ok (.i2l, 1) := by decide +kernel
theorem dX9_book_10 : decode cX9_book 10 = .ok (.lconst 0, 1) := by decide +kernel
theorem dX9_book_11 : decode cX9_book 11 = .ok (.ldc2_w 214, 3) := by decide +kernel
theorem dX9_book_14 : decode cX9_book 14 = .ok (.invokestatic 78, 3) := by decide +kernel
theorem dX9_book_17 : decode cX9_book 17 = .ok (.ifCond .ne 5, 3) := by decide +kernel
theorem dX9_book_20 : decode cX9_book 20 = .ok (.iconst (-1), 1) := by decide +kernel
theorem dX9_book_21 : decode cX9_book 21 = .ok (.ireturn, 1) := by decide +kernel
theorem dX9_book_22 : decode cX9_book 22 = .ok (.aload_n 0, 1) := by decide +kernel
theorem dX9_book_23 : decode cX9_book 23 = .ok (.invokevirtual 204, 3) := by decide +kernel
theorem dX9_book_26 : decode cX9_book 26 = .ok (.iconst 0, 1) := by decide +kernel
theorem dX9_book_27 : decode cX9_book 27 = .ok (.istore_n 3, 1) := by decide +kernel
theorem dX9_book_28 : decode cX9_book 28 = .ok (.iconst 0, 1) := by decide +kernel
theorem dX9_book_29 : decode cX9_book 29 = .ok (.istore 4, 2) := by decide +kernel
theorem dX9_book_31 : decode cX9_book 31 = .ok (.iload 4, 2) := by decide +kernel
theorem dX9_book_33 : decode cX9_book 33 = .ok (.aload_n 0, 1) := by decide +kernel
theorem dX9_book_34 : decode cX9_book 34 = .ok (.getfield 73, 3) := by decide +kernel
theorem dX9_book_37 : decode cX9_book 37 = .ok (.if_icmp .ge 25, 3) := by decide +kernel
theorem dX9_book_40 : decode cX9_book 40 = .ok (.iload_n 3, 1) := by decide +kernel
theorem dX9_book_41 : decode cX9_book 41 = .ok (.aload_n 0, 1) := by decide +kernel
theorem dX9_book_42 : decode cX9_book 42 = .ok (.iload 4, 2) := by decide +kernel
theorem dX9_book_44 : decode cX9_book 44 = .ok (.iload_n 1, 1) := by decide +kernel
theorem dX9_book_45 : decode cX9_book 45 = .ok (.invokevirtual 181, 3) := by decide +kernel
theorem dX9_book_48 : decode cX9_book 48 = .ok (.invokestatic 200, 3) := by decide +kernel
theorem dX9_book_51 : decode cX9_book 51 = .ok (.iload 4, 2) := by decide +kernel
theorem dX9_book_53 : decode cX9_book 53 = .ok (.ishl, 1) := by decide +kernel
theorem dX9_book_54 : decode cX9_book 54 = .ok (.ior, 1) := by decide +kernel
theorem dX9_book_55 : decode cX9_book 55 = .ok (.istore_n 3, 1) := by decide +kernel
theorem dX9_book_56 : decode cX9_book 56 = .ok (.iinc 4 1, 3) := by decide +kernel
theorem dX9_book_59 : decode cX9_book 59 = .ok (.goto (-28), 3) := by decide +kernel
theorem dX9_book_62 : decode cX9_book 62 = .ok (.iload_n 2, 1) := by decide +kernel
theorem dX9_book_63 : decode cX9_book 63 = .ok (.iconst 3, 1) := by decide +kernel
theorem dX9_book_64 : decode cX9_book 64 = .ok (.if_icmp .ge 12, 3) := by decide +kernel
theorem dX9_book_67 : decode cX9_book 67 = .ok (.aload_n 0, 1) := by decide +kernel
theorem dX9_book_68 : decode cX9_book 68 = .ok (.iload_n 1, 1) := by decide +kernel
theorem dX9_book_69 : decode cX9_book 69 = .ok (.iload_n 2, 1) := by decide +kernel
theorem dX9_book_70 : decode cX9_book 70 = .ok (.invokevirtual 156, 3) := by decide +kernel
theorem dX9_book_73 : decode cX9_book 73 = .ok (.goto 4, 3) := by decide +kernel
theorem dX9_book_76 : decode cX9_book 76 = .ok (.iload_n 3, 1) := by decide +kernel
theorem dX9_book_77 : decode cX9_book 77 = .ok (.ireturn, 1) := by decide +kernel
theorem dX9_reader_0 : decode cX9_reader 0 = .ok (.aload_n 0, 1) := by decide +kernel
theorem dX9_reader_1 : decode cX9_reader 1 = .ok (.iload_n 1, 1) := by decide +kernel
theorem dX9_reader_2 : decode cX9_reader 2 = .ok (.invokevirtual 216, 3) := by decide +kernel
theorem dX9_reader_5 : decode cX9_reader 5 = .ok (.ifCond .eq 15, 3) := by decide +kernel
theorem dX9_reader_8 : decode cX9_reader 8 = .ok (.iload_n 2, 1) := by decide +kernel
theorem dX9_reader_9 : decode cX9_reader 9 = .ok (.i2l, 1) := by decide +kernel
theorem dX9_reader_10 : decode cX9_reader 10 = .ok (.lconst 0, 1) := by decide +kernel
theorem dX9_reader_11 : decode cX9_reader 11 = .ok (.ldc2_w 219, 3) := by decide +kernel
theorem dX9_reader_14 : decode cX9_reader 14 = .ok (.invokestatic 78, 3) := by decide +kernel
theorem dX9_reader_17 : decode cX9_reader 17 = .ok (.ifCond .ne 5, 3) := by decide +kernel
theorem dX9_reader_20 : decode cX9_reader 20 = .ok (.iconst (-1), 1) := by decide +kernel
theorem dX9_reader_21 : decode cX9_reader 21 = .ok (.ireturn, 1) := by decide +kernel
theorem dX9_reader_22 : decode cX9_reader 22 = .ok (.aload_n 0, 1) := by decide +kernel
theorem dX9_reader_23 : decode cX9_reader 23 = .ok (.invokevirtual 204, 3) := by decide +kernel
theorem dX9_reader_26 : decode cX9_reader 26 = .ok (.iload_n 2, 1) := by decide +kernel
theorem dX9_reader_27 : decode cX9_reader 27 = .ok (.iconst 4, 1) := by decide +kernel
theorem dX9_reader_28 : decode cX9_reader 28 = .ok (.if_icmp .ge 10, 3) := by decide +kernel
theorem dX9_reader_31 : decode cX9_reader 31 = .ok (.aload_n 0, 1) := by decide +kernel
theorem dX9_reader_32 : decode cX9_reader 32 = .ok (.iload_n 1, 1) := by decide +kernel
theorem dX9_reader_33 : decode cX9_reader 33 = .ok (.iload_n 2, 1) := by decide +kernel
theorem dX9_reader_34 : decode cX9_reader 34 = .ok (.invokevirtual 153, 3) := by decide +kernel
theorem dX9_reader_37 : decode cX9_reader 37 = .ok (.ireturn, 1) := by decide +kernel
theorem dX9_reader_38 : decode cX9_reader 38 = .ok (.aload_n 0, 1) := by decide +kernel
theorem dX9_reader_39 : decode cX9_reader 39 = .ok (.iload_n 1, 1) := by decide +kernel
theorem dX9_reader_40 : decode cX9_reader 40 = .ok (.iconst 1, 1) := by decide +kernel
theorem dX9_reader_41 : decode cX9_reader 41 = .ok (.invokevirtual 153, 3) := by decide +kernel
theorem dX9_reader_44 : decode cX9_reader 44 = .ok (.istore_n 3, 1) := by decide +kernel
theorem dX9_reader_45 : decode cX9_reader 45 = .ok (.iload_n 3, 1) := by decide +kernel
theorem dX9_reader_46 : decode cX9_reader 46 = .ok (.bipush (-4), 2) := by decide +kernel
theorem dX9_reader_48 : decode cX9_reader 48 = .ok (.if_icmp .ne 8, 3) := by decide +kernel
theorem dX9_reader_51 : decode cX9_reader 51 = .ok (.bipush (-4), 2) := by decide +kernel
theorem dX9_reader_53 : decode cX9_reader 53 = .ok (.goto 32, 3) := by decide +kernel
theorem dX9_reader_56 : decode cX9_reader 56 = .ok (.iload_n 2, 1) := by decide +kernel
theorem dX9_reader_57 : decode cX9_reader 57 = .ok (.iconst 4, 1) := by decide +kernel
theorem dX9_reader_58 : decode cX9_reader 58 = .ok (.if_icmp .ne 12, 3) := by decide +kernel
theorem dX9_reader_61 : decode cX9_reader 61 = .ok (.aload_n 0, 1) := by decide +kernel
theorem dX9_reader_62 : decode cX9_reader 62 = .ok (.iload_n 1, 1) := by decide +kernel
theorem dX9_reader_63 : decode cX9_reader 63 = .ok (.iload_n 3, 1) := by decide +kernel
theorem dX9_reader_64 : decode cX9_reader 64 = .ok (.invokevirtual 171, 3) := by decide +kernel
theorem dX9_reader_67 : decode cX9_reader 67 = .ok (.goto 18, 3) := by decide +kernel
theorem dX9_reader_70 : decode cX9_reader 70 = .ok (.aload_n 0, 1) := by decide +kernel
theorem dX9_reader_71 : decode cX9_reader 71 = .ok (.iload_n 1, 1) := by decide +kernel
theorem dX9_reader_72 : decode cX9_reader 72 = .ok (.iconst 0, 1) := by decide +kernel
theorem dX9_reader_73 : decode cX9_reader 73 = .ok (.invokevirtual 153, 3) := by decide +kernel
theorem dX9_reader_76 : decode cX9_reader 76 = .ok (.aload_n 0, 1) := by decide +kernel
theorem dX9_reader_77 : decode cX9_reader 77 = .ok (.iload_n 3, 1) := by decide +kernel
theorem dX9_reader_78 : decode cX9_reader 78 = .ok (.iconst 1, 1) := by decide +kernel
theorem dX9_reader_79 : decode cX9_reader 79 = .ok (.invokevirtual 156, 3) := by decide +kernel
theorem dX9_reader_82 : decode cX9_reader 82 = .ok (.invokestatic 184, 3) := by decide +kernel
theorem dX9_reader_85 : decode cX9_reader 85 = .ok (.ireturn, 1) := by decide +kernel
theorem dX9_becomes_0 : decode cX9_becomes 0 = .ok (.aload_n 0, 1) := by decide +kernel
theorem dX9_becomes_1 : decode cX9_becomes 1 = .ok (.getfield 7, 3) := by decide +kernel
theorem dX9_becomes_4 : decode cX9_becomes 4 = .ok (.iload_n 1, 1) := by decide +kernel
theorem dX9_becomes_5 : decode cX9_becomes 5 = .ok (.iaload, 1) := by decide +kernel
theorem dX9_becomes_6 : decode cX9_becomes 6 = .ok (.istore_n 3, 1) := by decide +kernel
theorem dX9_becomes_7 : decode cX9_becomes 7 = .ok (.aload_n 0, 1) := by decide +kernel
theorem dX9_becomes_8 : decode cX9_becomes 8 = .ok (.getfield 7, 3) := by decide +kernel
theorem dX9_becomes_11 : decode cX9_becomes 11 = .ok (.iload_n 1, 1) := by decide +kernel
theorem dX9_becomes_12 : decode cX9_becomes 12 = .ok (.iload_n 2, 1) := by decide +kernel
theorem dX9_becomes_13 : decode cX9_becomes 13 = .ok (.iastore, 1) := by decide +kernel
theorem dX9_becomes_14 : decode cX9_becomes 14 = .ok (.iload_n 3, 1) := by decide +kernel
theorem dX9_becomes_15 : decode cX9_becomes 15 = .ok (.ireturn, 1) := by decide +kernel
theorem dX9_isBookOrNone_0 : decode cX9_isBookOrNone 0 = .ok (.iload_n 1, 1) := by decide +kernel
theorem dX9_isBookOrNone_1 : decode cX9_isBookOrNone 1 = .ok (.bipush 9, 2) := by decide +kernel
theorem dX9_isBookOrNone_3 : decode cX9_isBookOrNone 3 = .ok (.if_icmp .eq 11, 3) := by decide +kernel
theorem dX9_isBookOrNone_6 : decode cX9_isBookOrNone 6 = .ok (.aload_n 0, 1) := by decide +kernel
theorem dX9_isBookOrNone_7 : decode cX9_isBookOrNone 7 = .ok (.iload_n 1, 1) := by decide +kernel
theorem dX9_isBookOrNone_8 : decode cX9_isBookOrNone 8 = .ok (.invokevirtual 210, 3) := by decide +kernel
theorem dX9_isBookOrNone_11 : decode cX9_isBookOrNone 11 = .ok (.ifCond .eq 7, 3) := by decide +kernel
theorem dX9_isBookOrNone_14 : decode cX9_isBookOrNone 14 = .ok (.iconst 1, 1) := by decide +kernel
theorem dX9_isBookOrNone_15 : decode cX9_isBookOrNone 15 = .ok (.goto 4, 3) := by decide +kernel
theorem dX9_isBookOrNone_18 : decode cX9_isBookOrNone 18 = .ok (.iconst 0, 1) := by decide +kernel
theorem dX9_isBookOrNone_19 : decode cX9_isBookOrNone 19 = .ok (.ireturn, 1) := by decide +kernel
theorem dX9_asKept_0 : decode cX9_asKept 0 = .ok (.iload_n 0, 1) := by decide +kernel
theorem dX9_asKept_1 : decode cX9_asKept 1 = .ok (.bipush 9, 2) := by decide +kernel
theorem dX9_asKept_3 : decode cX9_asKept 3 = .ok (.if_icmp .ne 8, 3) := by decide +kernel
theorem dX9_asKept_6 : decode cX9_asKept 6 = .ok (.bipush (-4), 2) := by decide +kernel
theorem dX9_asKept_8 : decode cX9_asKept 8 = .ok (.goto 4, 3) := by decide +kernel
theorem dX9_asKept_11 : decode cX9_asKept 11 = .ok (.iload_n 0, 1) := by decide +kernel
theorem dX9_asKept_12 : decode cX9_asKept 12 = .ok (.ireturn, 1) := by decide +kernel
theorem dX9_shelve_0 : decode cX9_shelve 0 = .ok (.iload_n 2, 1) := by decide +kernel
theorem dX9_shelve_1 : decode cX9_shelve 1 = .ok (.ifCond .ne 10, 3) := by decide +kernel
theorem dX9_shelve_4 : decode cX9_shelve 4 = .ok (.iload_n 3, 1) := by decide +kernel
theorem dX9_shelve_5 : decode cX9_shelve 5 = .ok (.invokestatic 221, 3) := by decide +kernel
theorem dX9_shelve_8 : decode cX9_shelve 8 = .ok (.goto 38, 3) := by decide +kernel
theorem dX9_shelve_11 : decode cX9_shelve 11 = .ok (.iload_n 2, 1) := by decide +kernel
theorem dX9_shelve_12 : decode cX9_shelve 12 = .ok (.iconst 1, 1) := by decide +kernel
theorem dX9_shelve_13 : decode cX9_shelve 13 = .ok (.if_icmp .ne 15, 3) := by decide +kernel
theorem dX9_shelve_16 : decode cX9_shelve 16 = .ok (.iload_n 3, 1) := by decide +kernel
theorem dX9_shelve_17 : decode cX9_shelve 17 = .ok (.i2l, 1) := by decide +kernel
theorem dX9_shelve_18 : decode cX9_shelve 18 = .ok (.lconst 0, 1) := by decide +kernel
theorem dX9_shelve_19 : decode cX9_shelve 19 = .ok (.ldc2_w 224, 3) := by decide +kernel
theorem dX9_shelve_22 : decode cX9_shelve 22 = .ok (.invokestatic 78, 3) := by decide +kernel
theorem dX9_shelve_25 : decode cX9_shelve 25 = .ok (.goto 21, 3) := by decide +kernel
theorem dX9_shelve_28 : decode cX9_shelve 28 = .ok (.iload_n 2, 1) := by decide +kernel
theorem dX9_shelve_29 : decode cX9_shelve 29 = .ok (.iconst 2, 1) := by decide +kernel
theorem dX9_shelve_30 : decode cX9_shelve 30 = .ok (.if_icmp .ne 15, 3) := by decide +kernel
theorem dX9_shelve_33 : decode cX9_shelve 33 = .ok (.aload_n 0, 1) := by decide +kernel
theorem dX9_shelve_34 : decode cX9_shelve 34 = .ok (.iload_n 3, 1) := by decide +kernel
theorem dX9_shelve_35 : decode cX9_shelve 35 = .ok (.invokevirtual 226, 3) := by decide +kernel
theorem dX9_shelve_38 : decode cX9_shelve 38 = .ok (.ifCond .eq 7, 3) := by decide +kernel
theorem dX9_shelve_41 : decode cX9_shelve 41 = .ok (.iconst 1, 1) := by decide +kernel
theorem dX9_shelve_42 : decode cX9_shelve 42 = .ok (.goto 4, 3) := by decide +kernel
theorem dX9_shelve_45 : decode cX9_shelve 45 = .ok (.iconst 0, 1) := by decide +kernel
theorem dX9_shelve_46 : decode cX9_shelve 46 = .ok (.istore 4, 2) := by decide +kernel
theorem dX9_shelve_48 : decode cX9_shelve 48 = .ok (.aload_n 0, 1) := by decide +kernel
theorem dX9_shelve_49 : decode cX9_shelve 49 = .ok (.iload_n 1, 1) := by decide +kernel
theorem dX9_shelve_50 : decode cX9_shelve 50 = .ok (.invokevirtual 210, 3) := by decide +kernel
theorem dX9_shelve_53 : decode cX9_shelve 53 = .ok (.ifCond .eq 33, 3) := by decide +kernel
theorem dX9_shelve_56 : decode cX9_shelve 56 = .ok (.iload 4, 2) := by decide +kernel
theorem dX9_shelve_58 : decode cX9_shelve 58 = .ok (.ifCond .eq 28, 3) := by decide +kernel
theorem dX9_shelve_61 : decode cX9_shelve 61 = .ok (.aload_n 0, 1) := by decide +kernel
theorem dX9_shelve_62 : decode cX9_shelve 62 = .ok (.iconst 3, 1) := by decide +kernel
theorem dX9_shelve_63 : decode cX9_shelve 63 = .ok (.iload_n 1, 1) := by decide +kernel
theorem dX9_shelve_64 : decode cX9_shelve 64 = .ok (.imul, 1) := by decide +kernel
theorem dX9_shelve_65 : decode cX9_shelve 65 = .ok (.iload_n 2, 1) := by decide +kernel
theorem dX9_shelve_66 : decode cX9_shelve 66 = .ok (.iadd, 1) := by decide +kernel
theorem dX9_shelve_67 : decode cX9_shelve 67 = .ok (.iload_n 2, 1) := by decide +kernel
theorem dX9_shelve_68 : decode cX9_shelve 68 = .ok (.iconst 2, 1) := by decide +kernel
theorem dX9_shelve_69 : decode cX9_shelve 69 = .ok (.if_icmp .ne 10, 3) := by decide +kernel
theorem dX9_shelve_72 : decode cX9_shelve 72 = .ok (.iload_n 3, 1) := by decide +kernel
theorem dX9_shelve_73 : decode cX9_shelve 73 = .ok (.invokestatic 229, 3) := by decide +kernel
theorem dX9_shelve_76 : decode cX9_shelve 76 = .ok (.goto 4, 3) := by decide +kernel
theorem dX9_shelve_79 : decode cX9_shelve 79 = .ok (.iload_n 3, 1) := by decide +kernel
theorem dX9_shelve_80 : decode cX9_shelve 80 = .ok (.invokevirtual 232, 3) := by decide +kernel
theorem dX9_shelve_83 : decode cX9_shelve 83 = .ok (.goto 4, 3) := by decide +kernel
theorem dX9_shelve_86 : decode cX9_shelve 86 = .ok (.iconst (-1), 1) := by decide +kernel
theorem dX9_shelve_87 : decode cX9_shelve 87 = .ok (.ireturn, 1) := by decide +kernel
theorem dX9_alter_0 : decode cX9_alter 0 = .ok (.iload_n 2, 1) := by decide +kernel
theorem dX9_alter_1 : decode cX9_alter 1 = .ok (.ifCond .ne 15, 3) := by decide +kernel
theorem dX9_alter_4 : decode cX9_alter 4 = .ok (.iload_n 3, 1) := by decide +kernel
theorem dX9_alter_5 : decode cX9_alter 5 = .ok (.i2l, 1) := by decide +kernel
theorem dX9_alter_6 : decode cX9_alter 6 = .ok (.lconst 0, 1) := by decide +kernel
theorem dX9_alter_7 : decode cX9_alter 7 = .ok (.ldc2_w 214, 3) := by decide +kernel
theorem dX9_alter_10 : decode cX9_alter 10 = .ok (.invokestatic 78, 3) := by decide +kernel
theorem dX9_alter_13 : decode cX9_alter 13 = .ok (.goto 38, 3) := by decide +kernel
theorem dX9_alter_16 : decode cX9_alter 16 = .ok (.iload_n 2, 1) := by decide +kernel
theorem dX9_alter_17 : decode cX9_alter 17 = .ok (.iconst 1, 1) := by decide +kernel
theorem dX9_alter_18 : decode cX9_alter 18 = .ok (.if_icmp .ne 11, 3) := by decide +kernel
theorem dX9_alter_21 : decode cX9_alter 21 = .ok (.aload_n 0, 1) := by decide +kernel
theorem dX9_alter_22 : decode cX9_alter 22 = .ok (.iload_n 3, 1) := by decide +kernel
theorem dX9_alter_23 : decode cX9_alter 23 = .ok (.invokevirtual 226, 3) := by decide +kernel
theorem dX9_alter_26 : decode cX9_alter 26 = .ok (.goto 25, 3) := by decide +kernel
theorem dX9_alter_29 : decode cX9_alter 29 = .ok (.iload_n 2, 1) := by decide +kernel
theorem dX9_alter_30 : decode cX9_alter 30 = .ok (.iconst 2, 1) := by decide +kernel
theorem dX9_alter_31 : decode cX9_alter 31 = .ok (.if_icmp .ne 19, 3) := by decide +kernel
theorem dX9_alter_34 : decode cX9_alter 34 = .ok (.iload_n 3, 1) := by decide +kernel
theorem dX9_alter_35 : decode cX9_alter 35 = .ok (.i2l, 1) := by decide +kernel
theorem dX9_alter_36 : decode cX9_alter 36 = .ok (.lconst 1, 1) := by decide +kernel
theorem dX9_alter_37 : decode cX9_alter 37 = .ok (.ldc2_w 235, 3) := by decide +kernel
theorem dX9_alter_40 : decode cX9_alter 40 = .ok (.invokestatic 78, 3) := by decide +kernel
theorem dX9_alter_43 : decode cX9_alter 43 = .ok (.ifCond .eq 7, 3) := by decide +kernel
theorem dX9_alter_46 : decode cX9_alter 46 = .ok (.iconst 1, 1) := by decide +kernel
theorem dX9_alter_47 : decode cX9_alter 47 = .ok (.goto 4, 3) := by decide +kernel
theorem dX9_alter_50 : decode cX9_alter 50 = .ok (.iconst 0, 1) := by decide +kernel
theorem dX9_alter_51 : decode cX9_alter 51 = .ok (.istore 4, 2) := by decide +kernel
theorem dX9_alter_53 : decode cX9_alter 53 = .ok (.aload_n 0, 1) := by decide +kernel
theorem dX9_alter_54 : decode cX9_alter 54 = .ok (.iload_n 1, 1) := by decide +kernel
theorem dX9_alter_55 : decode cX9_alter 55 = .ok (.invokevirtual 216, 3) := by decide +kernel
theorem dX9_alter_58 : decode cX9_alter 58 = .ok (.ifCond .eq 36, 3) := by decide +kernel
theorem dX9_alter_61 : decode cX9_alter 61 = .ok (.iload 4, 2) := by decide +kernel
theorem dX9_alter_63 : decode cX9_alter 63 = .ok (.ifCond .eq 31, 3) := by decide +kernel
theorem dX9_alter_66 : decode cX9_alter 66 = .ok (.aload_n 0, 1) := by decide +kernel
theorem dX9_alter_67 : decode cX9_alter 67 = .ok (.bipush 24, 2) := by decide +kernel
theorem dX9_alter_69 : decode cX9_alter 69 = .ok (.iconst 4, 1) := by decide +kernel
theorem dX9_alter_70 : decode cX9_alter 70 = .ok (.iload_n 1, 1) := by decide +kernel
theorem dX9_alter_71 : decode cX9_alter 71 = .ok (.imul, 1) := by decide +kernel
theorem dX9_alter_72 : decode cX9_alter 72 = .ok (.iadd, 1) := by decide +kernel
theorem dX9_alter_73 : decode cX9_alter 73 = .ok (.iload_n 2, 1) := by decide +kernel
theorem dX9_alter_74 : decode cX9_alter 74 = .ok (.iadd, 1) := by decide +kernel
theorem dX9_alter_75 : decode cX9_alter 75 = .ok (.iload_n 2, 1) := by decide +kernel
theorem dX9_alter_76 : decode cX9_alter 76 = .ok (.iconst 1, 1) := by decide +kernel
theorem dX9_alter_77 : decode cX9_alter 77 = .ok (.if_icmp .ne 10, 3) := by decide +kernel
theorem dX9_alter_80 : decode cX9_alter 80 = .ok (.iload_n 3, 1) := by decide +kernel
theorem dX9_alter_81 : decode cX9_alter 81 = .ok (.invokestatic 229, 3) := by decide +kernel
theorem dX9_alter_84 : decode cX9_alter 84 = .ok (.goto 4, 3) := by decide +kernel
theorem dX9_alter_87 : decode cX9_alter 87 = .ok (.iload_n 3, 1) := by decide +kernel
theorem dX9_alter_88 : decode cX9_alter 88 = .ok (.invokevirtual 232, 3) := by decide +kernel
theorem dX9_alter_91 : decode cX9_alter 91 = .ok (.goto 4, 3) := by decide +kernel
theorem dX9_alter_94 : decode cX9_alter 94 = .ok (.iconst (-1), 1) := by decide +kernel
theorem dX9_alter_95 : decode cX9_alter 95 = .ok (.ireturn, 1) := by decide +kernel
theorem dX9_roll_0 : decode cX9_roll 0 = .ok (.iload_n 1, 1) := by decide +kernel
theorem dX9_roll_1 : decode cX9_roll 1 = .ok (.invokestatic 221, 3) := by decide +kernel
theorem dX9_roll_4 : decode cX9_roll 4 = .ok (.ifCond .eq 13, 3) := by decide +kernel
theorem dX9_roll_7 : decode cX9_roll 7 = .ok (.aload_n 0, 1) := by decide +kernel
theorem dX9_roll_8 : decode cX9_roll 8 = .ok (.bipush 40, 2) := by decide +kernel
theorem dX9_roll_10 : decode cX9_roll 10 = .ok (.iload_n 1, 1) := by decide +kernel
theorem dX9_roll_11 : decode cX9_roll 11 = .ok (.invokevirtual 232, 3) := by decide +kernel
theorem dX9_roll_14 : decode cX9_roll 14 = .ok (.goto 4, 3) := by decide +kernel
theorem dX9_roll_17 : decode cX9_roll 17 = .ok (.iconst (-1), 1) := by decide +kernel
theorem dX9_roll_18 : decode cX9_roll 18 = .ok (.ireturn, 1) := by decide +kernel
theorem dX9_forgets_0 : decode cX9_forgets 0 = .ok (.aload_n 0, 1) := by decide +kernel
theorem dX9_forgets_1 : decode cX9_forgets 1 = .ok (.iload_n 1, 1) := by decide +kernel
theorem dX9_forgets_2 : decode cX9_forgets 2 = .ok (.invokevirtual 216, 3) := by decide +kernel
theorem dX9_forgets_5 : decode cX9_forgets 5 = .ok (.ifCond .eq 22, 3) := by decide +kernel
theorem dX9_forgets_8 : decode cX9_forgets 8 = .ok (.aload_n 0, 1) := by decide +kernel
theorem dX9_forgets_9 : decode cX9_forgets 9 = .ok (.bipush 24, 2) := by decide +kernel
theorem dX9_forgets_11 : decode cX9_forgets 11 = .ok (.iconst 4, 1) := by decide +kernel
theorem dX9_forgets_12 : decode cX9_forgets 12 = .ok (.iload_n 1, 1) := by decide +kernel
theorem dX9_forgets_13 : decode cX9_forgets 13 = .ok (.imul, 1) := by decide +kernel
theorem dX9_forgets_14 : decode cX9_forgets 14 = .ok (.iadd, 1) := by decide +kernel
theorem dX9_forgets_15 : decode cX9_forgets 15 = .ok (.iconst 3, 1) := by decide +kernel
theorem dX9_forgets_16 : decode cX9_forgets 16 = .ok (.iadd, 1) := by decide +kernel
theorem dX9_forgets_17 : decode cX9_forgets 17 = .ok (.iconst 0, 1) := by decide +kernel
theorem dX9_forgets_18 : decode cX9_forgets 18 = .ok (.invokevirtual 232, 3) := by decide +kernel
theorem dX9_forgets_21 : decode cX9_forgets 21 = .ok (.invokestatic 237, 3) := by decide +kernel
theorem dX9_forgets_24 : decode cX9_forgets 24 = .ok (.goto 4, 3) := by decide +kernel
theorem dX9_forgets_27 : decode cX9_forgets 27 = .ok (.iconst (-1), 1) := by decide +kernel
theorem dX9_forgets_28 : decode cX9_forgets 28 = .ok (.ireturn, 1) := by decide +kernel
theorem dX9_fetch_0 : decode cX9_fetch 0 = .ok (.aload_n 0, 1) := by decide +kernel
theorem dX9_fetch_1 : decode cX9_fetch 1 = .ok (.iload_n 1, 1) := by decide +kernel
theorem dX9_fetch_2 : decode cX9_fetch 2 = .ok (.invokevirtual 216, 3) := by decide +kernel
theorem dX9_fetch_5 : decode cX9_fetch 5 = .ok (.ifCond .eq 11, 3) := by decide +kernel
theorem dX9_fetch_8 : decode cX9_fetch 8 = .ok (.aload_n 0, 1) := by decide +kernel
theorem dX9_fetch_9 : decode cX9_fetch 9 = .ok (.iload_n 2, 1) := by decide +kernel
theorem dX9_fetch_10 : decode cX9_fetch 10 = .ok (.invokevirtual 210, 3) := by decide +kernel
theorem dX9_fetch_13 : decode cX9_fetch 13 = .ok (.ifCond .ne 5, 3) := by decide +kernel
theorem dX9_fetch_16 : decode cX9_fetch 16 = .ok (.iconst (-1), 1) := by decide +kernel
theorem dX9_fetch_17 : decode cX9_fetch 17 = .ok (.ireturn, 1) := by decide +kernel
theorem dX9_fetch_18 : decode cX9_fetch 18 = .ok (.aload_n 0, 1) := by decide +kernel
theorem dX9_fetch_19 : decode cX9_fetch 19 = .ok (.invokevirtual 204, 3) := by decide +kernel
theorem dX9_fetch_22 : decode cX9_fetch 22 = .ok (.aload_n 0, 1) := by decide +kernel
theorem dX9_fetch_23 : decode cX9_fetch 23 = .ok (.iload_n 1, 1) := by decide +kernel
theorem dX9_fetch_24 : decode cX9_fetch 24 = .ok (.iload_n 2, 1) := by decide +kernel
theorem dX9_fetch_25 : decode cX9_fetch 25 = .ok (.invokevirtual 181, 3) := by decide +kernel
theorem dX9_fetch_28 : decode cX9_fetch 28 = .ok (.ifCond .eq 6, 3) := by decide +kernel
theorem dX9_fetch_31 : decode cX9_fetch 31 = .ok (.bipush (-2), 2) := by decide +kernel
theorem dX9_fetch_33 : decode cX9_fetch 33 = .ok (.ireturn, 1) := by decide +kernel
theorem dX9_fetch_34 : decode cX9_fetch 34 = .ok (.aload_n 0, 1) := by decide +kernel
theorem dX9_fetch_35 : decode cX9_fetch 35 = .ok (.invokevirtual 194, 3) := by decide +kernel
theorem dX9_fetch_38 : decode cX9_fetch 38 = .ok (.aload_n 0, 1) := by decide +kernel
theorem dX9_fetch_39 : decode cX9_fetch 39 = .ok (.iload_n 1, 1) := by decide +kernel
theorem dX9_fetch_40 : decode cX9_fetch 40 = .ok (.iload_n 2, 1) := by decide +kernel
theorem dX9_fetch_41 : decode cX9_fetch 41 = .ok (.invokevirtual 187, 3) := by decide +kernel
theorem dX9_fetch_44 : decode cX9_fetch 44 = .ok (.aload_n 0, 1) := by decide +kernel
theorem dX9_fetch_45 : decode cX9_fetch 45 = .ok (.getfield 13, 3) := by decide +kernel
theorem dX9_fetch_48 : decode cX9_fetch 48 = .ok (.bipush 41, 2) := by decide +kernel
theorem dX9_fetch_50 : decode cX9_fetch 50 = .ok (.iaload, 1) := by decide +kernel
theorem dX9_fetch_51 : decode cX9_fetch 51 = .ok (.sipush 9999, 3) := by decide +kernel
theorem dX9_fetch_54 : decode cX9_fetch 54 = .ok (.if_icmp .le 6, 3) := by decide +kernel
theorem dX9_fetch_57 : decode cX9_fetch 57 = .ok (.bipush (-3), 2) := by decide +kernel
theorem dX9_fetch_59 : decode cX9_fetch 59 = .ok (.ireturn, 1) := by decide +kernel
theorem dX9_fetch_60 : decode cX9_fetch 60 = .ok (.aload_n 0, 1) := by decide +kernel
theorem dX9_fetch_61 : decode cX9_fetch 61 = .ok (.invokevirtual 240, 3) := by decide +kernel
theorem dX9_fetch_64 : decode cX9_fetch 64 = .ok (.aload_n 0, 1) := by decide +kernel
theorem dX9_fetch_65 : decode cX9_fetch 65 = .ok (.getfield 165, 3) := by decide +kernel
theorem dX9_fetch_68 : decode cX9_fetch 68 = .ok (.ireturn, 1) := by decide +kernel
theorem dX9_days_0 : decode cX9_days 0 = .ok (.iload_n 1, 1) := by decide +kernel
theorem dX9_days_1 : decode cX9_days 1 = .ok (.i2l, 1) := by decide +kernel
theorem dX9_days_2 : decode cX9_days 2 = .ok (.lconst 0, 1) := by decide +kernel
theorem dX9_days_3 : decode cX9_days 3 = .ok (.ldc2_w 243, 3) := by decide +kernel
theorem dX9_days_6 : decode cX9_days 6 = .ok (.invokestatic 78, 3) := by decide +kernel
theorem dX9_days_9 : decode cX9_days 9 = .ok (.ifCond .ne 5, 3) := by decide +kernel
theorem dX9_days_12 : decode cX9_days 12 = .ok (.iconst (-1), 1) := by decide +kernel
theorem dX9_days_13 : decode cX9_days 13 = .ok (.ireturn, 1) := by decide +kernel
theorem dX9_days_14 : decode cX9_days 14 = .ok (.aload_n 0, 1) := by decide +kernel
theorem dX9_days_15 : decode cX9_days 15 = .ok (.invokevirtual 204, 3) := by decide +kernel
theorem dX9_days_18 : decode cX9_days 18 = .ok (.aload_n 0, 1) := by decide +kernel
theorem dX9_days_19 : decode cX9_days 19 = .ok (.iload_n 1, 1) := by decide +kernel
theorem dX9_days_20 : decode cX9_days 20 = .ok (.invokevirtual 245, 3) := by decide +kernel
theorem dX9_days_23 : decode cX9_days 23 = .ok (.aload_n 0, 1) := by decide +kernel
theorem dX9_days_24 : decode cX9_days 24 = .ok (.getfield 13, 3) := by decide +kernel
theorem dX9_days_27 : decode cX9_days 27 = .ok (.bipush 42, 2) := by decide +kernel
theorem dX9_days_29 : decode cX9_days 29 = .ok (.iaload, 1) := by decide +kernel
theorem dX9_days_30 : decode cX9_days 30 = .ok (.sipush 999, 3) := by decide +kernel
theorem dX9_days_33 : decode cX9_days 33 = .ok (.if_icmp .gt 16, 3) := by decide +kernel
theorem dX9_days_36 : decode cX9_days 36 = .ok (.aload_n 0, 1) := by decide +kernel
theorem dX9_days_37 : decode cX9_days 37 = .ok (.getfield 13, 3) := by decide +kernel
theorem dX9_days_40 : decode cX9_days 40 = .ok (.bipush 41, 2) := by decide +kernel
theorem dX9_days_42 : decode cX9_days 42 = .ok (.iaload, 1) := by decide +kernel
theorem dX9_days_43 : decode cX9_days 43 = .ok (.sipush 9999, 3) := by decide +kernel
theorem dX9_days_46 : decode cX9_days 46 = .ok (.if_icmp .le 6, 3) := by decide +kernel
theorem dX9_days_49 : decode cX9_days 49 = .ok (.bipush (-3), 2) := by decide +kernel
theorem dX9_days_51 : decode cX9_days 51 = .ok (.ireturn, 1) := by decide +kernel
theorem dX9_days_52 : decode cX9_days 52 = .ok (.aload_n 0, 1) := by decide +kernel
theorem dX9_days_53 : decode cX9_days 53 = .ok (.invokevirtual 240, 3) := by decide +kernel
theorem dX9_days_56 : decode cX9_days 56 = .ok (.aload_n 0, 1) := by decide +kernel
theorem dX9_days_57 : decode cX9_days 57 = .ok (.getfield 162, 3) := by decide +kernel
theorem dX9_days_60 : decode cX9_days 60 = .ok (.ireturn, 1) := by decide +kernel
theorem dX9_isFar_0 : decode cX9_isFar 0 = .ok (.iload_n 0, 1) := by decide +kernel
theorem dX9_isFar_1 : decode cX9_isFar 1 = .ok (.i2l, 1) := by decide +kernel
theorem dX9_isFar_2 : decode cX9_isFar 2 = .ok (.lconst 0, 1) := by decide +kernel
theorem dX9_isFar_3 : decode cX9_isFar 3 = .ok (.ldc2_w 248, 3) := by decide +kernel
theorem dX9_isFar_6 : decode cX9_isFar 6 = .ok (.invokestatic 78, 3) := by decide +kernel
theorem dX9_isFar_9 : decode cX9_isFar 9 = .ok (.ireturn, 1) := by decide +kernel
theorem dX9_runs_0 : decode cX9_runs 0 = .ok (.iload_n 1, 1) := by decide +kernel
theorem dX9_runs_1 : decode cX9_runs 1 = .ok (.invokestatic 250, 3) := by decide +kernel
theorem dX9_runs_4 : decode cX9_runs 4 = .ok (.ifCond .eq 15, 3) := by decide +kernel
theorem dX9_runs_7 : decode cX9_runs 7 = .ok (.iload_n 2, 1) := by decide +kernel
theorem dX9_runs_8 : decode cX9_runs 8 = .ok (.i2l, 1) := by decide +kernel
theorem dX9_runs_9 : decode cX9_runs 9 = .ok (.lconst 0, 1) := by decide +kernel
theorem dX9_runs_10 : decode cX9_runs 10 = .ok (.ldc2_w 214, 3) := by decide +kernel
theorem dX9_runs_13 : decode cX9_runs 13 = .ok (.invokestatic 78, 3) := by decide +kernel
theorem dX9_runs_16 : decode cX9_runs 16 = .ok (.ifCond .ne 5, 3) := by decide +kernel
theorem dX9_runs_19 : decode cX9_runs 19 = .ok (.iconst (-1), 1) := by decide +kernel
theorem dX9_runs_20 : decode cX9_runs 20 = .ok (.ireturn, 1) := by decide +kernel
theorem dX9_runs_21 : decode cX9_runs 21 = .ok (.bipush (-4), 2) := by decide +kernel
theorem dX9_runs_23 : decode cX9_runs 23 = .ok (.istore_n 3, 1) := by decide +kernel
theorem dX9_runs_24 : decode cX9_runs 24 = .ok (.aload_n 0, 1) := by decide +kernel
theorem dX9_runs_25 : decode cX9_runs 25 = .ok (.invokevirtual 204, 3) := by decide +kernel
theorem dX9_runs_28 : decode cX9_runs 28 = .ok (.aload_n 0, 1) := by decide +kernel
theorem dX9_runs_29 : decode cX9_runs 29 = .ok (.invokevirtual 194, 3) := by decide +kernel
theorem dX9_runs_32 : decode cX9_runs 32 = .ok (.iconst 0, 1) := by decide +kernel
theorem dX9_runs_33 : decode cX9_runs 33 = .ok (.istore 4, 2) := by decide +kernel
theorem dX9_runs_35 : decode cX9_runs 35 = .ok (.iload 4, 2) := by decide +kernel
theorem dX9_runs_37 : decode cX9_runs 37 = .ok (.iload_n 1, 1) := by decide +kernel
theorem dX9_runs_38 : decode cX9_runs 38 = .ok (.if_icmp .gt 47, 3) := by decide +kernel
theorem dX9_runs_41 : decode cX9_runs 41 = .ok (.iload_n 3, 1) := by decide +kernel
theorem dX9_runs_42 : decode cX9_runs 42 = .ok (.bipush (-4), 2) := by decide +kernel
theorem dX9_runs_44 : decode cX9_runs 44 = .ok (.if_icmp .ne 23, 3) := by decide +kernel
theorem dX9_runs_47 : decode cX9_runs 47 = .ok (.aload_n 0, 1) := by decide +kernel
theorem dX9_runs_48 : decode cX9_runs 48 = .ok (.invokevirtual 207, 3) := by decide +kernel
theorem dX9_runs_51 : decode cX9_runs 51 = .ok (.iconst 1, 1) := by decide +kernel
theorem dX9_runs_52 : decode cX9_runs 52 = .ok (.aload_n 0, 1) := by decide +kernel
theorem dX9_runs_53 : decode cX9_runs 53 = .ok (.getfield 73, 3) := by decide +kernel
theorem dX9_runs_56 : decode cX9_runs 56 = .ok (.ishl, 1) := by decide +kernel
theorem dX9_runs_57 : decode cX9_runs 57 = .ok (.iconst 1, 1) := by decide +kernel
theorem dX9_runs_58 : decode cX9_runs 58 = .ok (.isub, 1) := by decide +kernel
