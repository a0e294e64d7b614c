theorem dX8_init_0 : decode cX8_init 0 = .ok (.aload_n 0, 1) := by decide +kernel
theorem dX8_init_1 : decode cX8_init 1 = .ok (.invokespecial 1, 3) := by decide +kernel
theorem dX8_init_4 : decode cX8_init 4 = .ok (.aload_n 0, 1) := by decide +kernel
theorem dX8_init_5 : decode cX8_init 5 = .ok (.new 7, 3) := by decide +kernel
theorem dX8_init_8 : decode cX8_init 8 = .ok (.dup, 1) := by decide +kernel
theorem dX8_init_9 : decode cX8_init 9 = .ok (.invokespecial 9, 3) := by decide +kernel
theorem dX8_init_12 : decode cX8_init 12 = .ok (.putfield 10, 3) := by decide +kernel
theorem dX8_init_15 : decode cX8_init 15 = .ok (.aload_n 0, 1) := by decide +kernel
theorem dX8_init_16 : decode cX8_init 16 = .ok (.new 7, 3) := by decide +kernel
theorem dX8_init_19 : decode cX8_init 19 = .ok (.dup, 1) := by decide +kernel
theorem dX8_init_20 : decode cX8_init 20 = .ok (.invokespecial 9, 3) := by decide +kernel
theorem dX8_init_23 : decode cX8_init 23 = .ok (.putfield 16, 3) := by decide +kernel
theorem dX8_init_26 : decode cX8_init 26 = .ok (.aload_n 0, 1) := by decide +kernel
theorem dX8_init_27 : decode cX8_init 27 = .ok (.new 19, 3) := by decide +kernel
theorem dX8_init_30 : decode cX8_init 30 = .ok (.dup, 1) := by decide +kernel
theorem dX8_init_31 : decode cX8_init 31 = .ok (.invokespecial 21, 3) := by decide +kernel
theorem dX8_init_34 : decode cX8_init 34 = .ok (.putfield 22, 3) := by decide +kernel
theorem dX8_init_37 : decode cX8_init 37 = .ok (.aload_n 0, 1) := by decide +kernel
theorem dX8_init_38 : decode cX8_init 38 = .ok (.new 26, 3) := by decide +kernel
theorem dX8_init_41 : decode cX8_init 41 = .ok (.dup, 1) := by decide +kernel
theorem dX8_init_42 : decode cX8_init 42 = .ok (.invokespecial 28, 3) := by decide +kernel
theorem dX8_init_45 : decode cX8_init 45 = .ok (.putfield 29, 3) := by decide +kernel
theorem dX8_init_48 : decode cX8_init 48 = .ok (.aload_n 0, 1) := by decide +kernel
theorem dX8_init_49 : decode cX8_init 49 = .ok (.iconst 2, 1) := by decide +kernel
theorem dX8_init_50 : decode cX8_init 50 = .ok (.anewarray 33, 3) := by decide +kernel
theorem dX8_init_53 : decode cX8_init 53 = .ok (.putfield 35, 3) := by decide +kernel
theorem dX8_init_56 : decode cX8_init 56 = .ok (.aload_n 0, 1) := by decide +kernel
theorem dX8_init_57 : decode cX8_init 57 = .ok (.iconst 4, 1) := by decide +kernel
theorem dX8_init_58 : decode cX8_init 58 = .ok (.anewarray 39, 3) := by decide +kernel
theorem dX8_init_61 : decode cX8_init 61 = .ok (.putfield 41, 3) := by decide +kernel
theorem dX8_init_64 : decode cX8_init 64 = .ok (.aload_n 0, 1) := by decide +kernel
theorem dX8_init_65 : decode cX8_init 65 = .ok (.iconst 4, 1) := by decide +kernel
theorem dX8_init_66 : decode cX8_init 66 = .ok (.newarray .int, 2) := by decide +kernel
theorem dX8_init_68 : decode cX8_init 68 = .ok (.putfield 45, 3) := by decide +kernel
theorem dX8_init_71 : decode cX8_init 71 = .ok (.aload_n 0, 1) := by decide +kernel
theorem dX8_init_72 : decode cX8_init 72 = .ok (.iconst 4, 1) := by decide +kernel
theorem dX8_init_73 : decode cX8_init 73 = .ok (.newarray .int, 2) := by decide +kernel
theorem dX8_init_75 : decode cX8_init 75 = .ok (.putfield 49, 3) := by decide +kernel
theorem dX8_init_78 : decode cX8_init 78 = .ok (.aload_n 0, 1) := by decide +kernel
theorem dX8_init_79 : decode cX8_init 79 = .ok (.new 52, 3) := by decide +kernel
theorem dX8_init_82 : decode cX8_init 82 = .ok (.dup, 1) := by decide +kernel
theorem dX8_init_83 : decode cX8_init 83 = .ok (.invokespecial 54, 3) := by decide +kernel
theorem dX8_init_86 : decode cX8_init 86 = .ok (.putfield 55, 3) := by decide +kernel
theorem dX8_init_89 : decode cX8_init 89 = .ok (.aload_n 0, 1) := by decide +kernel
theorem dX8_init_90 : decode cX8_init 90 = .ok (.new 59, 3) := by decide +kernel
theorem dX8_init_93 : decode cX8_init 93 = .ok (.dup, 1) := by decide +kernel
theorem dX8_init_94 : decode cX8_init 94 = .ok (.invokespecial 61, 3) := by decide +kernel
theorem dX8_init_97 : decode cX8_init 97 = .ok (.putfield 62, 3) := by decide +kernel
theorem dX8_init_100 : decode cX8_init 100 = .ok (.iconst 0, 1) := by decide +kernel
theorem dX8_init_101 : decode cX8_init 101 = .ok (.istore_n 1, 1) := by decide +kernel
theorem dX8_init_102 : decode cX8_init 102 = .ok (.iload_n 1, 1) := by decide +kernel
theorem dX8_init_103 : decode cX8_init 103 = .ok (.iconst 2, 1) := by decide +kernel
theorem dX8_init_104 : decode cX8_init 104 = .ok (.if_icmp .ge 22, 3) := by decide +kernel
theorem dX8_init_107 : decode cX8_init 107 = .ok (.aload_n 0, 1) := by decide +kernel
theorem dX8_init_108 : decode cX8_init 108 = .ok (.getfield 35, 3) := by decide +kernel
theorem dX8_init_111 : decode cX8_init 111 = .ok (.iload_n 1, 1) := by decide +kernel
theorem dX8_init_112 : decode cX8_init 112 = .ok (.new 33, 3) := by decide +kernel
theorem dX8_init_115 : decode cX8_init 115 = .ok (.dup, 1) := by decide +kernel
theorem dX8_init_116 : decode cX8_init 116 = .ok (.invokespecial 66, 3) := by decide +kernel
theorem dX8_init_119 : decode cX8_init 119 = .ok (.aastore, 1) := by decide +kernel
theorem dX8_init_120 : decode cX8_init 120 = .ok (.iinc 1 1, 3) := by decide +kernel
theorem dX8_init_123 : decode cX8_init 123 = .ok (.goto (-21), 3) := by decide +kernel
theorem dX8_init_126 : decode cX8_init 126 = .ok (.iconst 0, 1) := by decide +kernel
theorem dX8_init_127 : decode cX8_init 127 = .ok (.istore_n 1, 1) := by decide +kernel
theorem dX8_init_128 : decode cX8_init 128 = .ok (.iload_n 1, 1) := by decide +kernel
theorem dX8_init_129 : decode cX8_init 129 = .ok (.iconst 4, 1) := by decide +kernel
theorem dX8_init_130 : decode cX8_init 130 = .ok (.if_icmp .ge 22, 3) := by decide +kernel
theorem dX8_init_133 : decode cX8_init 133 = .ok (.aload_n 0, 1) := by decide +kernel
theorem dX8_init_134 : decode cX8_init 134 = .ok (.getfield 41, 3) := by decide +kernel
theorem dX8_init_137 : decode cX8_init 137 = .ok (.iload_n 1, 1) := by decide +kernel
theorem dX8_init_138 : decode cX8_init 138 = .ok (.new 39, 3) := by decide +kernel
theorem dX8_init_141 : decode cX8_init 141 = .ok (.dup, 1) := by decide +kernel
theorem dX8_init_142 : decode cX8_init 142 = .ok (.invokespecial 67, 3) := by decide +kernel
theorem dX8_init_145 : decode cX8_init 145 = .ok (.aastore, 1) := by decide +kernel
theorem dX8_init_146 : decode cX8_init 146 = .ok (.iinc 1 1, 3) := by decide +kernel
theorem dX8_init_149 : decode cX8_init 149 = .ok (.goto (-21), 3) := by decide +kernel
theorem dX8_init_152 : decode cX8_init 152 = .ok (.return_, 1) := by decide +kernel
theorem dX8_feed_0 : decode cX8_feed 0 = .ok (.iload_n 1, 1) := by decide +kernel
theorem dX8_feed_1 : decode cX8_feed 1 = .ok (.iconst 0, 1) := by decide +kernel
theorem dX8_feed_2 : decode cX8_feed 2 = .ok (.bipush 127, 2) := by decide +kernel
theorem dX8_feed_4 : decode cX8_feed 4 = .ok (.invokestatic 68, 3) := by decide +kernel
theorem dX8_feed_7 : decode cX8_feed 7 = .ok (.ifCond .eq 5, 3) := by decide +kernel
theorem dX8_feed_10 : decode cX8_feed 10 = .ok (.iconst (-1), 1) := by decide +kernel
theorem dX8_feed_11 : decode cX8_feed 11 = .ok (.ireturn, 1) := by decide +kernel
theorem dX8_feed_12 : decode cX8_feed 12 = .ok (.aload_n 0, 1) := by decide +kernel
theorem dX8_feed_13 : decode cX8_feed 13 = .ok (.getfield 22, 3) := by decide +kernel
theorem dX8_feed_16 : decode cX8_feed 16 = .ok (.getfield 72, 3) := by decide +kernel
theorem dX8_feed_19 : decode cX8_feed 19 = .ok (.astore_n 2, 1) := by decide +kernel
theorem dX8_feed_20 : decode cX8_feed 20 = .ok (.aload_n 2, 1) := by decide +kernel
theorem dX8_feed_21 : decode cX8_feed 21 = .ok (.getfield 76, 3) := by decide +kernel
theorem dX8_feed_24 : decode cX8_feed 24 = .ok (.sipush 160, 3) := by decide +kernel
theorem dX8_feed_27 : decode cX8_feed 27 = .ok (.if_icmp .lt 6, 3) := by decide +kernel
theorem dX8_feed_30 : decode cX8_feed 30 = .ok (.bipush (-3), 2) := by decide +kernel
theorem dX8_feed_32 : decode cX8_feed 32 = .ok (.ireturn, 1) := by decide +kernel
theorem dX8_feed_33 : decode cX8_feed 33 = .ok (.aload_n 2, 1) := by decide +kernel
theorem dX8_feed_34 : decode cX8_feed 34 = .ok (.getfield 82, 3) := by decide +kernel
theorem dX8_feed_37 : decode cX8_feed 37 = .ok (.aload_n 2, 1) := by decide +kernel
theorem dX8_feed_38 : decode cX8_feed 38 = .ok (.getfield 76, 3) := by decide +kernel
theorem dX8_feed_41 : decode cX8_feed 41 = .ok (.iload_n 1, 1) := by decide +kernel
theorem dX8_feed_42 : decode cX8_feed 42 = .ok (.i2b, 1) := by decide +kernel
theorem dX8_feed_43 : decode cX8_feed 43 = .ok (.bastore, 1) := by decide +kernel
theorem dX8_feed_44 : decode cX8_feed 44 = .ok (.aload_n 2, 1) := by decide +kernel
theorem dX8_feed_45 : decode cX8_feed 45 = .ok (.dup, 1) := by decide +kernel
theorem dX8_feed_46 : decode cX8_feed 46 = .ok (.getfield 76, 3) := by decide +kernel
theorem dX8_feed_49 : decode cX8_feed 49 = .ok (.iconst 1, 1) := by decide +kernel
theorem dX8_feed_50 : decode cX8_feed 50 = .ok (.iadd, 1) := by decide +kernel
theorem dX8_feed_51 : decode cX8_feed 51 = .ok (.putfield 76, 3) := by decide +kernel
theorem dX8_feed_54 : decode cX8_feed 54 = .ok (.aload_n 2, 1) := by decide +kernel
theorem dX8_feed_55 : decode cX8_feed 55 = .ok (.getfield 76, 3) := by decide +kernel
theorem dX8_feed_58 : decode cX8_feed 58 = .ok (.ireturn, 1) := by decide +kernel
theorem dX8_end_0 : decode cX8_end 0 = .ok (.aload_n 0, 1) := by decide +kernel
theorem dX8_end_1 : decode cX8_end 1 = .ok (.getfield 22, 3) := by decide +kernel
theorem dX8_end_4 : decode cX8_end 4 = .ok (.getfield 72, 3) := by decide +kernel
theorem dX8_end_7 : decode cX8_end 7 = .ok (.astore_n 2, 1) := by decide +kernel
theorem dX8_end_8 : decode cX8_end 8 = .ok (.iload_n 1, 1) := by decide +kernel
theorem dX8_end_9 : decode cX8_end 9 = .ok (.iconst 0, 1) := by decide +kernel
theorem dX8_end_10 : decode cX8_end 10 = .ok (.aload_n 2, 1) := by decide +kernel
theorem dX8_end_11 : decode cX8_end 11 = .ok (.getfield 76, 3) := by decide +kernel
theorem dX8_end_14 : decode cX8_end 14 = .ok (.invokestatic 68, 3) := by decide +kernel
theorem dX8_end_17 : decode cX8_end 17 = .ok (.ifCond .eq 5, 3) := by decide +kernel
theorem dX8_end_20 : decode cX8_end 20 = .ok (.iconst (-1), 1) := by decide +kernel
theorem dX8_end_21 : decode cX8_end 21 = .ok (.ireturn, 1) := by decide +kernel
theorem dX8_end_22 : decode cX8_end 22 = .ok (.aload_n 2, 1) := by decide +kernel
theorem dX8_end_23 : decode cX8_end 23 = .ok (.getfield 76, 3) := by decide +kernel
theorem dX8_end_26 : decode cX8_end 26 = .ok (.istore_n 3, 1) := by decide +kernel
theorem dX8_end_27 : decode cX8_end 27 = .ok (.aload_n 2, 1) := by decide +kernel
theorem dX8_end_28 : decode cX8_end 28 = .ok (.iload_n 1, 1) := by decide +kernel
theorem dX8_end_29 : decode cX8_end 29 = .ok (.putfield 76, 3) := by decide +kernel
theorem dX8_end_32 : decode cX8_end 32 = .ok (.iload_n 3, 1) := by decide +kernel
theorem dX8_end_33 : decode cX8_end 33 = .ok (.ireturn, 1) := by decide +kernel
theorem dX8_text_0 : decode cX8_text 0 = .ok (.aload_n 0, 1) := by decide +kernel
theorem dX8_text_1 : decode cX8_text 1 = .ok (.getfield 22, 3) := by decide +kernel
theorem dX8_text_4 : decode cX8_text 4 = .ok (.invokevirtual 86, 3) := by decide +kernel
theorem dX8_text_7 : decode cX8_text 7 = .ok (.iconst 0, 1) := by decide +kernel
theorem dX8_text_8 : decode cX8_text 8 = .ok (.istore_n 1, 1) := by decide +kernel
theorem dX8_text_9 : decode cX8_text 9 = .ok (.iload_n 1, 1) := by decide +kernel
theorem dX8_text_10 : decode cX8_text 10 = .ok (.sipush 160, 3) := by decide +kernel
theorem dX8_text_13 : decode cX8_text 13 = .ok (.if_icmp .ge 26, 3) := by decide +kernel
theorem dX8_text_16 : decode cX8_text 16 = .ok (.aload_n 0, 1) := by decide +kernel
theorem dX8_text_17 : decode cX8_text 17 = .ok (.getfield 22, 3) := by decide +kernel
theorem dX8_text_20 : decode cX8_text 20 = .ok (.invokevirtual 89, 3) := by decide +kernel
theorem dX8_text_23 : decode cX8_text 23 = .ok (.ifCond .eq 16, 3) := by decide +kernel
theorem dX8_text_26 : decode cX8_text 26 = .ok (.aload_n 0, 1) := by decide +kernel
theorem dX8_text_27 : decode cX8_text 27 = .ok (.getfield 22, 3) := by decide +kernel
theorem dX8_text_30 : decode cX8_text 30 = .ok (.invokevirtual 93, 3) := by decide +kernel
theorem dX8_text_33 : decode cX8_text 33 = .ok (.iinc 1 1, 3) := by decide +kernel
theorem dX8_text_36 : decode cX8_text 36 = .ok (.goto (-27), 3) := by decide +kernel
theorem dX8_text_39 : decode cX8_text 39 = .ok (.aload_n 0, 1) := by decide +kernel
theorem dX8_text_40 : decode cX8_text 40 = .ok (.getfield 22, 3) := by decide +kernel
theorem dX8_text_43 : decode cX8_text 43 = .ok (.invokevirtual 96, 3) := by decide +kernel
theorem dX8_text_46 : decode cX8_text 46 = .ok (.aload_n 0, 1) := by decide +kernel
theorem dX8_text_47 : decode cX8_text 47 = .ok (.getfield 22, 3) := by decide +kernel
theorem dX8_text_50 : decode cX8_text 50 = .ok (.getfield 72, 3) := by decide +kernel
theorem dX8_text_53 : decode cX8_text 53 = .ok (.iconst 0, 1) := by decide +kernel
theorem dX8_text_54 : decode cX8_text 54 = .ok (.putfield 76, 3) := by decide +kernel
theorem dX8_text_57 : decode cX8_text 57 = .ok (.aload_n 0, 1) := by decide +kernel
theorem dX8_text_58 : decode cX8_text 58 = .ok (.aload_n 0, 1) := by decide +kernel
theorem dX8_text_59 : decode cX8_text 59 = .ok (.getfield 22, 3) := by decide +kernel
theorem dX8_text_62 : decode cX8_text 62 = .ok (.getfield 99, 3) := by decide +kernel
theorem dX8_text_65 : decode cX8_text 65 = .ok (.putfield 102, 3) := by decide +kernel
theorem dX8_text_68 : decode cX8_text 68 = .ok (.aload_n 0, 1) := by decide +kernel
theorem dX8_text_69 : decode cX8_text 69 = .ok (.getfield 102, 3) := by decide +kernel
theorem dX8_text_72 : decode cX8_text 72 = .ok (.ifCond .eq 14, 3) := by decide +kernel
theorem dX8_text_75 : decode cX8_text 75 = .ok (.bipush (-10), 2) := by decide +kernel
theorem dX8_text_77 : decode cX8_text 77 = .ok (.aload_n 0, 1) := by decide +kernel
theorem dX8_text_78 : decode cX8_text 78 = .ok (.getfield 22, 3) := by decide +kernel
theorem dX8_text_81 : decode cX8_text 81 = .ok (.getfield 105, 3) := by decide +kernel
theorem dX8_text_84 : decode cX8_text 84 = .ok (.isub, 1) := by decide +kernel
theorem dX8_text_85 : decode cX8_text 85 = .ok (.ireturn, 1) := by decide +kernel
theorem dX8_text_86 : decode cX8_text 86 = .ok (.aload_n 0, 1) := by decide +kernel
theorem dX8_text_87 : decode cX8_text 87 = .ok (.getfield 10, 3) := by decide +kernel
theorem dX8_text_90 : decode cX8_text 90 = .ok (.aload_n 0, 1) := by decide +kernel
theorem dX8_text_91 : decode cX8_text 91 = .ok (.getfield 22, 3) := by decide +kernel
theorem dX8_text_94 : decode cX8_text 94 = .ok (.getfield 108, 3) := by decide +kernel
theorem dX8_text_97 : decode cX8_text 97 = .ok (.invokevirtual 109, 3) := by decide +kernel
theorem dX8_text_100 : decode cX8_text 100 = .ok (.aload_n 0, 1) := by decide +kernel
theorem dX8_text_101 : decode cX8_text 101 = .ok (.getfield 29, 3) := by decide +kernel
theorem dX8_text_104 : decode cX8_text 104 = .ok (.iconst 0, 1) := by decide +kernel
theorem dX8_text_105 : decode cX8_text 105 = .ok (.putfield 113, 3) := by decide +kernel
theorem dX8_text_108 : decode cX8_text 108 = .ok (.iconst 0, 1) := by decide +kernel
theorem dX8_text_109 : decode cX8_text 109 = .ok (.istore_n 1, 1) := by decide +kernel
theorem dX8_text_110 : decode cX8_text 110 = .ok (.iload_n 1, 1) := by decide +kernel
theorem dX8_text_111 : decode cX8_text 111 = .ok (.iconst 2, 1) := by decide +kernel
theorem dX8_text_112 : decode cX8_text 112 = .ok (.if_icmp .ge 19, 3) := by decide +kernel
theorem dX8_text_115 : decode cX8_text 115 = .ok (.aload_n 0, 1) := by decide +kernel
theorem dX8_text_116 : decode cX8_text 116 = .ok (.getfield 35, 3) := by decide +kernel
theorem dX8_text_119 : decode cX8_text 119 = .ok (.iload_n 1, 1) := by decide +kernel
theorem dX8_text_120 : decode cX8_text 120 = .ok (.aaload, 1) := by decide +kernel
theorem dX8_text_121 : decode cX8_text 121 = .ok (.iconst 0, 1) := by decide +kernel
theorem dX8_text_122 : decode cX8_text 122 = .ok (.putfield 116, 3) := by decide +kernel
theorem dX8_text_125 : decode cX8_text 125 = .ok (.iinc 1 1, 3) := by decide +kernel
theorem dX8_text_128 : decode cX8_text 128 = .ok (.goto (-18), 3) := by decide +kernel
theorem dX8_text_131 : decode cX8_text 131 = .ok (.aload_n 0, 1) := by decide +kernel
theorem dX8_text_132 : decode cX8_text 132 = .ok (.getfield 22, 3) := by decide +kernel
theorem dX8_text_135 : decode cX8_text 135 = .ok (.getfield 120, 3) := by decide +kernel
theorem dX8_text_138 : decode cX8_text 138 = .ok (.ireturn, 1) := by decide +kernel
theorem dX8_fault_0 : decode cX8_fault 0 = .ok (.aload_n 0, 1) := by decide +kernel
theorem dX8_fault_1 : decode cX8_fault 1 = .ok (.getfield 102, 3) := by decide +kernel
theorem dX8_fault_4 : decode cX8_fault 4 = .ok (.ireturn, 1) := by decide +kernel
theorem dX8_rule_0 : decode cX8_rule 0 = .ok (.iload_n 1, 1) := by decide +kernel
theorem dX8_rule_1 : decode cX8_rule 1 = .ok (.tableswitch 87 0 5 #[39, 47, 55, 63, 71, 79], 39) := by decide +kernel
theorem dX8_rule_40 : decode cX8_rule 40 = .ok (.aload_n 0, 1) := by decide +kernel
theorem dX8_rule_41 : decode cX8_rule 41 = .ok (.getfield 10, 3) := by decide +kernel
theorem dX8_rule_44 : decode cX8_rule 44 = .ok (.getfield 123, 3) := by decide +kernel
theorem dX8_rule_47 : decode cX8_rule 47 = .ok (.ireturn, 1) := by decide +kernel
theorem dX8_rule_48 : decode cX8_rule 48 = .ok (.aload_n 0, 1) := by decide +kernel
theorem dX8_rule_49 : decode cX8_rule 49 = .ok (.getfield 10, 3) := by decide +kernel
theorem dX8_rule_52 : decode cX8_rule 52 = .ok (.getfield 126, 3) := by decide +kernel
theorem dX8_rule_55 : decode cX8_rule 55 = .ok (.ireturn, 1) := by decide +kernel
theorem dX8_rule_56 : decode cX8_rule 56 = .ok (.aload_n 0, 1) := by decide +kernel
theorem dX8_rule_57 : decode cX8_rule 57 = .ok (.getfield 10, 3) := by decide +kernel
theorem dX8_rule_60 : decode cX8_rule 60 = .ok (.getfield 129, 3) := by decide +kernel
theorem dX8_rule_63 : decode cX8_rule 63 = .ok (.ireturn, 1) := by decide +kernel
theorem dX8_rule_64 : decode cX8_rule 64 = .ok (.aload_n 0, 1) := by decide +kernel
theorem dX8_rule_65 : decode cX8_rule 65 = .ok (.getfield 10, 3) := by decide +kernel
theorem dX8_rule_68 : decode cX8_rule 68 = .ok (.getfield 132, 3) := by decide +kernel
theorem dX8_rule_71 : decode cX8_rule 71 = .ok (.ireturn, 1) := by decide +kernel
theorem dX8_rule_72 : decode cX8_rule 72 = .ok (.aload_n 0, 1) := by decide +kernel
theorem dX8_rule_73 : decode cX8_rule 73 = .ok (.getfield 10, 3) := by decide +kernel
theorem dX8_rule_76 : decode cX8_rule 76 = .ok (.getfield 135, 3) := by decide +kernel
theorem dX8_rule_79 : decode cX8_rule 79 = .ok (.ireturn, 1) := by decide +kernel
theorem dX8_rule_80 : decode cX8_rule 80 = .ok (.aload_n 0, 1) := by decide +kernel
theorem dX8_rule_81 : decode cX8_rule 81 = .ok (.getfield 10, 3) := by decide +kernel
theorem dX8_rule_84 : decode cX8_rule 84 = .ok (.invokevirtual 138, 3) := by decide +kernel
theorem dX8_rule_87 : decode cX8_rule 87 = .ok (.ireturn, 1) := by decide +kernel
theorem dX8_rule_88 : decode cX8_rule 88 = .ok (.iconst (-1), 1) := by decide +kernel
theorem dX8_rule_89 : decode cX8_rule 89 = .ok (.ireturn, 1) := by decide +kernel
theorem dX8_book_0 : decode cX8_book 0 = .ok (.aload_n 0, 1) := by decide +kernel
theorem dX8_book_1 : decode cX8_book 1 = .ok (.getfield 10, 3) := by decide +kernel
theorem dX8_book_4 : decode cX8_book 4 = .ok (.iload_n 1, 1) := by decide +kernel
theorem dX8_book_5 : decode cX8_book 5 = .ok (.invokevirtual 142, 3) := by decide +kernel
theorem dX8_book_8 : decode cX8_book 8 = .ok (.ifCond .ne 5, 3) := by decide +kernel
theorem dX8_book_11 : decode cX8_book 11 = .ok (.iconst (-1), 1) := by decide +kernel
theorem dX8_book_12 : decode cX8_book 12 = .ok (.ireturn, 1) := by decide +kernel
theorem dX8_book_13 : decode cX8_book 13 = .ok (.iload_n 2, 1) := by decide +kernel
theorem dX8_book_14 : decode cX8_book 14 = .ok (.tableswitch 69 0 3 #[30, 40, 50, 60], 30) := by decide +kernel
theorem dX8_book_44 : decode cX8_book 44 = .ok (.aload_n 0, 1) := by decide +kernel
theorem dX8_book_45 : decode cX8_book 45 = .ok (.getfield 10, 3) := by decide +kernel
theorem dX8_book_48 : decode cX8_book 48 = .ok (.getfield 146, 3) := by decide +kernel
theorem dX8_book_51 : decode cX8_book 51 = .ok (.iload_n 1, 1) := by decide +kernel
theorem dX8_book_52 : decode cX8_book 52 = .ok (.iaload, 1) := by decide +kernel
theorem dX8_book_53 : decode cX8_book 53 = .ok (.ireturn, 1) := by decide +kernel
theorem dX8_book_54 : decode cX8_book 54 = .ok (.aload_n 0, 1) := by decide +kernel
theorem dX8_book_55 : decode cX8_book 55 = .ok (.getfield 10, 3) := by decide +kernel
theorem dX8_book_58 : decode cX8_book 58 = .ok (.getfield 149, 3) := by decide +kernel
theorem dX8_book_61 : decode cX8_book 61 = .ok (.iload_n 1, 1) := by decide +kernel
theorem dX8_book_62 : decode cX8_book 62 = .ok (.iaload, 1) := by decide +kernel
theorem dX8_book_63 : decode cX8_book 63 = .ok (.ireturn, 1) := by decide +kernel
theorem dX8_book_64 : decode cX8_book 64 = .ok (.aload_n 0, 1) := by decide +kernel
theorem dX8_book_65 : decode cX8_book 65 = .ok (.getfield 10, 3) := by decide +kernel
theorem dX8_book_68 : decode cX8_book 68 = .ok (.getfield 152, 3) := by decide +kernel
theorem dX8_book_71 : decode cX8_book 71 = .ok (.iload_n 1, 1) := by decide +kernel
theorem dX8_book_72 : decode cX8_book 72 = .ok (.iaload, 1) := by decide +kernel
theorem dX8_book_73 : decode cX8_book 73 = .ok (.ireturn, 1) := by decide +kernel
theorem dX8_book_74 : decode cX8_book 74 = .ok (.aload_n 0, 1) := by decide +kernel
theorem dX8_book_75 : decode cX8_book 75 = .ok (.getfield 10, 3) := by decide +kernel
theorem dX8_book_78 : decode cX8_book 78 = .ok (.iload_n 1, 1) := by decide +kernel
theorem dX8_book_79 : decode cX8_book 79 = .ok (.invokevirtual 155, 3) := by decide +kernel
theorem dX8_book_82 : decode cX8_book 82 = .ok (.ireturn, 1) := by decide +kernel
theorem dX8_book_83 : decode cX8_book 83 = .ok (.iconst (-1), 1) := by decide +kernel
theorem dX8_book_84 : decode cX8_book 84 = .ok (.ireturn, 1) := by decide +kernel
theorem dX8_reader_0 : decode cX8_reader 0 = .ok (.aload_n 0, 1) := by decide +kernel
theorem dX8_reader_1 : decode cX8_reader 1 = .ok (.getfield 10, 3) := by decide +kernel
theorem dX8_reader_4 : decode cX8_reader 4 = .ok (.iload_n 1, 1) := by decide +kernel
theorem dX8_reader_5 : decode cX8_reader 5 = .ok (.invokevirtual 159, 3) := by decide +kernel
theorem dX8_reader_8 : decode cX8_reader 8 = .ok (.ifCond .ne 5, 3) := by decide +kernel
theorem dX8_reader_11 : decode cX8_reader 11 = .ok (.iconst (-1), 1) := by decide +kernel
theorem dX8_reader_12 : decode cX8_reader 12 = .ok (.ireturn, 1) := by decide +kernel
theorem dX8_reader_13 : decode cX8_reader 13 = .ok (.iload_n 2, 1) := by decide +kernel
theorem dX8_reader_14 : decode cX8_reader 14 = .ok (.tableswitch 146 0 5 #[38, 48, 58, 68, 78, 112], 38) := by decide +kernel
theorem dX8_reader_52 : decode cX8_reader 52 = .ok (.aload_n 0, 1) := by decide +kernel
theorem dX8_reader_53 : decode cX8_reader 53 = .ok (.getfield 10, 3) := by decide +kernel
theorem dX8_reader_56 : decode cX8_reader 56 = .ok (.getfield 162, 3) := by decide +kernel
theorem dX8_reader_59 : decode cX8_reader 59 = .ok (.iload_n 1, 1) := by decide +kernel
theorem dX8_reader_60 : decode cX8_reader 60 = .ok (.iaload, 1) := by decide +kernel
theorem dX8_reader_61 : decode cX8_reader 61 = .ok (.ireturn, 1) := by decide +kernel
theorem dX8_reader_62 : decode cX8_reader 62 = .ok (.aload_n 0, 1) := by decide +kernel
theorem dX8_reader_63 : decode cX8_reader 63 = .ok (.getfield 10, 3) := by decide +kernel
theorem dX8_reader_66 : decode cX8_reader 66 = .ok (.getfield 165, 3) := by decide +kernel
theorem dX8_reader_69 : decode cX8_reader 69 = .ok (.iload_n 1, 1) := by decide +kernel
theorem dX8_reader_70 : decode cX8_reader 70 = .ok (.iaload, 1) := by decide +kernel
theorem dX8_reader_71 : decode cX8_reader 71 = .ok (.ireturn, 1) := by decide +kernel
theorem dX8_reader_72 : decode cX8_reader 72 = .ok (.aload_n 0, 1) := by decide +kernel
theorem dX8_reader_73 : decode cX8_reader 73 = .ok (.getfield 10, 3) := by decide +kernel
theorem dX8_reader_76 : decode cX8_reader 76 = .ok (.getfield 168, 3) := by decide +kernel
theorem dX8_reader_79 : decode cX8_reader 79 = .ok (.iload_n 1, 1) := by decide +kernel
theorem dX8_reader_80 : decode cX8_reader 80 = .ok (.iaload, 1) := by decide +kernel
theorem dX8_reader_81 : decode cX8_reader 81 = .ok (.ireturn, 1) := by decide +kernel
theorem dX8_reader_82 : decode cX8_reader 82 = .ok (.aload_n 0, 1) := by decide +kernel
theorem dX8_reader_83 : decode cX8_reader 83 = .ok (.getfield 10, 3) := by decide +kernel
theorem dX8_reader_86 : decode cX8_reader 86 = .ok (.getfield 171, 3) := by decide +kernel
theorem dX8_reader_89 : decode cX8_reader 89 = .ok (.iload_n 1, 1) := by decide +kernel
theorem dX8_reader_90 : decode cX8_reader 90 = .ok (.iaload, 1) := by decide +kernel
theorem dX8_reader_91 : decode cX8_reader 91 = .ok (.ireturn, 1) := by decide +kernel
theorem dX8_reader_92 : decode cX8_reader 92 = .ok (.aload_n 0, 1) := by decide +kernel
theorem dX8_reader_93 : decode cX8_reader 93 = .ok (.getfield 10, 3) := by decide +kernel
theorem dX8_reader_96 : decode cX8_reader 96 = .ok (.iload_n 1, 1) := by decide +kernel
theorem dX8_reader_97 : decode cX8_reader 97 = .ok (.invokevirtual 174, 3) := by decide +kernel
theorem dX8_reader_100 : decode cX8_reader 100 = .ok (.ifCond .eq 8, 3) := by decide +kernel
theorem dX8_reader_103 : decode cX8_reader 103 = .ok (.bipush (-4), 2) := by decide +kernel
theorem dX8_reader_105 : decode cX8_reader 105 = .ok (.goto 20, 3) := by decide +kernel
theorem dX8_reader_108 : decode cX8_reader 108 = .ok (.aload_n 0, 1) := by decide +kernel
theorem dX8_reader_109 : decode cX8_reader 109 = .ok (.getfield 10, 3) := by decide +kernel
theorem dX8_reader_112 : decode cX8_reader 112 = .ok (.iload_n 1, 1) := by decide +kernel
theorem dX8_reader_113 : decode cX8_reader 113 = .ok (.aload_n 0, 1) := by decide +kernel
theorem dX8_reader_114 : decode cX8_reader 114 = .ok (.getfield 10, 3) := by decide +kernel
theorem dX8_reader_117 : decode cX8_reader 117 = .ok (.getfield 165, 3) := by decide +kernel
theorem dX8_reader_120 : decode cX8_reader 120 = .ok (.iload_n 1, 1) := by decide +kernel
theorem dX8_reader_121 : decode cX8_reader 121 = .ok (.iaload, 1) := by decide +kernel
theorem dX8_reader_122 : decode cX8_reader 122 = .ok (.invokevirtual 177, 3) := by decide +kernel
theorem dX8_reader_125 : decode cX8_reader 125 = .ok (.ireturn, 1) := by decide +kernel
theorem dX8_reader_126 : decode cX8_reader 126 = .ok (.aload_n 0, 1) := by decide +kernel
theorem dX8_reader_127 : decode cX8_reader 127 = .ok (.getfield 10, 3) := by decide +kernel
theorem dX8_reader_130 : decode cX8_reader 130 = .ok (.iload_n 1, 1) := by decide +kernel
theorem dX8_reader_131 : decode cX8_reader 131 = .ok (.invokevirtual 174, 3) := by decide +kernel
theorem dX8_reader_134 : decode cX8_reader 134 = .ok (.ifCond .eq 8, 3) := by decide +kernel
theorem dX8_reader_137 : decode cX8_reader 137 = .ok (.bipush (-4), 2) := by decide +kernel
theorem dX8_reader_139 : decode cX8_reader 139 = .ok (.goto 20, 3) := by decide +kernel
theorem dX8_reader_142 : decode cX8_reader 142 = .ok (.aload_n 0, 1) := by decide +kernel
theorem dX8_reader_143 : decode cX8_reader 143 = .ok (.getfield 10, 3) := by decide +kernel
theorem dX8_reader_146 : decode cX8_reader 146 = .ok (.iload_n 1, 1) := by decide +kernel
theorem dX8_reader_147 : decode cX8_reader 147 = .ok (.aload_n 0, 1) := by decide +kernel
theorem dX8_reader_148 : decode cX8_reader 148 = .ok (.getfield 10, 3) := by decide +kernel
theorem dX8_reader_151 : decode cX8_reader 151 = .ok (.getfield 165, 3) := by decide +kernel
theorem dX8_reader_154 : decode cX8_reader 154 = .ok (.iload_n 1, 1) := by decide +kernel
theorem dX8_reader_155 : decode cX8_reader 155 = .ok (.iaload, 1) := by decide +kernel
theorem dX8_reader_156 : decode cX8_reader 156 = .ok (.invokevirtual 181, 3) := by decide +kernel
theorem dX8_reader_159 : decode cX8_reader 159 = .ok (.ireturn, 1) := by decide +kernel
theorem dX8_reader_160 : decode cX8_reader 160 = .ok (.iconst (-1), 1) := by decide +kernel
theorem dX8_reader_161 : decode cX8_reader 161 = .ok (.ireturn, 1) := by decide +kernel
theorem dX8_shelve_0 : decode cX8_shelve 0 = .ok (.aload_n 0, 1) := by decide +kernel
theorem dX8_shelve_1 : decode cX8_shelve 1 = .ok (.getfield 10, 3) := by decide +kernel
theorem dX8_shelve_4 : decode cX8_shelve 4 = .ok (.iload_n 1, 1) := by decide +kernel
theorem dX8_shelve_5 : decode cX8_shelve 5 = .ok (.invokevirtual 142, 3) := by decide +kernel
theorem dX8_shelve_8 : decode cX8_shelve 8 = .ok (.ifCond .ne 5, 3) := by decide +kernel
theorem dX8_shelve_11 : decode cX8_shelve 11 = .ok (.iconst (-1), 1) := by decide +kernel
theorem dX8_shelve_12 : decode cX8_shelve 12 = .ok (.ireturn, 1) := by decide +kernel
theorem dX8_shelve_13 : decode cX8_shelve 13 = .ok (.iload_n 2, 1) := by decide +kernel
theorem dX8_shelve_14 : decode cX8_shelve 14 = .ok (.tableswitch 111 0 2 #[26, 53, 80], 26) := by decide +kernel
theorem dX8_shelve_40 : decode cX8_shelve 40 = .ok (.iload_n 3, 1) := by decide +kernel
theorem dX8_shelve_41 : decode cX8_shelve 41 = .ok (.iconst 0, 1) := by decide +kernel
theorem dX8_shelve_42 : decode cX8_shelve 42 = .ok (.bipush 7, 2) := by decide +kernel
theorem dX8_shelve_44 : decode cX8_shelve 44 = .ok (.invokestatic 68, 3) := by decide +kernel
theorem dX8_shelve_47 : decode cX8_shelve 47 = .ok (.ifCond .eq 7, 3) := by decide +kernel
theorem dX8_shelve_50 : decode cX8_shelve 50 = .ok (.iconst (-1), 1) := by decide +kernel
theorem dX8_shelve_51 : decode cX8_shelve 51 = .ok (.goto 15, 3) := by decide +kernel
theorem dX8_shelve_54 : decode cX8_shelve 54 = .ok (.aload_n 0, 1) := by decide +kernel
theorem dX8_shelve_55 : decode cX8_shelve 55 = .ok (.getfield 10, 3) := by decide +kernel
theorem dX8_shelve_58 : decode cX8_shelve 58 = .ok (.getfield 146, 3) := by decide +kernel
theorem dX8_shelve_61 : decode cX8_shelve 61 = .ok (.iload_n 1, 1) := by decide +kernel
theorem dX8_shelve_62 : decode cX8_shelve 62 = .ok (.iload_n 3, 1) := by decide +kernel
theorem dX8_shelve_63 : decode cX8_shelve 63 = .ok (.invokestatic 184, 3) := by decide +kernel
theorem dX8_shelve_66 : decode cX8_shelve 66 = .ok (.ireturn, 1) := by decide +kernel
theorem dX8_shelve_67 : decode cX8_shelve 67 = .ok (.iload_n 3, 1) := by decide +kernel
theorem dX8_shelve_68 : decode cX8_shelve 68 = .ok (.iconst 0, 1) := by decide +kernel
theorem dX8_shelve_69 : decode cX8_shelve 69 = .ok (.bipush 9, 2) := by decide +kernel
theorem dX8_shelve_71 : decode cX8_shelve 71 = .ok (.invokestatic 68, 3) := by decide +kernel
theorem dX8_shelve_74 : decode cX8_shelve 74 = .ok (.ifCond .eq 7, 3) := by decide +kernel
theorem dX8_shelve_77 : decode cX8_shelve 77 = .ok (.iconst (-1), 1) := by decide +kernel
theorem dX8_shelve_78 : decode cX8_shelve 78 = .ok (.goto 15, 3) := by decide +kernel
theorem dX8_shelve_81 : decode cX8_shelve 81 = .ok (.aload_n 0, 1) := by decide +kernel
theorem dX8_shelve_82 : decode cX8_shelve 82 = .ok (.getfield 10, 3) := by decide +kernel
theorem dX8_shelve_85 : decode cX8_shelve 85 = .ok (.getfield 149, 3) := by decide +kernel
theorem dX8_shelve_88 : decode cX8_shelve 88 = .ok (.iload_n 1, 1) := by decide +kernel
theorem dX8_shelve_89 : decode cX8_shelve 89 = .ok (.iload_n 3, 1) := by decide +kernel
theorem dX8_shelve_90 : decode cX8_shelve 90 = .ok (.invokestatic 184, 3) := by decide +kernel
theorem dX8_shelve_93 : decode cX8_shelve 93 = .ok (.ireturn, 1) := by decide +kernel
theorem dX8_shelve_94 : decode cX8_shelve 94 = .ok (.aload_n 0, 1) := by decide +kernel
theorem dX8_shelve_95 : decode cX8_shelve 95 = .ok (.getfield 10, 3) := by decide +kernel
theorem dX8_shelve_98 : decode cX8_shelve 98 = .ok (.iload_n 3, 1) := by decide +kernel
theorem dX8_shelve_99 : decode cX8_shelve 99 = .ok (.invokevirtual 188, 3) := by decide +kernel
theorem dX8_shelve_102 : decode cX8_shelve 102 = .ok (.ifCond .eq 21, 3) := by decide +kernel
theorem dX8_shelve_105 : decode cX8_shelve 105 = .ok (.aload_n 0, 1) := by decide +kernel
theorem dX8_shelve_106 : decode cX8_shelve 106 = .ok (.getfield 10, 3) := by decide +kernel
theorem dX8_shelve_109 : decode cX8_shelve 109 = .ok (.getfield 152, 3) := by decide +kernel
theorem dX8_shelve_112 : decode cX8_shelve 112 = .ok (.iload_n 1, 1) := by decide +kernel
theorem dX8_shelve_113 : decode cX8_shelve 113 = .ok (.iload_n 3, 1) := by decide +kernel
theorem dX8_shelve_114 : decode cX8_shelve 114 = .ok (.invokestatic 191, 3) := by decide +kernel
theorem dX8_shelve_117 : decode cX8_shelve 117 = .ok (.invokestatic 184, 3) := by decide +kernel
theorem dX8_shelve_120 : decode cX8_shelve 120 = .ok (.goto 4, 3) := by decide +kernel
theorem dX8_shelve_123 : decode cX8_shelve 123 = .ok (.iconst (-1), 1) := by decide +kernel
theorem dX8_shelve_124 : decode cX8_shelve 124 = .ok (.ireturn, 1) := by decide +kernel
theorem dX8_shelve_125 : decode cX8_shelve 125 = .ok (.iconst (-1), 1) := by decide +kernel
theorem dX8_shelve_126 : decode cX8_shelve 126 = .ok (.ireturn, 1) := by decide +kernel
theorem dX8_alter_0 : decode cX8_alter 0 = .ok (.aload_n 0, 1) := by decide +kernel
theorem dX8_alter_1 : decode cX8_alter 1 = .ok (.getfield 10, 3) := by decide +kernel
theorem dX8_alter_4 : decode cX8_alter 4 = .ok (.iload_n 1, 1) := by decide +kernel
theorem dX8_alter_5 : decode cX8_alter 5 = .ok (.invokevirtual 159, 3) := by decide +kernel
theorem dX8_alter_8 : decode cX8_alter 8 = .ok (.ifCond .ne 5, 3) := by decide +kernel
theorem dX8_alter_11 : decode cX8_alter 11 = .ok (.iconst (-1), 1) := by decide +kernel
theorem dX8_alter_12 : decode cX8_alter 12 = .ok (.ireturn, 1) := by decide +kernel
theorem dX8_alter_13 : decode cX8_alter 13 = .ok (.iload_n 2, 1) := by decide +kernel
theorem dX8_alter_14 : decode cX8_alter 14 = .ok (.tableswitch 110 0 2 #[26, 52, 83], 26) := by decide +kernel
theorem dX8_alter_40 : decode cX8_alter 40 = .ok (.iload_n 3, 1) := by decide +kernel
theorem dX8_alter_41 : decode cX8_alter 41 = .ok (.iconst 0, 1) := by decide +kernel
theorem dX8_alter_42 : decode cX8_alter 42 = .ok (.iconst 3, 1) := by decide +kernel
theorem dX8_alter_43 : decode cX8_alter 43 = .ok (.invokestatic 68, 3) := by decide +kernel
theorem dX8_alter_46 : decode cX8_alter 46 = .ok (.ifCond .eq 7, 3) := by decide +kernel
theorem dX8_alter_49 : decode cX8_alter 49 = .ok (.iconst (-1), 1) := by decide +kernel
theorem dX8_alter_50 : decode cX8_alter 50 = .ok (.goto 15, 3) := by decide +kernel
theorem dX8_alter_53 : decode cX8_alter 53 = .ok (.aload_n 0, 1) := by decide +kernel
theorem dX8_alter_54 : decode cX8_alter 54 = .ok (.getfield 10, 3) := by decide +kernel
theorem dX8_alter_57 : decode cX8_alter 57 = .ok (.getfield 162, 3) := by decide +kernel
theorem dX8_alter_60 : decode cX8_alter 60 = .ok (.iload_n 1, 1) := by decide +kernel
theorem dX8_alter_61 : decode cX8_alter 61 = .ok (.iload_n 3, 1) := by decide +kernel
theorem dX8_alter_62 : decode cX8_alter 62 = .ok (.invokestatic 184, 3) := by decide +kernel
theorem dX8_alter_65 : decode cX8_alter 65 = .ok (.ireturn, 1) := by decide +kernel
theorem dX8_alter_66 : decode cX8_alter 66 = .ok (.aload_n 0, 1) := by decide +kernel
theorem dX8_alter_67 : decode cX8_alter 67 = .ok (.getfield 10, 3) := by decide +kernel
theorem dX8_alter_70 : decode cX8_alter 70 = .ok (.iload_n 3, 1) := by decide +kernel
theorem dX8_alter_71 : decode cX8_alter 71 = .ok (.invokevirtual 188, 3) := by decide +kernel
theorem dX8_alter_74 : decode cX8_alter 74 = .ok (.ifCond .eq 21, 3) := by decide +kernel
theorem dX8_alter_77 : decode cX8_alter 77 = .ok (.aload_n 0, 1) := by decide +kernel
theorem dX8_alter_78 : decode cX8_alter 78 = .ok (.getfield 10, 3) := by decide +kernel
theorem dX8_alter_81 : decode cX8_alter 81 = .ok (.getfield 165, 3) := by decide +kernel
theorem dX8_alter_84 : decode cX8_alter 84 = .ok (.iload_n 1, 1) := by decide +kernel
theorem dX8_alter_85 : decode cX8_alter 85 = .ok (.iload_n 3, 1) := by decide +kernel
theorem dX8_alter_86 : decode cX8_alter 86 = .ok (.invokestatic 191, 3) := by decide +kernel
theorem dX8_alter_89 : decode cX8_alter 89 = .ok (.invokestatic 184, 3) := by decide +kernel
theorem dX8_alter_92 : decode cX8_alter 92 = .ok (.goto 4, 3) := by decide +kernel
theorem dX8_alter_95 : decode cX8_alter 95 = .ok (.iconst (-1), 1) := by decide +kernel
theorem dX8_alter_96 : decode cX8_alter 96 = .ok (.ireturn, 1) := by decide +kernel
theorem dX8_alter_97 : decode cX8_alter 97 = .ok (.iload_n 3, 1) := by decide +kernel
theorem dX8_alter_98 : decode cX8_alter 98 = .ok (.iconst 1, 1) := by decide +kernel
theorem dX8_alter_99 : decode cX8_alter 99 = .ok (.bipush 99, 2) := by decide +kernel
theorem dX8_alter_101 : decode cX8_alter 101 = .ok (.invokestatic 68, 3) := by decide +kernel
theorem dX8_alter_104 : decode cX8_alter 104 = .ok (.ifCond .eq 7, 3) := by decide +kernel
theorem dX8_alter_107 : decode cX8_alter 107 = .ok (.iconst (-1), 1) := by decide +kernel
theorem dX8_alter_108 : decode cX8_alter 108 = .ok (.goto 15, 3) := by decide +kernel
theorem dX8_alter_111 : decode cX8_alter 111 = .ok (.aload_n 0, 1) := by decide +kernel
theorem dX8_alter_112 : decode cX8_alter 112 = .ok (.getfield 10, 3) := by decide +kernel
theorem dX8_alter_115 : decode cX8_alter 115 = .ok (.getfield 168, 3) := by decide +kernel
theorem dX8_alter_118 : decode cX8_alter 118 = .ok (.iload_n 1, 1) := by decide +kernel
theorem dX8_alter_119 : decode cX8_alter 119 = .ok (.iload_n 3, 1) := by decide +kernel
theorem dX8_alter_120 : decode cX8_alter 120 = .ok (.invokestatic 184, 3) := by decide +kernel
theorem dX8_alter_123 : decode cX8_alter 123 = .ok (.ireturn, 1) := by decide +kernel
theorem dX8_alter_124 : decode cX8_alter 124 = .ok (.iconst (-1), 1) := by decide +kernel
theorem dX8_alter_125 : decode cX8_alter 125 = .ok (.ireturn, 1) := by decide +kernel
theorem dX8_roll_0 : decode cX8_roll 0 = .ok (.iload_n 1, 1) := by decide +kernel
theorem dX8_roll_1 : decode cX8_roll 1 = .ok (.iconst 0, 1) := by decide +kernel
theorem dX8_roll_2 : decode cX8_roll 2 = .ok (.bipush 7, 2) := by decide +kernel
theorem dX8_roll_4 : decode cX8_roll 4 = .ok (.invokestatic 68, 3) := by decide +kernel
theorem dX8_roll_7 : decode cX8_roll 7 = .ok (.ifCond .eq 5, 3) := by decide +kernel
theorem dX8_roll_10 : decode cX8_roll 10 = .ok (.iconst (-1), 1) := by decide +kernel
theorem dX8_roll_11 : decode cX8_roll 11 = .ok (.ireturn, 1) := by decide +kernel
theorem dX8_roll_12 : decode cX8_roll 12 = .ok (.aload_n 0, 1) := by decide +kernel
theorem dX8_roll_13 : decode cX8_roll 13 = .ok (.getfield 10, 3) := by decide +kernel
theorem dX8_roll_16 : decode cX8_roll 16 = .ok (.getfield 129, 3) := by decide +kernel
theorem dX8_roll_19 : decode cX8_roll 19 = .ok (.istore_n 2, 1) := by decide +kernel
theorem dX8_roll_20 : decode cX8_roll 20 = .ok (.aload_n 0, 1) := by decide +kernel
theorem dX8_roll_21 : decode cX8_roll 21 = .ok (.getfield 10, 3) := by decide +kernel
theorem dX8_roll_24 : decode cX8_roll 24 = .ok (.iload_n 1, 1) := by decide +kernel
theorem dX8_roll_25 : decode cX8_roll 25 = .ok (.putfield 129, 3) := by decide +kernel
theorem dX8_roll_28 : decode cX8_roll 28 = .ok (.iload_n 2, 1) := by decide +kernel
theorem dX8_roll_29 : decode cX8_roll 29 = .ok (.ireturn, 1) := by decide +kernel
theorem dX8_forgets_0 : decode cX8_forgets 0 = .ok (.aload_n 0, 1) := by decide +kernel
theorem dX8_forgets_1 : decode cX8_forgets 1 = .ok (.getfield 10, 3) := by decide +kernel
theorem dX8_forgets_4 : decode cX8_forgets 4 = .ok (.iload_n 1, 1) := by decide +kernel
theorem dX8_forgets_5 : decode cX8_forgets 5 = .ok (.invokevirtual 159, 3) := by decide +kernel
theorem dX8_forgets_8 : decode cX8_forgets 8 = .ok (.ifCond .ne 5, 3) := by decide +kernel
theorem dX8_forgets_11 : decode cX8_forgets 11 = .ok (.iconst (-1), 1) := by decide +kernel
theorem dX8_forgets_12 : decode cX8_forgets 12 = .ok (.ireturn, 1) := by decide +kernel
theorem dX8_forgets_13 : decode cX8_forgets 13 = .ok (.aload_n 0, 1) := by decide +kernel
theorem dX8_forgets_14 : decode cX8_forgets 14 = .ok (.getfield 10, 3) := by decide +kernel
theorem dX8_forgets_17 : decode cX8_forgets 17 = .ok (.getfield 171, 3) := by decide +kernel
theorem dX8_forgets_20 : decode cX8_forgets 20 = .ok (.iload_n 1, 1) := by decide +kernel
theorem dX8_forgets_21 : decode cX8_forgets 21 = .ok (.iconst 0, 1) := by decide +kernel
theorem dX8_forgets_22 : decode cX8_forgets 22 = .ok (.invokestatic 184, 3) := by decide +kernel
theorem dX8_forgets_25 : decode cX8_forgets 25 = .ok (.invokestatic 194, 3) := by decide +kernel
theorem dX8_forgets_28 : decode cX8_forgets 28 = .ok (.ireturn, 1) := by decide +kernel
theorem dX8_fetch_0 : decode cX8_fetch 0 = .ok (.aload_n 0, 1) := by decide +kernel
theorem dX8_fetch_1 : decode cX8_fetch 1 = .ok (.getfield 10, 3) := by decide +kernel
theorem dX8_fetch_4 : decode cX8_fetch 4 = .ok (.iload_n 1, 1) := by decide +kernel
theorem dX8_fetch_5 : decode cX8_fetch 5 = .ok (.iload_n 2, 1) := by decide +kernel
theorem dX8_fetch_6 : decode cX8_fetch 6 = .ok (.invokevirtual 199, 3) := by decide +kernel
theorem dX8_fetch_9 : decode cX8_fetch 9 = .ok (.istore_n 3, 1) := by decide +kernel
theorem dX8_fetch_10 : decode cX8_fetch 10 = .ok (.iload_n 3, 1) := by decide +kernel
theorem dX8_fetch_11 : decode cX8_fetch 11 = .ok (.ifCond .ne 15, 3) := by decide +kernel
theorem dX8_fetch_14 : decode cX8_fetch 14 = .ok (.aload_n 0, 1) := by decide +kernel
theorem dX8_fetch_15 : decode cX8_fetch 15 = .ok (.getfield 10, 3) := by decide +kernel
theorem dX8_fetch_18 : decode cX8_fetch 18 = .ok (.iload_n 1, 1) := by decide +kernel
theorem dX8_fetch_19 : decode cX8_fetch 19 = .ok (.iload_n 2, 1) := by decide +kernel
theorem dX8_fetch_20 : decode cX8_fetch 20 = .ok (.invokevirtual 202, 3) := by decide +kernel
theorem dX8_fetch_23 : decode cX8_fetch 23 = .ok (.goto 4, 3) := by decide +kernel
theorem dX8_fetch_26 : decode cX8_fetch 26 = .ok (.iload_n 3, 1) := by decide +kernel
theorem dX8_fetch_27 : decode cX8_fetch 27 = .ok (.ireturn, 1) := by decide +kernel
theorem dX8_days_0 : decode cX8_days 0 = .ok (.iload_n 1, 1) := by decide +kernel
theorem dX8_days_1 : decode cX8_days 1 = .ok (.iconst 0, 1) := by decide +kernel
theorem dX8_days_2 : decode cX8_days 2 = .ok (.bipush 30, 2) := by decide +kernel
theorem dX8_days_4 : decode cX8_days 4 = .ok (.invokestatic 68, 3) := by decide +kernel
theorem dX8_days_7 : decode cX8_days 7 = .ok (.ifCond .eq 5, 3) := by decide +kernel
theorem dX8_days_10 : decode cX8_days 10 = .ok (.iconst (-1), 1) := by decide +kernel
theorem dX8_days_11 : decode cX8_days 11 = .ok (.ireturn, 1) := by decide +kernel
theorem dX8_days_12 : decode cX8_days 12 = .ok (.aload_n 0, 1) := by decide +kernel
theorem dX8_days_13 : decode cX8_days 13 = .ok (.getfield 10, 3) := by decide +kernel
theorem dX8_days_16 : decode cX8_days 16 = .ok (.getfield 135, 3) := by decide +kernel
theorem dX8_days_19 : decode cX8_days 19 = .ok (.iload_n 1, 1) := by decide +kernel
theorem dX8_days_20 : decode cX8_days 20 = .ok (.iadd, 1) := by decide +kernel
theorem dX8_days_21 : decode cX8_days 21 = .ok (.sipush 999, 3) := by decide +kernel
theorem dX8_days_24 : decode cX8_days 24 = .ok (.if_icmp .le 6, 3) := by decide +kernel
theorem dX8_days_27 : decode cX8_days 27 = .ok (.bipush (-3), 2) := by decide +kernel
theorem dX8_days_29 : decode cX8_days 29 = .ok (.ireturn, 1) := by decide +kernel
theorem dX8_days_30 : decode cX8_days 30 = .ok (.aload_n 0, 1) := by decide +kernel
theorem dX8_days_31 : decode cX8_days 31 = .ok (.invokevirtual 205, 3) := by decide +kernel
theorem dX8_days_34 : decode cX8_days 34 = .ok (.aload_n 0, 1) := by decide +kernel
theorem dX8_days_35 : decode cX8_days 35 = .ok (.getfield 16, 3) := by decide +kernel
theorem dX8_days_38 : decode cX8_days 38 = .ok (.iload_n 1, 1) := by decide +kernel
theorem dX8_days_39 : decode cX8_days 39 = .ok (.invokevirtual 208, 3) := by decide +kernel
theorem dX8_days_42 : decode cX8_days 42 = .ok (.aload_n 0, 1) := by decide +kernel
theorem dX8_days_43 : decode cX8_days 43 = .ok (.getfield 16, 3) := by decide +kernel
theorem dX8_days_46 : decode cX8_days 46 = .ok (.getfield 132, 3) := by decide +kernel
theorem dX8_days_49 : decode cX8_days 49 = .ok (.sipush 9999, 3) := by decide +kernel
theorem dX8_days_52 : decode cX8_days 52 = .ok (.if_icmp .le 6, 3) := by decide +kernel
theorem dX8_days_55 : decode cX8_days 55 = .ok (.bipush (-3), 2) := by decide +kernel
theorem dX8_days_57 : decode cX8_days 57 = .ok (.ireturn, 1) := by decide +kernel
theorem dX8_days_58 : decode cX8_days 58 = .ok (.aload_n 0, 1) := by decide +kernel
theorem dX8_days_59 : decode cX8_days 59 = .ok (.getfield 16, 3) := by decide +kernel
theorem dX8_days_62 : decode cX8_days 62 = .ok (.getfield 212, 3) := by decide +kernel
theorem dX8_days_65 : decode cX8_days 65 = .ok (.istore_n 2, 1) := by decide +kernel
theorem dX8_days_66 : decode cX8_days 66 = .ok (.aload_n 0, 1) := by decide +kernel
theorem dX8_days_67 : decode cX8_days 67 = .ok (.getfield 10, 3) := by decide +kernel
theorem dX8_days_70 : decode cX8_days 70 = .ok (.aload_n 0, 1) := by decide +kernel
theorem dX8_days_71 : decode cX8_days 71 = .ok (.getfield 16, 3) := by decide +kernel
theorem dX8_days_74 : decode cX8_days 74 = .ok (.invokevirtual 109, 3) := by decide +kernel
theorem dX8_days_77 : decode cX8_days 77 = .ok (.iload_n 2, 1) := by decide +kernel
theorem dX8_days_78 : decode cX8_days 78 = .ok (.ireturn, 1) := by decide +kernel
theorem dX8_runs_0 : decode cX8_runs 0 = .ok (.iload_n 1, 1) := by decide +kernel
theorem dX8_runs_1 : decode cX8_runs 1 = .ok (.iconst 0, 1) := by decide +kernel
theorem dX8_runs_2 : decode cX8_runs 2 = .ok (.bipush 60, 2) := by decide +kernel
theorem dX8_runs_4 : decode cX8_runs 4 = .ok (.invokestatic 68, 3) := by decide +kernel
theorem dX8_runs_7 : decode cX8_runs 7 = .ok (.ifCond .ne 12, 3) := by decide +kernel
theorem dX8_runs_10 : decode cX8_runs 10 = .ok (.iload_n 2, 1) := by decide +kernel
theorem dX8_runs_11 : decode cX8_runs 11 = .ok (.iconst 0, 1) := by decide +kernel
theorem dX8_runs_12 : decode cX8_runs 12 = .ok (.iconst 3, 1) := by decide +kernel
theorem dX8_runs_13 : decode cX8_runs 13 = .ok (.invokestatic 68, 3) := by decide +kernel
theorem dX8_runs_16 : decode cX8_runs 16 = .ok (.ifCond .eq 5, 3) := by decide +kernel
theorem dX8_runs_19 : decode cX8_runs 19 = .ok (.iconst (-1), 1) := by decide +kernel
theorem dX8_runs_20 : decode cX8_runs 20 = .ok (.ireturn, 1) := by decide +kernel
theorem dX8_runs_21 : decode cX8_runs 21 = .ok (.aload_n 0, 1) := by decide +kernel
theorem dX8_runs_22 : decode cX8_runs 22 = .ok (.invokevirtual 205, 3) := by decide +kernel
theorem dX8_runs_25 : decode cX8_runs 25 = .ok (.iload_n 2, 1) := by decide +kernel
theorem dX8_runs_26 : decode cX8_runs 26 = .ok (.iconst 3, 1) := by decide +kernel
theorem dX8_runs_27 : decode cX8_runs 27 = .ok (.if_icmp .ne 9, 3) := by decide +kernel
theorem dX8_runs_30 : decode cX8_runs 30 = .ok (.aload_n 0, 1) := by decide +kernel
theorem dX8_runs_31 : decode cX8_runs 31 = .ok (.iload_n 1, 1) := by decide +kernel
theorem dX8_runs_32 : decode cX8_runs 32 = .ok (.invokevirtual 215, 3) := by decide +kernel
theorem dX8_runs_35 : decode cX8_runs 35 = .ok (.ireturn, 1) := by decide +kernel
theorem dX8_runs_36 : decode cX8_runs 36 = .ok (.aload_n 0, 1) := by decide +kernel
theorem dX8_runs_37 : decode cX8_runs 37 = .ok (.getfield 16, 3) := by decide +kernel
theorem dX8_runs_40 : decode cX8_runs 40 = .ok (.iload_n 1, 1) := by decide +kernel
theorem dX8_runs_41 : decode cX8_runs 41 = .ok (.invokevirtual 208, 3) := by decide +kernel
theorem dX8_runs_44 : decode cX8_runs 44 = .ok (.iload_n 2, 1) := by decide +kernel
theorem dX8_runs_45 : decode cX8_runs 45 = .ok (.lookupswitch 40 #[(0, 27), (1, 35)], 27) := by decide +kernel
theorem dX8_runs_72 : decode cX8_runs 72 = .ok (.aload_n 0, 1) := by decide +kernel
theorem dX8_runs_73 : decode cX8_runs 73 = .ok (.getfield 16, 3) := by decide +kernel
theorem dX8_runs_76 : decode cX8_runs 76 = .ok (.getfield 212, 3) := by decide +kernel
theorem dX8_runs_79 : decode cX8_runs 79 = .ok (.ireturn, 1) := by decide +kernel
theorem dX8_runs_80 : decode cX8_runs 80 = .ok (.aload_n 0, 1) := by decide +kernel
theorem dX8_runs_81 : decode cX8_runs 81 = .ok (.invokevirtual 218, 3) := by decide +kernel
theorem dX8_runs_84 : decode cX8_runs 84 = .ok (.ireturn, 1) := by decide +kernel
theorem dX8_runs_85 : decode cX8_runs 85 = .ok (.aload_n 0, 1) := by decide +kernel
theorem dX8_runs_86 : decode cX8_runs 86 = .ok (.getfield 16, 3) := by decide +kernel
theorem dX8_runs_89 : decode cX8_runs 89 = .ok (.getfield 221, 3) := by decide +kernel
theorem dX8_runs_92 : decode cX8_runs 92 = .ok (.ireturn, 1) := by decide +kernel
theorem dX8_ahead_0 : decode cX8_ahead 0 = .ok (.aload_n 0, 1) := by decide +kernel
theorem dX8_ahead_1 : decode cX8_ahead 1 = .ok (.getfield 10, 3) := by decide +kernel
theorem dX8_ahead_4 : decode cX8_ahead 4 = .ok (.iload_n 1, 1) := by decide +kernel
theorem dX8_ahead_5 : decode cX8_ahead 5 = .ok (.invokevirtual 159, 3) := by decide +kernel
theorem dX8_ahead_8 : decode cX8_ahead 8 = .ok (.ifCond .eq 22, 3) := by decide +kernel
theorem dX8_ahead_11 : decode cX8_ahead 11 = .ok (.iload_n 2, 1) := by decide +kernel
theorem dX8_ahead_12 : decode cX8_ahead 12 = .ok (.iconst 0, 1) := by decide +kernel
theorem dX8_ahead_13 : decode cX8_ahead 13 = .ok (.bipush 60, 2) := by decide +kernel
theorem dX8_ahead_15 : decode cX8_ahead 15 = .ok (.invokestatic 68, 3) := by decide +kernel
theorem dX8_ahead_18 : decode cX8_ahead 18 = .ok (.ifCond .ne 12, 3) := by decide +kernel
theorem dX8_ahead_21 : decode cX8_ahead 21 = .ok (.iload_n 3, 1) := by decide +kernel
theorem dX8_ahead_22 : decode cX8_ahead 22 = .ok (.iconst 0, 1) := by decide +kernel
theorem dX8_ahead_23 : decode cX8_ahead 23 = .ok (.iconst 1, 1) := by decide +kernel
theorem dX8_ahead_24 : decode cX8_ahead 24 = .ok (.invokestatic 68, 3) := by decide +kernel
theorem dX8_ahead_27 : decode cX8_ahead 27 = .ok (.ifCond .eq 5, 3) := by decide +kernel
theorem dX8_ahead_30 : decode cX8_ahead 30 = .ok (.iconst (-1), 1) := by decide +kernel
theorem dX8_ahead_31 : decode cX8_ahead 31 = .ok (.ireturn, 1) := by decide +kernel
theorem dX8_ahead_32 : decode cX8_ahead 32 = .ok (.aload_n 0, 1) := by decide +kernel
theorem dX8_ahead_33 : decode cX8_ahead 33 = .ok (.invokevirtual 205, 3) := by decide +kernel
theorem dX8_ahead_36 : decode cX8_ahead 36 = .ok (.aload_n 0, 1) := by decide +kernel
theorem dX8_ahead_37 : decode cX8_ahead 37 = .ok (.getfield 16, 3) := by decide +kernel
theorem dX8_ahead_40 : decode cX8_ahead 40 = .ok (.iload_n 1, 1) := by decide +kernel
theorem dX8_ahead_41 : decode cX8_ahead 41 = .ok (.iload_n 2, 1) := by decide +kernel
theorem dX8_ahead_42 : decode cX8_ahead 42 = .ok (.invokevirtual 224, 3) := by decide +kernel
theorem dX8_ahead_45 : decode cX8_ahead 45 = .ok (.iload_n 3, 1) := by decide +kernel
theorem dX8_ahead_46 : decode cX8_ahead 46 = .ok (.ifCond .ne 15, 3) := by decide +kernel
theorem dX8_ahead_49 : decode cX8_ahead 49 = .ok (.aload_n 0, 1) := by decide +kernel
theorem dX8_ahead_50 : decode cX8_ahead 50 = .ok (.getfield 16, 3) := by decide +kernel
theorem dX8_ahead_53 : decode cX8_ahead 53 = .ok (.getfield 165, 3) := by decide +kernel
theorem dX8_ahead_56 : decode cX8_ahead 56 = .ok (.iload_n 1, 1) := by decide +kernel
theorem dX8_ahead_57 : decode cX8_ahead 57 = .ok (.iaload, 1) := by decide +kernel
theorem dX8_ahead_58 : decode cX8_ahead 58 = .ok (.goto 12, 3) := by decide +kernel
theorem dX8_ahead_61 : decode cX8_ahead 61 = .ok (.aload_n 0, 1) := by decide +kernel
theorem dX8_ahead_62 : decode cX8_ahead 62 = .ok (.getfield 16, 3) := by decide +kernel
theorem dX8_ahead_65 : decode cX8_ahead 65 = .ok (.getfield 171, 3) := by decide +kernel
theorem dX8_ahead_68 : decode cX8_ahead 68 = .ok (.iload_n 1, 1) := by decide +kernel
theorem dX8_ahead_69 : decode cX8_ahead 69 = .ok (.iaload, 1) := by decide +kernel
theorem dX8_ahead_70 : decode cX8_ahead 70 = .ok (.ireturn, 1) := by decide +kernel
theorem dX8_done_0 : decode cX8_done 0 = .ok (.aload_n 0, 1) := by decide +kernel
theorem dX8_done_1 : decode cX8_done 1 = .ok (.getfield 10, 3) := by decide +kernel
theorem dX8_done_4 : decode cX8_done 4 = .ok (.iload_n 1, 1) := by decide +kernel
theorem dX8_done_5 : decode cX8_done 5 = .ok (.invokevirtual 159, 3) := by decide +kernel
theorem dX8_done_8 : decode cX8_done 8 = .ok (.ifCond .ne 5, 3) := by decide +kernel
theorem dX8_done_11 : decode cX8_done 11 = .ok (.iconst (-1), 1) := by decide +kernel
theorem dX8_done_12 : decode cX8_done 12 = .ok (.ireturn, 1) := by decide +kernel
theorem dX8_done_13 : decode cX8_done 13 = .ok (.aload_n 0, 1) := by decide +kernel
theorem dX8_done_14 : decode cX8_done 14 = .ok (.invokevirtual 205, 3) := by decide +kernel
theorem dX8_done_17 : decode cX8_done 17 = .ok (.aload_n 0, 1) := by decide +kernel
theorem dX8_done_18 : decode cX8_done 18 = .ok (.getfield 16, 3) := by decide +kernel
theorem dX8_done_21 : decode cX8_done 21 = .ok (.iload_n 1, 1) := by decide +kernel
theorem dX8_done_22 : decode cX8_done 22 = .ok (.bipush 60, 2) := by decide +kernel
theorem dX8_done_24 : decode cX8_done 24 = .ok (.invokevirtual 228, 3) := by decide +kernel
theorem dX8_done_27 : decode cX8_done 27 = .ok (.ireturn, 1) := by decide +kernel
theorem dX8_vertigo_0 : decode cX8_vertigo 0 = .ok (.aload_n 0, 1) := by decide +kernel
theorem dX8_vertigo_1 : decode cX8_vertigo 1 = .ok (.getfield 10, 3) := by decide +kernel
theorem dX8_vertigo_4 : decode cX8_vertigo 4 = .ok (.iload_n 1, 1) := by decide +kernel
theorem dX8_vertigo_5 : decode cX8_vertigo 5 = .ok (.invokevirtual 159, 3) := by decide +kernel
theorem dX8_vertigo_8 : decode cX8_vertigo 8 = .ok (.ifCond .ne 5, 3) := by decide +kernel
theorem dX8_vertigo_11 : decode cX8_vertigo 11 = .ok (.iconst (-1), 1) := by decide +kernel
theorem dX8_vertigo_12 : decode cX8_vertigo 12 = .ok (.ireturn, 1) := by decide +kernel
theorem dX8_vertigo_13 : decode cX8_vertigo 13 = .ok (.aload_n 0, 1) := by decide +kernel
theorem dX8_vertigo_14 : decode cX8_vertigo 14 = .ok (.invokevirtual 205, 3) := by decide +kernel
theorem dX8_vertigo_17 : decode cX8_vertigo 17 = .ok (.aload_n 0, 1) := by decide +kernel
theorem dX8_vertigo_18 : decode cX8_vertigo 18 = .ok (.getfield 16, 3) := by decide +kernel
theorem dX8_vertigo_21 : decode cX8_vertigo 21 = .ok (.iload_n 1, 1) := by decide +kernel
theorem dX8_vertigo_22 : decode cX8_vertigo 22 = .ok (.invokevirtual 231, 3) := by decide +kernel
theorem dX8_vertigo_25 : decode cX8_vertigo 25 = .ok (.ireturn, 1) := by decide +kernel
theorem dX8_order_0 : decode cX8_order 0 = .ok (.iload_n 1, 1) := by decide +kernel
theorem dX8_order_1 : decode cX8_order 1 = .ok (.ifCond .eq 24, 3) := by decide +kernel
theorem dX8_order_4 : decode cX8_order 4 = .ok (.iload_n 1, 1) := by decide +kernel
theorem dX8_order_5 : decode cX8_order 5 = .ok (.bipush 10, 2) := by decide +kernel
theorem dX8_order_7 : decode cX8_order 7 = .ok (.bipush 9, 2) := by decide +kernel
theorem dX8_order_9 : decode cX8_order 9 = .ok (.aload_n 0, 1) := by decide +kernel
theorem dX8_order_10 : decode cX8_order 10 = .ok (.getfield 10, 3) := by decide +kernel
theorem dX8_order_13 : decode cX8_order 13 = .ok (.getfield 126, 3) := by decide +kernel
theorem dX8_order_16 : decode cX8_order 16 = .ok (.iadd, 1) := by decide +kernel
theorem dX8_order_17 : decode cX8_order 17 = .ok (.invokestatic 68, 3) := by decide +kernel
theorem dX8_order_20 : decode cX8_order 20 = .ok (.ifCond .eq 5, 3) := by decide +kernel
theorem dX8_order_23 : decode cX8_order 23 = .ok (.iconst (-1), 1) := by decide +kernel
theorem dX8_order_24 : decode cX8_order 24 = .ok (.ireturn, 1) := by decide +kernel
theorem dX8_order_25 : decode cX8_order 25 = .ok (.aload_n 0, 1) := by decide +kernel
theorem dX8_order_26 : decode cX8_order 26 = .ok (.invokevirtual 234, 3) := by decide +kernel
theorem dX8_order_29 : decode cX8_order 29 = .ok (.istore_n 2, 1) := by decide +kernel
theorem dX8_order_30 : decode cX8_order 30 = .ok (.iload_n 1, 1) := by decide +kernel
theorem dX8_order_31 : decode cX8_order 31 = .ok (.ifCond .ne 7, 3) := by decide +kernel
theorem dX8_order_34 : decode cX8_order 34 = .ok (.iload_n 2, 1) := by decide +kernel
theorem dX8_order_35 : decode cX8_order 35 = .ok (.goto 12, 3) := by decide +kernel
theorem dX8_order_38 : decode cX8_order 38 = .ok (.aload_n 0, 1) := by decide +kernel
theorem dX8_order_39 : decode cX8_order 39 = .ok (.getfield 49, 3) := by decide +kernel
theorem dX8_order_42 : decode cX8_order 42 = .ok (.iload_n 1, 1) := by decide +kernel
theorem dX8_order_43 : decode cX8_order 43 = .ok (.bipush 10, 2) := by decide +kernel
theorem dX8_order_45 : decode cX8_order 45 = .ok (.isub, 1) := by decide +kernel
theorem dX8_order_46 : decode cX8_order 46 = .ok (.iaload, 1) := by decide +kernel
theorem dX8_order_47 : decode cX8_order 47 = .ok (.ireturn, 1) := by decide +kernel
theorem dX8_start_0 : decode cX8_start 0 = .ok (.iload_n 1, 1) := by decide +kernel
theorem dX8_start_1 : decode cX8_start 1 = .ok (.iconst 0, 1) := by decide +kernel
theorem dX8_start_2 : decode cX8_start 2 = .ok (.bipush 60, 2) := by decide +kernel
theorem dX8_start_4 : decode cX8_start 4 = .ok (.invokestatic 68, 3) := by decide +kernel
theorem dX8_start_7 : decode cX8_start 7 = .ok (.ifCond .ne 12, 3) := by decide +kernel
theorem dX8_start_10 : decode cX8_start 10 = .ok (.iload_n 2, 1) := by decide +kernel
theorem dX8_start_11 : decode cX8_start 11 = .ok (.iconst 0, 1) := by decide +kernel
theorem dX8_start_12 : decode cX8_start 12 = .ok (.iconst 1, 1) := by decide +kernel
theorem dX8_start_13 : decode cX8_start 13 = .ok (.invokestatic 68, 3) := by decide +kernel
theorem dX8_start_16 : decode cX8_start 16 = .ok (.ifCond .eq 5, 3) := by decide +kernel
theorem dX8_start_19 : decode cX8_start 19 = .ok (.iconst (-1), 1) := by decide +kernel
theorem dX8_start_20 : decode cX8_start 20 = .ok (.ireturn, 1) := by decide +kernel
theorem dX8_start_21 : decode cX8_start 21 = .ok (.bipush (-4), 2) := by decide +kernel
theorem dX8_start_23 : decode cX8_start 23 = .ok (.istore_n 3, 1) := by decide +kernel
theorem dX8_start_24 : decode cX8_start 24 = .ok (.ldc 237, 2) := by decide +kernel
theorem dX8_start_26 : decode cX8_start 26 = .ok (.istore 4, 2) := by decide +kernel
theorem dX8_start_28 : decode cX8_start 28 = .ok (.iconst 0, 1) := by decide +kernel
theorem dX8_start_29 : decode cX8_start 29 = .ok (.istore 5, 2) := by decide +kernel
theorem dX8_start_31 : decode cX8_start 31 = .ok (.iload 5, 2) := by decide +kernel
theorem dX8_start_33 : decode cX8_start 33 = .ok (.bipush 7, 2) := by decide +kernel
theorem dX8_start_35 : decode cX8_start 35 = .ok (.if_icmp .gt 48, 3) := by decide +kernel
theorem dX8_start_38 : decode cX8_start 38 = .ok (.aload_n 0, 1) := by decide +kernel
theorem dX8_start_39 : decode cX8_start 39 = .ok (.invokevirtual 205, 3) := by decide +kernel
theorem dX8_start_42 : decode cX8_start 42 = .ok (.aload_n 0, 1) := by decide +kernel
theorem dX8_start_43 : decode cX8_start 43 = .ok (.getfield 16, 3) := by decide +kernel
theorem dX8_start_46 : decode cX8_start 46 = .ok (.iload 5, 2) := by decide +kernel
theorem dX8_start_48 : decode cX8_start 48 = .ok (.putfield 129, 3) := by decide +kernel
theorem dX8_start_51 : decode cX8_start 51 = .ok (.aload_n 0, 1) := by decide +kernel
theorem dX8_start_52 : decode cX8_start 52 = .ok (.getfield 16, 3) := by decide +kernel
theorem dX8_start_55 : decode cX8_start 55 = .ok (.iload_n 1, 1) := by decide +kernel
theorem dX8_start_56 : decode cX8_start 56 = .ok (.invokevirtual 238, 3) := by decide +kernel
theorem dX8_start_59 : decode cX8_start 59 = .ok (.aload_n 0, 1) := by decide +kernel
theorem dX8_start_60 : decode cX8_start 60 = .ok (.invokevirtual 218, 3) := by decide +kernel
theorem dX8_start_63 : decode cX8_start 63 = .ok (.iload 4, 2) := by decide +kernel
theorem dX8_start_65 : decode cX8_start 65 = .ok (.if_icmp .ge 12, 3) := by decide +kernel
theorem dX8_start_68 : decode cX8_start 68 = .ok (.aload_n 0, 1) := by decide +kernel
theorem dX8_start_69 : decode cX8_start 69 = .ok (.invokevirtual 218, 3) := by decide +kernel
theorem dX8_start_72 : decode cX8_start 72 = .ok (.istore 4, 2) := by decide +kernel
theorem dX8_start_74 : decode cX8_start 74 = .ok (.iload 5, 2) := by decide +kernel
theorem dX8_start_76 : decode cX8_start 76 = .ok (.istore_n 3, 1) := by decide +kernel
theorem dX8_start_77 : decode cX8_start 77 = .ok (.iinc 5 1, 3) := by decide +kernel
theorem dX8_start_80 : decode cX8_start 80 = .ok (.goto (-49), 3) := by decide +kernel
theorem dX8_start_83 : decode cX8_start 83 = .ok (.iload_n 2, 1) := by decide +kernel
theorem dX8_start_84 : decode cX8_start 84 = .ok (.ifCond .ne 7, 3) := by decide +kernel
theorem dX8_start_87 : decode cX8_start 87 = .ok (.iload_n 3, 1) := by decide +kernel
theorem dX8_start_88 : decode cX8_start 88 = .ok (.goto 5, 3) := by decide +kernel
theorem dX8_start_91 : decode cX8_start 91 = .ok (.iload 4, 2) := by decide +kernel
theorem dX8_start_93 : decode cX8_start 93 = .ok (.ireturn, 1) := by decide +kernel
theorem dX8_swap_0 : decode cX8_swap 0 = .ok (.iload_n 1, 1) := by decide +kernel
theorem dX8_swap_1 : decode cX8_swap 1 = .ok (.iconst 0, 1) := by decide +kernel
theorem dX8_swap_2 : decode cX8_swap 2 = .ok (.bipush 60, 2) := by decide +kernel
theorem dX8_swap_4 : decode cX8_swap 4 = .ok (.invokestatic 68, 3) := by decide +kernel
theorem dX8_swap_7 : decode cX8_swap 7 = .ok (.ifCond .ne 12, 3) := by decide +kernel
theorem dX8_swap_10 : decode cX8_swap 10 = .ok (.iload_n 2, 1) := by decide +kernel
theorem dX8_swap_11 : decode cX8_swap 11 = .ok (.iconst 0, 1) := by decide +kernel
theorem dX8_swap_12 : decode cX8_swap 12 = .ok (.iconst 1, 1) := by decide +kernel
theorem dX8_swap_13 : decode cX8_swap 13 = .ok (.invokestatic 68, 3) := by decide +kernel
theorem dX8_swap_16 : decode cX8_swap 16 = .ok (.ifCond .eq 5, 3) := by decide +kernel
theorem dX8_swap_19 : decode cX8_swap 19 = .ok (.iconst (-1), 1) := by decide +kernel
theorem dX8_swap_20 : decode cX8_swap 20 = .ok (.ireturn, 1) := by decide +kernel
theorem dX8_swap_21 : decode cX8_swap 21 = .ok (.aload_n 0, 1) := by decide +kernel
theorem dX8_swap_22 : decode cX8_swap 22 = .ok (.invokevirtual 205, 3) := by decide +kernel
theorem dX8_swap_25 : decode cX8_swap 25 = .ok (.aload_n 0, 1) := by decide +kernel
theorem dX8_swap_26 : decode cX8_swap 26 = .ok (.getfield 16, 3) := by decide +kernel
theorem dX8_swap_29 : decode cX8_swap 29 = .ok (.iload_n 1, 1) := by decide +kernel
theorem dX8_swap_30 : decode cX8_swap 30 = .ok (.invokevirtual 238, 3) := by decide +kernel
theorem dX8_swap_33 : decode cX8_swap 33 = .ok (.bipush (-4), 2) := by decide +kernel
theorem dX8_swap_35 : decode cX8_swap 35 = .ok (.istore_n 3, 1) := by decide +kernel
theorem dX8_swap_36 : decode cX8_swap 36 = .ok (.aload_n 0, 1) := by decide +kernel
theorem dX8_swap_37 : decode cX8_swap 37 = .ok (.getfield 16, 3) := by decide +kernel
theorem dX8_swap_40 : decode cX8_swap 40 = .ok (.getfield 212, 3) := by decide +kernel
theorem dX8_swap_43 : decode cX8_swap 43 = .ok (.istore 4, 2) := by decide +kernel
theorem dX8_swap_45 : decode cX8_swap 45 = .ok (.iconst 0, 1) := by decide +kernel
theorem dX8_swap_46 : decode cX8_swap 46 = .ok (.istore 5, 2) := by decide +kernel
theorem dX8_swap_48 : decode cX8_swap 48 = .ok (.iload 5, 2) := by decide +kernel
theorem dX8_swap_50 : decode cX8_swap 50 = .ok (.aload_n 0, 1) := by decide +kernel
theorem dX8_swap_51 : decode cX8_swap 51 = .ok (.getfield 10, 3) := by decide +kernel
theorem dX8_swap_54 : decode cX8_swap 54 = .ok (.getfield 123, 3) := by decide +kernel
theorem dX8_swap_57 : decode cX8_swap 57 = .ok (.if_icmp .ge 86, 3) := by decide +kernel
theorem dX8_swap_60 : decode cX8_swap 60 = .ok (.iload 5, 2) := by decide +kernel
theorem dX8_swap_62 : decode cX8_swap 62 = .ok (.iconst 1, 1) := by decide +kernel
theorem dX8_swap_63 : decode cX8_swap 63 = .ok (.iadd, 1) := by decide +kernel
theorem dX8_swap_64 : decode cX8_swap 64 = .ok (.istore 6, 2) := by decide +kernel
theorem dX8_swap_66 : decode cX8_swap 66 = .ok (.iload 6, 2) := by decide +kernel
theorem dX8_swap_68 : decode cX8_swap 68 = .ok (.aload_n 0, 1) := by decide +kernel
theorem dX8_swap_69 : decode cX8_swap 69 = .ok (.getfield 10, 3) := by decide +kernel
theorem dX8_swap_72 : decode cX8_swap 72 = .ok (.getfield 123, 3) := by decide +kernel
theorem dX8_swap_75 : decode cX8_swap 75 = .ok (.if_icmp .ge 62, 3) := by decide +kernel
theorem dX8_swap_78 : decode cX8_swap 78 = .ok (.aload_n 0, 1) := by decide +kernel
theorem dX8_swap_79 : decode cX8_swap 79 = .ok (.invokevirtual 205, 3) := by decide +kernel
theorem dX8_swap_82 : decode cX8_swap 82 = .ok (.aload_n 0, 1) := by decide +kernel
theorem dX8_swap_83 : decode cX8_swap 83 = .ok (.getfield 16, 3) := by decide +kernel
theorem dX8_swap_86 : decode cX8_swap 86 = .ok (.iload 5, 2) := by decide +kernel
theorem dX8_swap_88 : decode cX8_swap 88 = .ok (.iload 6, 2) := by decide +kernel
theorem dX8_swap_90 : decode cX8_swap 90 = .ok (.invokevirtual 241, 3) := by decide +kernel
theorem dX8_swap_93 : decode cX8_swap 93 = .ok (.aload_n 0, 1) := by decide +kernel
theorem dX8_swap_94 : decode cX8_swap 94 = .ok (.getfield 16, 3) := by decide +kernel
theorem dX8_swap_97 : decode cX8_swap 97 = .ok (.iload_n 1, 1) := by decide +kernel
theorem dX8_swap_98 : decode cX8_swap 98 = .ok (.invokevirtual 238, 3) := by decide +kernel
theorem dX8_swap_101 : decode cX8_swap 101 = .ok (.aload_n 0, 1) := by decide +kernel
theorem dX8_swap_102 : decode cX8_swap 102 = .ok (.getfield 16, 3) := by decide +kernel
theorem dX8_swap_105 : decode cX8_swap 105 = .ok (.getfield 212, 3) := by decide +kernel
theorem dX8_swap_108 : decode cX8_swap 108 = .ok (.iload 4, 2) := by decide +kernel
theorem dX8_swap_110 : decode cX8_swap 110 = .ok (.if_icmp .le 21, 3) := by decide +kernel
theorem dX8_swap_113 : decode cX8_swap 113 = .ok (.aload_n 0, 1) := by decide +kernel
theorem dX8_swap_114 : decode cX8_swap 114 = .ok (.getfield 16, 3) := by decide +kernel
theorem dX8_swap_117 : decode cX8_swap 117 = .ok (.getfield 212, 3) := by decide +kernel
theorem dX8_swap_120 : decode cX8_swap 120 = .ok (.istore 4, 2) := by decide +kernel
theorem dX8_swap_122 : decode cX8_swap 122 = .ok (.bipush 10, 2) := by decide +kernel
theorem dX8_swap_124 : decode cX8_swap 124 = .ok (.iload 5, 2) := by decide +kernel
theorem dX8_swap_126 : decode cX8_swap 126 = .ok (.imul, 1) := by decide +kernel
theorem dX8_swap_127 : decode cX8_swap 127 = .ok (.iload 6, 2) := by decide +kernel
theorem dX8_swap_129 : decode cX8_swap 129 = .ok (.iadd, 1) := by decide +kernel
theorem dX8_swap_130 : decode cX8_swap 130 = .ok (.istore_n 3, 1) := by decide +kernel
theorem dX8_swap_131 : decode cX8_swap 131 = .ok (.iinc 6 1, 3) := by decide +kernel
theorem dX8_swap_134 : decode cX8_swap 134 = .ok (.goto (-68), 3) := by decide +kernel
theorem dX8_swap_137 : decode cX8_swap 137 = .ok (.iinc 5 1, 3) := by decide +kernel
theorem dX8_swap_140 : decode cX8_swap 140 = .ok (.goto (-92), 3) := by decide +kernel
theorem dX8_swap_143 : decode cX8_swap 143 = .ok (.iload_n 3, 1) := by decide +kernel
theorem dX8_swap_144 : decode cX8_swap 144 = .ok (.bipush (-4), 2) := by decide +kernel
theorem dX8_swap_146 : decode cX8_swap 146 = .ok (.if_icmp .eq 7, 3) := by decide +kernel
theorem dX8_swap_149 : decode cX8_swap 149 = .ok (.iload_n 2, 1) := by decide +kernel
theorem dX8_swap_150 : decode cX8_swap 150 = .ok (.ifCond .ne 7, 3) := by decide +kernel
theorem dX8_swap_153 : decode cX8_swap 153 = .ok (.iload_n 3, 1) := by decide +kernel
theorem dX8_swap_154 : decode cX8_swap 154 = .ok (.goto 5, 3) := by decide +kernel
theorem dX8_swap_157 : decode cX8_swap 157 = .ok (.iload 4, 2) := by decide +kernel
theorem dX8_swap_159 : decode cX8_swap 159 = .ok (.ireturn, 1) := by decide +kernel
theorem dX8_knee_0 : decode cX8_knee 0 = .ok (.aload_n 0, 1) := by decide +kernel
theorem dX8_knee_1 : decode cX8_knee 1 = .ok (.getfield 10, 3) := by decide +kernel
theorem dX8_knee_4 : decode cX8_knee 4 = .ok (.iload_n 1, 1) := by decide +kernel
theorem dX8_knee_5 : decode cX8_knee 5 = .ok (.invokevirtual 159, 3) := by decide +kernel
theorem dX8_knee_8 : decode cX8_knee 8 = .ok (.ifCond .eq 12, 3) := by decide +kernel
theorem dX8_knee_11 : decode cX8_knee 11 = .ok (.iload_n 2, 1) := by decide +kernel
theorem dX8_knee_12 : decode cX8_knee 12 = .ok (.iconst 0, 1) := by decide +kernel
theorem dX8_knee_13 : decode cX8_knee 13 = .ok (.iconst 1, 1) := by decide +kernel
theorem dX8_knee_14 : decode cX8_knee 14 = .ok (.invokestatic 68, 3) := by decide +kernel
theorem dX8_knee_17 : decode cX8_knee 17 = .ok (.ifCond .eq 5, 3) := by decide +kernel
theorem dX8_knee_20 : decode cX8_knee 20 = .ok (.iconst (-1), 1) := by decide +kernel
theorem dX8_knee_21 : decode cX8_knee 21 = .ok (.ireturn, 1) := by decide +kernel
theorem dX8_knee_22 : decode cX8_knee 22 = .ok (.bipush (-4), 2) := by decide +kernel
theorem dX8_knee_24 : decode cX8_knee 24 = .ok (.istore_n 3, 1) := by decide +kernel
theorem dX8_knee_25 : decode cX8_knee 25 = .ok (.bipush 61, 2) := by decide +kernel
theorem dX8_knee_27 : decode cX8_knee 27 = .ok (.istore 4, 2) := by decide +kernel
theorem dX8_knee_29 : decode cX8_knee 29 = .ok (.iconst 0, 1) := by decide +kernel
theorem dX8_knee_30 : decode cX8_knee 30 = .ok (.istore 5, 2) := by decide +kernel
theorem dX8_knee_32 : decode cX8_knee 32 = .ok (.iload 5, 2) := by decide +kernel
theorem dX8_knee_34 : decode cX8_knee 34 = .ok (.aload_n 0, 1) := by decide +kernel
theorem dX8_knee_35 : decode cX8_knee 35 = .ok (.getfield 10, 3) := by decide +kernel
theorem dX8_knee_38 : decode cX8_knee 38 = .ok (.getfield 123, 3) := by decide +kernel
theorem dX8_knee_41 : decode cX8_knee 41 = .ok (.if_icmp .ge 57, 3) := by decide +kernel
theorem dX8_knee_44 : decode cX8_knee 44 = .ok (.aload_n 0, 1) := by decide +kernel
theorem dX8_knee_45 : decode cX8_knee 45 = .ok (.invokevirtual 205, 3) := by decide +kernel
theorem dX8_knee_48 : decode cX8_knee 48 = .ok (.aload_n 0, 1) := by decide +kernel
theorem dX8_knee_49 : decode cX8_knee 49 = .ok (.getfield 16, 3) := by decide +kernel
theorem dX8_knee_52 : decode cX8_knee 52 = .ok (.getfield 149, 3) := by decide +kernel
theorem dX8_knee_55 : decode cX8_knee 55 = .ok (.iload 5, 2) := by decide +kernel
theorem dX8_knee_57 : decode cX8_knee 57 = .ok (.iconst 0, 1) := by decide +kernel
theorem dX8_knee_58 : decode cX8_knee 58 = .ok (.iastore, 1) := by decide +kernel
theorem dX8_knee_59 : decode cX8_knee 59 = .ok (.aload_n 0, 1) := by decide +kernel
theorem dX8_knee_60 : decode cX8_knee 60 = .ok (.getfield 16, 3) := by decide +kernel
theorem dX8_knee_63 : decode cX8_knee 63 = .ok (.iload_n 1, 1) := by decide +kernel
theorem dX8_knee_64 : decode cX8_knee 64 = .ok (.bipush 60, 2) := by decide +kernel
theorem dX8_knee_66 : decode cX8_knee 66 = .ok (.invokevirtual 228, 3) := by decide +kernel
theorem dX8_knee_69 : decode cX8_knee 69 = .ok (.istore 6, 2) := by decide +kernel
theorem dX8_knee_71 : decode cX8_knee 71 = .ok (.iload 6, 2) := by decide +kernel
theorem dX8_knee_73 : decode cX8_knee 73 = .ok (.bipush (-4), 2) := by decide +kernel
theorem dX8_knee_75 : decode cX8_knee 75 = .ok (.if_icmp .eq 17, 3) := by decide +kernel
theorem dX8_knee_78 : decode cX8_knee 78 = .ok (.iload 6, 2) := by decide +kernel
theorem dX8_knee_80 : decode cX8_knee 80 = .ok (.iload 4, 2) := by decide +kernel
theorem dX8_knee_82 : decode cX8_knee 82 = .ok (.if_icmp .ge 10, 3) := by decide +kernel
theorem dX8_knee_85 : decode cX8_knee 85 = .ok (.iload 6, 2) := by decide +kernel
theorem dX8_knee_87 : decode cX8_knee 87 = .ok (.istore 4, 2) := by decide +kernel
theorem dX8_knee_89 : decode cX8_knee 89 = .ok (.iload 5, 2) := by decide +kernel
theorem dX8_knee_91 : decode cX8_knee 91 = .ok (.istore_n 3, 1) := by decide +kernel
theorem dX8_knee_92 : decode cX8_knee 92 = .ok (.iinc 5 1, 3) := by decide +kernel
theorem dX8_knee_95 : decode cX8_knee 95 = .ok (.goto (-63), 3) := by decide +kernel
theorem dX8_knee_98 : decode cX8_knee 98 = .ok (.iload_n 3, 1) := by decide +kernel
theorem dX8_knee_99 : decode cX8_knee 99 = .ok (.bipush (-4), 2) := by decide +kernel
theorem dX8_knee_101 : decode cX8_knee 101 = .ok (.if_icmp .eq 7, 3) := by decide +kernel
theorem dX8_knee_104 : decode cX8_knee 104 = .ok (.iload_n 2, 1) := by decide +kernel
theorem dX8_knee_105 : decode cX8_knee 105 = .ok (.ifCond .ne 7, 3) := by decide +kernel
theorem dX8_knee_108 : decode cX8_knee 108 = .ok (.iload_n 3, 1) := by decide +kernel
theorem dX8_knee_109 : decode cX8_knee 109 = .ok (.goto 5, 3) := by decide +kernel
theorem dX8_knee_112 : decode cX8_knee 112 = .ok (.iload 4, 2) := by decide +kernel
theorem dX8_knee_114 : decode cX8_knee 114 = .ok (.ireturn, 1) := by decide +kernel
theorem dX8_need_0 : decode cX8_need 0 = .ok (.aload_n 0, 1) := by decide +kernel
theorem dX8_need_1 : decode cX8_need 1 = .ok (.getfield 10, 3) := by decide +kernel
theorem dX8_need_4 : decode cX8_need 4 = .ok (.iload_n 1, 1) := by decide +kernel
theorem dX8_need_5 : decode cX8_need 5 = .ok (.invokevirtual 159, 3) := by decide +kernel
theorem dX8_need_8 : decode cX8_need 8 = .ok (.ifCond .eq 13, 3) := by decide +kernel
theorem dX8_need_11 : decode cX8_need 11 = .ok (.iload_n 2, 1) := by decide +kernel
theorem dX8_need_12 : decode cX8_need 12 = .ok (.iconst 0, 1) := by decide +kernel
theorem dX8_need_13 : decode cX8_need 13 = .ok (.bipush 60, 2) := by decide +kernel
theorem dX8_need_15 : decode cX8_need 15 = .ok (.invokestatic 68, 3) := by decide +kernel
theorem dX8_need_18 : decode cX8_need 18 = .ok (.ifCond .eq 5, 3) := by decide +kernel
theorem dX8_need_21 : decode cX8_need 21 = .ok (.iconst (-1), 1) := by decide +kernel
theorem dX8_need_22 : decode cX8_need 22 = .ok (.ireturn, 1) := by decide +kernel
theorem dX8_need_23 : decode cX8_need 23 = .ok (.iconst 1, 1) := by decide +kernel
theorem dX8_need_24 : decode cX8_need 24 = .ok (.istore_n 3, 1) := by decide +kernel
theorem dX8_need_25 : decode cX8_need 25 = .ok (.iload_n 3, 1) := by decide +kernel
theorem dX8_need_26 : decode cX8_need 26 = .ok (.bipush 99, 2) := by decide +kernel
theorem dX8_need_28 : decode cX8_need 28 = .ok (.if_icmp .gt 39, 3) := by decide +kernel
theorem dX8_need_31 : decode cX8_need 31 = .ok (.aload_n 0, 1) := by decide +kernel
theorem dX8_need_32 : decode cX8_need 32 = .ok (.invokevirtual 205, 3) := by decide +kernel
theorem dX8_need_35 : decode cX8_need 35 = .ok (.aload_n 0, 1) := by decide +kernel
theorem dX8_need_36 : decode cX8_need 36 = .ok (.getfield 16, 3) := by decide +kernel
theorem dX8_need_39 : decode cX8_need 39 = .ok (.getfield 168, 3) := by decide +kernel
theorem dX8_need_42 : decode cX8_need 42 = .ok (.iload_n 1, 1) := by decide +kernel
theorem dX8_need_43 : decode cX8_need 43 = .ok (.iload_n 3, 1) := by decide +kernel
theorem dX8_need_44 : decode cX8_need 44 = .ok (.iastore, 1) := by decide +kernel
theorem dX8_need_45 : decode cX8_need 45 = .ok (.aload_n 0, 1) := by decide +kernel
theorem dX8_need_46 : decode cX8_need 46 = .ok (.getfield 16, 3) := by decide +kernel
theorem dX8_need_49 : decode cX8_need 49 = .ok (.iload_n 1, 1) := by decide +kernel
theorem dX8_need_50 : decode cX8_need 50 = .ok (.iload_n 2, 1) := by decide +kernel
theorem dX8_need_51 : decode cX8_need 51 = .ok (.invokevirtual 228, 3) := by decide +kernel
theorem dX8_need_54 : decode cX8_need 54 = .ok (.bipush (-4), 2) := by decide +kernel
theorem dX8_need_56 : decode cX8_need 56 = .ok (.if_icmp .eq 5, 3) := by decide +kernel
theorem dX8_need_59 : decode cX8_need 59 = .ok (.iload_n 3, 1) := by decide +kernel
theorem dX8_need_60 : decode cX8_need 60 = .ok (.ireturn, 1) := by decide +kernel
theorem dX8_need_61 : decode cX8_need 61 = .ok (.iinc 3 1, 3) := by decide +kernel
theorem dX8_need_64 : decode cX8_need 64 = .ok (.goto (-39), 3) := by decide +kernel
theorem dX8_need_67 : decode cX8_need 67 = .ok (.bipush (-4), 2) := by decide +kernel
theorem dX8_need_69 : decode cX8_need 69 = .ok (.ireturn, 1) := by decide +kernel
theorem dX8_high_0 : decode cX8_high 0 = .ok (.aload_n 0, 1) := by decide +kernel
theorem dX8_high_1 : decode cX8_high 1 = .ok (.getfield 10, 3) := by decide +kernel
theorem dX8_high_4 : decode cX8_high 4 = .ok (.iload_n 1, 1) := by decide +kernel
theorem dX8_high_5 : decode cX8_high 5 = .ok (.invokevirtual 142, 3) := by decide +kernel
theorem dX8_high_8 : decode cX8_high 8 = .ok (.ifCond .eq 24, 3) := by decide +kernel
theorem dX8_high_11 : decode cX8_high 11 = .ok (.aload_n 0, 1) := by decide +kernel
theorem dX8_high_12 : decode cX8_high 12 = .ok (.getfield 10, 3) := by decide +kernel
theorem dX8_high_15 : decode cX8_high 15 = .ok (.iload_n 2, 1) := by decide +kernel
theorem dX8_high_16 : decode cX8_high 16 = .ok (.invokevirtual 159, 3) := by decide +kernel
theorem dX8_high_19 : decode cX8_high 19 = .ok (.ifCond .eq 13, 3) := by decide +kernel
theorem dX8_high_22 : decode cX8_high 22 = .ok (.iload_n 3, 1) := by decide +kernel
theorem dX8_high_23 : decode cX8_high 23 = .ok (.iconst 0, 1) := by decide +kernel
theorem dX8_high_24 : decode cX8_high 24 = .ok (.bipush 60, 2) := by decide +kernel
theorem dX8_high_26 : decode cX8_high 26 = .ok (.invokestatic 68, 3) := by decide +kernel
theorem dX8_high_29 : decode cX8_high 29 = .ok (.ifCond .eq 5, 3) := by decide +kernel
theorem dX8_high_32 : decode cX8_high 32 = .ok (.iconst (-1), 1) := by decide +kernel
theorem dX8_high_33 : decode cX8_high 33 = .ok (.ireturn, 1) := by decide +kernel
theorem dX8_high_34 : decode cX8_high 34 = .ok (.bipush 9, 2) := by decide +kernel
theorem dX8_high_36 : decode cX8_high 36 = .ok (.istore 4, 2) := by decide +kernel
theorem dX8_high_38 : decode cX8_high 38 = .ok (.iload 4, 2) := by decide +kernel
theorem dX8_high_40 : decode cX8_high 40 = .ok (.ifCond .lt 48, 3) := by decide +kernel
theorem dX8_high_43 : decode cX8_high 43 = .ok (.aload_n 0, 1) := by decide +kernel
theorem dX8_high_44 : decode cX8_high 44 = .ok (.invokevirtual 205, 3) := by decide +kernel
theorem dX8_high_47 : decode cX8_high 47 = .ok (.aload_n 0, 1) := by decide +kernel
theorem dX8_high_48 : decode cX8_high 48 = .ok (.getfield 16, 3) := by decide +kernel
theorem dX8_high_51 : decode cX8_high 51 = .ok (.getfield 149, 3) := by decide +kernel
theorem dX8_high_54 : decode cX8_high 54 = .ok (.iload_n 1, 1) := by decide +kernel
theorem dX8_high_55 : decode cX8_high 55 = .ok (.iload 4, 2) := by decide +kernel
theorem dX8_high_57 : decode cX8_high 57 = .ok (.iastore, 1) := by decide +kernel
theorem dX8_high_58 : decode cX8_high 58 = .ok (.aload_n 0, 1) := by decide +kernel
theorem dX8_high_59 : decode cX8_high 59 = .ok (.getfield 16, 3) := by decide +kernel
theorem dX8_high_62 : decode cX8_high 62 = .ok (.iload_n 2, 1) := by decide +kernel
theorem dX8_high_63 : decode cX8_high 63 = .ok (.iload_n 3, 1) := by decide +kernel
theorem dX8_high_64 : decode cX8_high 64 = .ok (.invokevirtual 224, 3) := by decide +kernel
theorem dX8_high_67 : decode cX8_high 67 = .ok (.aload_n 0, 1) := by decide +kernel
theorem dX8_high_68 : decode cX8_high 68 = .ok (.getfield 16, 3) := by decide +kernel
theorem dX8_high_71 : decode cX8_high 71 = .ok (.iload_n 2, 1) := by decide +kernel
theorem dX8_high_72 : decode cX8_high 72 = .ok (.iload_n 1, 1) := by decide +kernel
theorem dX8_high_73 : decode cX8_high 73 = .ok (.invokevirtual 244, 3) := by decide +kernel
theorem dX8_high_76 : decode cX8_high 76 = .ok (.ifCond .eq 6, 3) := by decide +kernel
theorem dX8_high_79 : decode cX8_high 79 = .ok (.iload 4, 2) := by decide +kernel
theorem dX8_high_81 : decode cX8_high 81 = .ok (.ireturn, 1) := by decide +kernel
theorem dX8_high_82 : decode cX8_high 82 = .ok (.iinc 4 (-1), 3) := by decide +kernel
theorem dX8_high_85 : decode cX8_high 85 = .ok (.goto (-47), 3) := by decide +kernel
theorem dX8_high_88 : decode cX8_high 88 = .ok (.bipush (-4), 2) := by decide +kernel
theorem dX8_high_90 : decode cX8_high 90 = .ok (.ireturn, 1) := by decide +kernel
theorem dX8_luck_0 : decode cX8_luck 0 = .ok (.iload_n 1, 1) := by decide +kernel
theorem dX8_luck_1 : decode cX8_luck 1 = .ok (.iconst 0, 1) := by decide +kernel
theorem dX8_luck_2 : decode cX8_luck 2 = .ok (.bipush 10, 2) := by decide +kernel
theorem dX8_luck_4 : decode cX8_luck 4 = .ok (.invokestatic 68, 3) := by decide +kernel
theorem dX8_luck_7 : decode cX8_luck 7 = .ok (.ifCond .ne 34, 3) := by decide +kernel
theorem dX8_luck_10 : decode cX8_luck 10 = .ok (.iload_n 2, 1) := by decide +kernel
theorem dX8_luck_11 : decode cX8_luck 11 = .ok (.iconst 0, 1) := by decide +kernel
theorem dX8_luck_12 : decode cX8_luck 12 = .ok (.bipush 8, 2) := by decide +kernel
theorem dX8_luck_14 : decode cX8_luck 14 = .ok (.invokestatic 68, 3) := by decide +kernel
theorem dX8_luck_17 : decode cX8_luck 17 = .ok (.ifCond .ne 24, 3) := by decide +kernel
theorem dX8_luck_20 : decode cX8_luck 20 = .ok (.iload_n 3, 1) := by decide +kernel
theorem dX8_luck_21 : decode cX8_luck 21 = .ok (.iconst 0, 1) := by decide +kernel
theorem dX8_luck_22 : decode cX8_luck 22 = .ok (.sipush 9999, 3) := by decide +kernel
theorem dX8_luck_25 : decode cX8_luck 25 = .ok (.invokestatic 68, 3) := by decide +kernel
theorem dX8_luck_28 : decode cX8_luck 28 = .ok (.ifCond .ne 13, 3) := by decide +kernel
theorem dX8_luck_31 : decode cX8_luck 31 = .ok (.iload 4, 2) := by decide +kernel
theorem dX8_luck_33 : decode cX8_luck 33 = .ok (.iconst 0, 1) := by decide +kernel
theorem dX8_luck_34 : decode cX8_luck 34 = .ok (.iconst 1, 1) := by decide +kernel
theorem dX8_luck_35 : decode cX8_luck 35 = .ok (.invokestatic 68, 3) := by decide +kernel
theorem dX8_luck_38 : decode cX8_luck 38 = .ok (.ifCond .eq 7, 3) := by decide +kernel
theorem dX8_luck_41 : decode cX8_luck 41 = .ok (.ldc2_w 248, 3) := by decide +kernel
theorem dX8_luck_44 : decode cX8_luck 44 = .ok (.lreturn, 1) := by decide +kernel
theorem dX8_luck_45 : decode cX8_luck 45 = .ok (.aload_n 0, 1) := by decide +kernel
theorem dX8_luck_46 : decode cX8_luck 46 = .ok (.getfield 55, 3) := by decide +kernel
theorem dX8_luck_49 : decode cX8_luck 49 = .ok (.aload_n 0, 1) := by decide +kernel
theorem dX8_luck_50 : decode cX8_luck 50 = .ok (.getfield 10, 3) := by decide +kernel
theorem dX8_luck_53 : decode cX8_luck 53 = .ok (.aload_n 0, 1) := by decide +kernel
theorem dX8_luck_54 : decode cX8_luck 54 = .ok (.getfield 16, 3) := by decide +kernel
theorem dX8_luck_57 : decode cX8_luck 57 = .ok (.iload_n 2, 1) := by decide +kernel
theorem dX8_luck_58 : decode cX8_luck 58 = .ok (.invokevirtual 250, 3) := by decide +kernel
theorem dX8_luck_61 : decode cX8_luck 61 = .ok (.lconst 1, 1) := by decide +kernel
theorem dX8_luck_62 : decode cX8_luck 62 = .ok (.lstore 5, 2) := by decide +kernel
theorem dX8_luck_64 : decode cX8_luck 64 = .ok (.iconst 0, 1) := by decide +kernel
theorem dX8_luck_65 : decode cX8_luck 65 = .ok (.istore 7, 2) := by decide +kernel
theorem dX8_luck_67 : decode cX8_luck 67 = .ok (.iload 7, 2) := by decide +kernel
theorem dX8_luck_69 : decode cX8_luck 69 = .ok (.iload_n 2, 1) := by decide +kernel
theorem dX8_luck_70 : decode cX8_luck 70 = .ok (.if_icmp .ge 17, 3) := by decide +kernel
theorem dX8_luck_73 : decode cX8_luck 73 = .ok (.lload 5, 2) := by decide +kernel
theorem dX8_luck_75 : decode cX8_luck 75 = .ok (.ldc2_w 254, 3) := by decide +kernel
theorem dX8_luck_78 : decode cX8_luck 78 = .ok (.lmul, 1) := by decide +kernel
theorem dX8_luck_79 : decode cX8_luck 79 = .ok (.lstore 5, 2) := by decide +kernel
theorem dX8_luck_81 : decode cX8_luck 81 = .ok (.iinc 7 1, 3) := by decide +kernel
theorem dX8_luck_84 : decode cX8_luck 84 = .ok (.goto (-17), 3) := by decide +kernel
theorem dX8_luck_87 : decode cX8_luck 87 = .ok (.aload_n 0, 1) := by decide +kernel
theorem dX8_luck_88 : decode cX8_luck 88 = .ok (.getfield 55, 3) := by decide +kernel
theorem dX8_luck_91 : decode cX8_luck 91 = .ok (.iload_n 1, 1) := by decide +kernel
theorem dX8_luck_92 : decode cX8_luck 92 = .ok (.iload_n 3, 1) := by decide +kernel
theorem dX8_luck_93 : decode cX8_luck 93 = .ok (.invokevirtual 256, 3) := by decide +kernel
theorem dX8_luck_96 : decode cX8_luck 96 = .ok (.lload 5, 2) := by decide +kernel
theorem dX8_luck_98 : decode cX8_luck 98 = .ok (.iload 4, 2) := by decide +kernel
theorem dX8_luck_100 : decode cX8_luck 100 = .ok (.invokestatic 260, 3) := by decide +kernel
theorem dX8_luck_103 : decode cX8_luck 103 = .ok (.lreturn, 1) := by decide +kernel
theorem dX8_mean_0 : decode cX8_mean 0 = .ok (.iload_n 1, 1) := by decide +kernel
theorem dX8_mean_1 : decode cX8_mean 1 = .ok (.iconst 0, 1) := by decide +kernel
theorem dX8_mean_2 : decode cX8_mean 2 = .ok (.bipush 10, 2) := by decide +kernel
theorem dX8_mean_4 : decode cX8_mean 4 = .ok (.invokestatic 68, 3) := by decide +kernel
theorem dX8_mean_7 : decode cX8_mean 7 = .ok (.ifCond .ne 22, 3) := by decide +kernel
theorem dX8_mean_10 : decode cX8_mean 10 = .ok (.iload_n 2, 1) := by decide +kernel
theorem dX8_mean_11 : decode cX8_mean 11 = .ok (.iconst 0, 1) := by decide +kernel
theorem dX8_mean_12 : decode cX8_mean 12 = .ok (.bipush 8, 2) := by decide +kernel
theorem dX8_mean_14 : decode cX8_mean 14 = .ok (.invokestatic 68, 3) := by decide +kernel
theorem dX8_mean_17 : decode cX8_mean 17 = .ok (.ifCond .ne 12, 3) := by decide +kernel
theorem dX8_mean_20 : decode cX8_mean 20 = .ok (.iload_n 3, 1) := by decide +kernel
theorem dX8_mean_21 : decode cX8_mean 21 = .ok (.iconst 0, 1) := by decide +kernel
theorem dX8_mean_22 : decode cX8_mean 22 = .ok (.iconst 1, 1) := by decide +kernel
theorem dX8_mean_23 : decode cX8_mean 23 = .ok (.invokestatic 68, 3) := by decide +kernel
theorem dX8_mean_26 : decode cX8_mean 26 = .ok (.ifCond .eq 7, 3) := by decide +kernel
theorem dX8_mean_29 : decode cX8_mean 29 = .ok (.ldc2_w 248, 3) := by decide +kernel
theorem dX8_mean_32 : decode cX8_mean 32 = .ok (.lreturn, 1) := by decide +kernel
theorem dX8_mean_33 : decode cX8_mean 33 = .ok (.aload_n 0, 1) := by decide +kernel
theorem dX8_mean_34 : decode cX8_mean 34 = .ok (.getfield 55, 3) := by decide +kernel
theorem dX8_mean_37 : decode cX8_mean 37 = .ok (.aload_n 0, 1) := by decide +kernel
theorem dX8_mean_38 : decode cX8_mean 38 = .ok (.getfield 10, 3) := by decide +kernel
theorem dX8_mean_41 : decode cX8_mean 41 = .ok (.aload_n 0, 1) := by decide +kernel
theorem dX8_mean_42 : decode cX8_mean 42 = .ok (.getfield 16, 3) := by decide +kernel
theorem dX8_mean_45 : decode cX8_mean 45 = .ok (.iload_n 2, 1) := by decide +kernel
theorem dX8_mean_46 : decode cX8_mean 46 = .ok (.invokevirtual 250, 3) := by decide +kernel
theorem dX8_mean_49 : decode cX8_mean 49 = .ok (.aload_n 0, 1) := by decide +kernel
theorem dX8_mean_50 : decode cX8_mean 50 = .ok (.getfield 55, 3) := by decide +kernel
theorem dX8_mean_53 : decode cX8_mean 53 = .ok (.iload_n 1, 1) := by decide +kernel
theorem dX8_mean_54 : decode cX8_mean 54 = .ok (.invokevirtual 264, 3) := by decide +kernel
theorem dX8_mean_57 : decode cX8_mean 57 = .ok (.ldc2_w 254, 3) := by decide +kernel
theorem dX8_mean_60 : decode cX8_mean 60 = .ok (.iload_n 3, 1) := by decide +kernel
theorem dX8_mean_61 : decode cX8_mean 61 = .ok (.invokestatic 260, 3) := by decide +kernel
theorem dX8_mean_64 : decode cX8_mean 64 = .ok (.lreturn, 1) := by decide +kernel
theorem dX8_see_0 : decode cX8_see 0 = .ok (.iload_n 1, 1) := by decide +kernel
theorem dX8_see_1 : decode cX8_see 1 = .ok (.iconst 0, 1) := by decide +kernel
theorem dX8_see_2 : decode cX8_see 2 = .ok (.bipush 20, 2) := by decide +kernel
theorem dX8_see_4 : decode cX8_see 4 = .ok (.invokestatic 68, 3) := by decide +kernel
theorem dX8_see_7 : decode cX8_see 7 = .ok (.ifCond .ne 21, 3) := by decide +kernel
theorem dX8_see_10 : decode cX8_see 10 = .ok (.aload_n 0, 1) := by decide +kernel
theorem dX8_see_11 : decode cX8_see 11 = .ok (.getfield 10, 3) := by decide +kernel
theorem dX8_see_14 : decode cX8_see 14 = .ok (.iload_n 2, 1) := by decide +kernel
theorem dX8_see_15 : decode cX8_see 15 = .ok (.invokevirtual 159, 3) := by decide +kernel
theorem dX8_see_18 : decode cX8_see 18 = .ok (.ifCond .eq 10, 3) := by decide +kernel
theorem dX8_see_21 : decode cX8_see 21 = .ok (.iload_n 3, 1) := by decide +kernel
theorem dX8_see_22 : decode cX8_see 22 = .ok (.invokestatic 268, 3) := by decide +kernel
theorem dX8_see_25 : decode cX8_see 25 = .ok (.ifCond .ne 5, 3) := by decide +kernel
theorem dX8_see_28 : decode cX8_see 28 = .ok (.iconst (-1), 1) := by decide +kernel
theorem dX8_see_29 : decode cX8_see 29 = .ok (.ireturn, 1) := by decide +kernel
theorem dX8_see_30 : decode cX8_see 30 = .ok (.aload_n 0, 1) := by decide +kernel
theorem dX8_see_31 : decode cX8_see 31 = .ok (.getfield 29, 3) := by decide +kernel
theorem dX8_see_34 : decode cX8_see 34 = .ok (.getfield 113, 3) := by decide +kernel
theorem dX8_see_37 : decode cX8_see 37 = .ok (.bipush 6, 2) := by decide +kernel
theorem dX8_see_39 : decode cX8_see 39 = .ok (.if_icmp .lt 6, 3) := by decide +kernel
theorem dX8_see_42 : decode cX8_see 42 = .ok (.bipush (-3), 2) := by decide +kernel
theorem dX8_see_44 : decode cX8_see 44 = .ok (.ireturn, 1) := by decide +kernel
theorem dX8_see_45 : decode cX8_see 45 = .ok (.aload_n 0, 1) := by decide +kernel
theorem dX8_see_46 : decode cX8_see 46 = .ok (.getfield 29, 3) := by decide +kernel
theorem dX8_see_49 : decode cX8_see 49 = .ok (.iload_n 1, 1) := by decide +kernel
theorem dX8_see_50 : decode cX8_see 50 = .ok (.iload_n 2, 1) := by decide +kernel
theorem dX8_see_51 : decode cX8_see 51 = .ok (.iload_n 3, 1) := by decide +kernel
theorem dX8_see_52 : decode cX8_see 52 = .ok (.invokestatic 191, 3) := by decide +kernel
theorem dX8_see_55 : decode cX8_see 55 = .ok (.invokevirtual 271, 3) := by decide +kernel
theorem dX8_see_58 : decode cX8_see 58 = .ok (.aload_n 0, 1) := by decide +kernel
theorem dX8_see_59 : decode cX8_see 59 = .ok (.getfield 29, 3) := by decide +kernel
theorem dX8_see_62 : decode cX8_see 62 = .ok (.getfield 113, 3) := by decide +kernel
theorem dX8_see_65 : decode cX8_see 65 = .ok (.ireturn, 1) := by decide +kernel
theorem dX8_forget_0 : decode cX8_forget 0 = .ok (.iload_n 1, 1) := by decide +kernel
theorem dX8_forget_1 : decode cX8_forget 1 = .ok (.iconst 0, 1) := by decide +kernel
theorem dX8_forget_2 : decode cX8_forget 2 = .ok (.aload_n 0, 1) := by decide +kernel
theorem dX8_forget_3 : decode cX8_forget 3 = .ok (.getfield 29, 3) := by decide +kernel
theorem dX8_forget_6 : decode cX8_forget 6 = .ok (.getfield 113, 3) := by decide +kernel
theorem dX8_forget_9 : decode cX8_forget 9 = .ok (.invokestatic 68, 3) := by decide +kernel
theorem dX8_forget_12 : decode cX8_forget 12 = .ok (.ifCond .eq 5, 3) := by decide +kernel
theorem dX8_forget_15 : decode cX8_forget 15 = .ok (.iconst (-1), 1) := by decide +kernel
theorem dX8_forget_16 : decode cX8_forget 16 = .ok (.ireturn, 1) := by decide +kernel
theorem dX8_forget_17 : decode cX8_forget 17 = .ok (.aload_n 0, 1) := by decide +kernel
theorem dX8_forget_18 : decode cX8_forget 18 = .ok (.getfield 29, 3) := by decide +kernel
theorem dX8_forget_21 : decode cX8_forget 21 = .ok (.getfield 113, 3) := by decide +kernel
theorem dX8_forget_24 : decode cX8_forget 24 = .ok (.istore_n 2, 1) := by decide +kernel
theorem dX8_forget_25 : decode cX8_forget 25 = .ok (.aload_n 0, 1) := by decide +kernel
theorem dX8_forget_26 : decode cX8_forget 26 = .ok (.getfield 29, 3) := by decide +kernel
theorem dX8_forget_29 : decode cX8_forget 29 = .ok (.iload_n 1, 1) := by decide +kernel
theorem dX8_forget_30 : decode cX8_forget 30 = .ok (.putfield 113, 3) := by decide +kernel
theorem dX8_forget_33 : decode cX8_forget 33 = .ok (.iload_n 2, 1) := by decide +kernel
theorem dX8_forget_34 : decode cX8_forget 34 = .ok (.ireturn, 1) := by decide +kernel
theorem dX8_kinds_0 : decode cX8_kinds 0 = .ok (.aload_n 0, 1) := by decide +kernel
theorem dX8_kinds_1 : decode cX8_kinds 1 = .ok (.getfield 10, 3) := by decide +kernel
theorem dX8_kinds_4 : decode cX8_kinds 4 = .ok (.iload_n 1, 1) := by decide +kernel
theorem dX8_kinds_5 : decode cX8_kinds 5 = .ok (.invokevirtual 159, 3) := by decide +kernel
theorem dX8_kinds_8 : decode cX8_kinds 8 = .ok (.ifCond .ne 5, 3) := by decide +kernel
theorem dX8_kinds_11 : decode cX8_kinds 11 = .ok (.iconst (-1), 1) := by decide +kernel
theorem dX8_kinds_12 : decode cX8_kinds 12 = .ok (.ireturn, 1) := by decide +kernel
theorem dX8_kinds_13 : decode cX8_kinds 13 = .ok (.iconst 0, 1) := by decide +kernel
theorem dX8_kinds_14 : decode cX8_kinds 14 = .ok (.istore_n 2, 1) := by decide +kernel
theorem dX8_kinds_15 : decode cX8_kinds 15 = .ok (.iconst 0, 1) := by decide +kernel
theorem dX8_kinds_16 : decode cX8_kinds 16 = .ok (.istore_n 3, 1) := by decide +kernel
theorem dX8_kinds_17 : decode cX8_kinds 17 = .ok (.iload_n 3, 1) := by decide +kernel
theorem dX8_kinds_18 : decode cX8_kinds 18 = .ok (.iconst 3, 1) := by decide +kernel
theorem dX8_kinds_19 : decode cX8_kinds 19 = .ok (.if_icmp .gt 43, 3) := by decide +kernel
theorem dX8_kinds_22 : decode cX8_kinds 22 = .ok (.aload_n 0, 1) := by decide +kernel
theorem dX8_kinds_23 : decode cX8_kinds 23 = .ok (.invokevirtual 205, 3) := by decide +kernel
theorem dX8_kinds_26 : decode cX8_kinds 26 = .ok (.aload_n 0, 1) := by decide +kernel
theorem dX8_kinds_27 : decode cX8_kinds 27 = .ok (.getfield 16, 3) := by decide +kernel
theorem dX8_kinds_30 : decode cX8_kinds 30 = .ok (.getfield 162, 3) := by decide +kernel
theorem dX8_kinds_33 : decode cX8_kinds 33 = .ok (.iload_n 1, 1) := by decide +kernel
theorem dX8_kinds_34 : decode cX8_kinds 34 = .ok (.iload_n 3, 1) := by decide +kernel
theorem dX8_kinds_35 : decode cX8_kinds 35 = .ok (.iastore, 1) := by decide +kernel
theorem dX8_kinds_36 : decode cX8_kinds 36 = .ok (.aload_n 0, 1) := by decide +kernel
theorem dX8_kinds_37 : decode cX8_kinds 37 = .ok (.getfield 29, 3) := by decide +kernel
theorem dX8_kinds_40 : decode cX8_kinds 40 = .ok (.aload_n 0, 1) := by decide +kernel
theorem dX8_kinds_41 : decode cX8_kinds 41 = .ok (.getfield 16, 3) := by decide +kernel
theorem dX8_kinds_44 : decode cX8_kinds 44 = .ok (.invokevirtual 275, 3) := by decide +kernel
theorem dX8_kinds_47 : decode cX8_kinds 47 = .ok (.ifCond .eq 9, 3) := by decide +kernel
theorem dX8_kinds_50 : decode cX8_kinds 50 = .ok (.iload_n 2, 1) := by decide +kernel
theorem dX8_kinds_51 : decode cX8_kinds 51 = .ok (.iconst 1, 1) := by decide +kernel
theorem dX8_kinds_52 : decode cX8_kinds 52 = .ok (.iload_n 3, 1) := by decide +kernel
theorem dX8_kinds_53 : decode cX8_kinds 53 = .ok (.ishl, 1) := by decide +kernel
theorem dX8_kinds_54 : decode cX8_kinds 54 = .ok (.ior, 1) := by decide +kernel
theorem dX8_kinds_55 : decode cX8_kinds 55 = .ok (.istore_n 2, 1) := by decide +kernel
theorem dX8_kinds_56 : decode cX8_kinds 56 = .ok (.iinc 3 1, 3) := by decide +kernel
theorem dX8_kinds_59 : decode cX8_kinds 59 = .ok (.goto (-42), 3) := by decide +kernel
theorem dX8_kinds_62 : decode cX8_kinds 62 = .ok (.iload_n 2, 1) := by decide +kernel
theorem dX8_kinds_63 : decode cX8_kinds 63 = .ok (.ireturn, 1) := by decide +kernel
theorem dX8_heights_0 : decode cX8_heights 0 = .ok (.aload_n 0, 1) := by decide +kernel
theorem dX8_heights_1 : decode cX8_heights 1 = .ok (.getfield 10, 3) := by decide +kernel
theorem dX8_heights_4 : decode cX8_heights 4 = .ok (.iload_n 1, 1) := by decide +kernel
theorem dX8_heights_5 : decode cX8_heights 5 = .ok (.invokevirtual 142, 3) := by decide +kernel
theorem dX8_heights_8 : decode cX8_heights 8 = .ok (.ifCond .eq 11, 3) := by decide +kernel
theorem dX8_heights_11 : decode cX8_heights 11 = .ok (.aload_n 0, 1) := by decide +kernel
theorem dX8_heights_12 : decode cX8_heights 12 = .ok (.iload_n 1, 1) := by decide +kernel
theorem dX8_heights_13 : decode cX8_heights 13 = .ok (.invokevirtual 279, 3) := by decide +kernel
theorem dX8_heights_16 : decode cX8_heights 16 = .ok (.goto 4, 3) := by decide +kernel
theorem dX8_heights_19 : decode cX8_heights 19 = .ok (.iconst (-1), 1) := by decide +kernel
theorem dX8_heights_20 : decode cX8_heights 20 = .ok (.ireturn, 1) := by decide +kernel
theorem dX8_ask_0 : decode cX8_ask 0 = .ok (.aload_n 0, 1) := by decide +kernel
theorem dX8_ask_1 : decode cX8_ask 1 = .ok (.getfield 10, 3) := by decide +kernel
theorem dX8_ask_4 : decode cX8_ask 4 = .ok (.iload_n 1, 1) := by decide +kernel
theorem dX8_ask_5 : decode cX8_ask 5 = .ok (.invokevirtual 142, 3) := by decide +kernel
theorem dX8_ask_8 : decode cX8_ask 8 = .ok (.ifCond .eq 12, 3) := by decide +kernel
theorem dX8_ask_11 : decode cX8_ask 11 = .ok (.iload_n 2, 1) := by decide +kernel
theorem dX8_ask_12 : decode cX8_ask 12 = .ok (.iconst 0, 1) := by decide +kernel
theorem dX8_ask_13 : decode cX8_ask 13 = .ok (.iconst 1, 1) := by decide +kernel
theorem dX8_ask_14 : decode cX8_ask 14 = .ok (.invokestatic 68, 3) := by decide +kernel
theorem dX8_ask_17 : decode cX8_ask 17 = .ok (.ifCond .eq 5, 3) := by decide +kernel
theorem dX8_ask_20 : decode cX8_ask 20 = .ok (.iconst (-1), 1) := by decide +kernel
theorem dX8_ask_21 : decode cX8_ask 21 = .ok (.ireturn, 1) := by decide +kernel
theorem dX8_ask_22 : decode cX8_ask 22 = .ok (.aload_n 0, 1) := by decide +kernel
theorem dX8_ask_23 : decode cX8_ask 23 = .ok (.iload_n 1, 1) := by decide +kernel
theorem dX8_ask_24 : decode cX8_ask 24 = .ok (.invokevirtual 279, 3) := by decide +kernel
theorem dX8_ask_27 : decode cX8_ask 27 = .ok (.istore_n 3, 1) := by decide +kernel
theorem dX8_ask_28 : decode cX8_ask 28 = .ok (.aload_n 0, 1) := by decide +kernel
theorem dX8_ask_29 : decode cX8_ask 29 = .ok (.getfield 62, 3) := by decide +kernel
theorem dX8_ask_32 : decode cX8_ask 32 = .ok (.aload_n 0, 1) := by decide +kernel
theorem dX8_ask_33 : decode cX8_ask 33 = .ok (.getfield 10, 3) := by decide +kernel
theorem dX8_ask_36 : decode cX8_ask 36 = .ok (.aload_n 0, 1) := by decide +kernel
theorem dX8_ask_37 : decode cX8_ask 37 = .ok (.getfield 16, 3) := by decide +kernel
theorem dX8_ask_40 : decode cX8_ask 40 = .ok (.iload_n 1, 1) := by decide +kernel
theorem dX8_ask_41 : decode cX8_ask 41 = .ok (.iload_n 3, 1) := by decide +kernel
theorem dX8_ask_42 : decode cX8_ask 42 = .ok (.invokevirtual 282, 3) := by decide +kernel
theorem dX8_ask_45 : decode cX8_ask 45 = .ok (.bipush (-4), 2) := by decide +kernel
theorem dX8_ask_47 : decode cX8_ask 47 = .ok (.istore 4, 2) := by decide +kernel
theorem dX8_ask_49 : decode cX8_ask 49 = .ok (.iload_n 3, 1) := by decide +kernel
theorem dX8_ask_50 : decode cX8_ask 50 = .ok (.invokestatic 194, 3) := by decide +kernel
theorem dX8_ask_53 : decode cX8_ask 53 = .ok (.istore 5, 2) := by decide +kernel
theorem dX8_ask_55 : decode cX8_ask 55 = .ok (.iconst 0, 1) := by decide +kernel
theorem dX8_ask_56 : decode cX8_ask 56 = .ok (.istore 6, 2) := by decide +kernel
theorem dX8_ask_58 : decode cX8_ask 58 = .ok (.iload 6, 2) := by decide +kernel
theorem dX8_ask_60 : decode cX8_ask 60 = .ok (.bipush 20, 2) := by decide +kernel
theorem dX8_ask_62 : decode cX8_ask 62 = .ok (.if_icmp .gt 65, 3) := by decide +kernel
theorem dX8_ask_65 : decode cX8_ask 65 = .ok (.iconst 0, 1) := by decide +kernel
theorem dX8_ask_66 : decode cX8_ask 66 = .ok (.istore 7, 2) := by decide +kernel
theorem dX8_ask_68 : decode cX8_ask 68 = .ok (.iload 7, 2) := by decide +kernel
theorem dX8_ask_70 : decode cX8_ask 70 = .ok (.aload_n 0, 1) := by decide +kernel
theorem dX8_ask_71 : decode cX8_ask 71 = .ok (.getfield 10, 3) := by decide +kernel
theorem dX8_ask_74 : decode cX8_ask 74 = .ok (.getfield 126, 3) := by decide +kernel
theorem dX8_ask_77 : decode cX8_ask 77 = .ok (.if_icmp .ge 44, 3) := by decide +kernel
theorem dX8_ask_80 : decode cX8_ask 80 = .ok (.aload_n 0, 1) := by decide +kernel
theorem dX8_ask_81 : decode cX8_ask 81 = .ok (.getfield 62, 3) := by decide +kernel
theorem dX8_ask_84 : decode cX8_ask 84 = .ok (.iload_n 3, 1) := by decide +kernel
theorem dX8_ask_85 : decode cX8_ask 85 = .ok (.iload 6, 2) := by decide +kernel
theorem dX8_ask_87 : decode cX8_ask 87 = .ok (.iload 7, 2) := by decide +kernel
theorem dX8_ask_89 : decode cX8_ask 89 = .ok (.invokevirtual 285, 3) := by decide +kernel
theorem dX8_ask_92 : decode cX8_ask 92 = .ok (.istore 8, 2) := by decide +kernel
theorem dX8_ask_94 : decode cX8_ask 94 = .ok (.iload 8, 2) := by decide +kernel
theorem dX8_ask_96 : decode cX8_ask 96 = .ok (.iload 5, 2) := by decide +kernel
theorem dX8_ask_98 : decode cX8_ask 98 = .ok (.if_icmp .ge 17, 3) := by decide +kernel
theorem dX8_ask_101 : decode cX8_ask 101 = .ok (.iload 8, 2) := by decide +kernel
theorem dX8_ask_103 : decode cX8_ask 103 = .ok (.istore 5, 2) := by decide +kernel
theorem dX8_ask_105 : decode cX8_ask 105 = .ok (.bipush 10, 2) := by decide +kernel
theorem dX8_ask_107 : decode cX8_ask 107 = .ok (.iload 6, 2) := by decide +kernel
theorem dX8_ask_109 : decode cX8_ask 109 = .ok (.imul, 1) := by decide +kernel
theorem dX8_ask_110 : decode cX8_ask 110 = .ok (.iload 7, 2) := by decide +kernel
theorem dX8_ask_112 : decode cX8_ask 112 = .ok (.iadd, 1) := by decide +kernel
theorem dX8_ask_113 : decode cX8_ask 113 = .ok (.istore 4, 2) := by decide +kernel
theorem dX8_ask_115 : decode cX8_ask 115 = .ok (.iinc 7 1, 3) := by decide +kernel
theorem dX8_ask_118 : decode cX8_ask 118 = .ok (.goto (-50), 3) := by decide +kernel
theorem dX8_ask_121 : decode cX8_ask 121 = .ok (.iinc 6 1, 3) := by decide +kernel
theorem dX8_ask_124 : decode cX8_ask 124 = .ok (.goto (-66), 3) := by decide +kernel
theorem dX8_ask_127 : decode cX8_ask 127 = .ok (.iload 4, 2) := by decide +kernel
theorem dX8_ask_129 : decode cX8_ask 129 = .ok (.bipush (-4), 2) := by decide +kernel
theorem dX8_ask_131 : decode cX8_ask 131 = .ok (.if_icmp .eq 7, 3) := by decide +kernel
theorem dX8_ask_134 : decode cX8_ask 134 = .ok (.iload_n 2, 1) := by decide +kernel
theorem dX8_ask_135 : decode cX8_ask 135 = .ok (.ifCond .ne 8, 3) := by decide +kernel
theorem dX8_ask_138 : decode cX8_ask 138 = .ok (.iload 4, 2) := by decide +kernel
theorem dX8_ask_140 : decode cX8_ask 140 = .ok (.goto 5, 3) := by decide +kernel
theorem dX8_ask_143 : decode cX8_ask 143 = .ok (.iload 5, 2) := by decide +kernel
theorem dX8_ask_145 : decode cX8_ask 145 = .ok (.ireturn, 1) := by decide +kernel
theorem dX8_drift_0 : decode cX8_drift 0 = .ok (.iload_n 2, 1) := by decide +kernel
theorem dX8_drift_1 : decode cX8_drift 1 = .ok (.iconst 1, 1) := by decide +kernel
theorem dX8_drift_2 : decode cX8_drift 2 = .ok (.bipush 60, 2) := by decide +kernel
theorem dX8_drift_4 : decode cX8_drift 4 = .ok (.invokestatic 68, 3) := by decide +kernel
theorem dX8_drift_7 : decode cX8_drift 7 = .ok (.ifCond .ne 12, 3) := by decide +kernel
theorem dX8_drift_10 : decode cX8_drift 10 = .ok (.iload_n 3, 1) := by decide +kernel
theorem dX8_drift_11 : decode cX8_drift 11 = .ok (.iconst 0, 1) := by decide +kernel
theorem dX8_drift_12 : decode cX8_drift 12 = .ok (.iconst 1, 1) := by decide +kernel
theorem dX8_drift_13 : decode cX8_drift 13 = .ok (.invokestatic 68, 3) := by decide +kernel
theorem dX8_drift_16 : decode cX8_drift 16 = .ok (.ifCond .eq 5, 3) := by decide +kernel
theorem dX8_drift_19 : decode cX8_drift 19 = .ok (.iconst (-1), 1) := by decide +kernel
theorem dX8_drift_20 : decode cX8_drift 20 = .ok (.ireturn, 1) := by decide +kernel
theorem dX8_drift_21 : decode cX8_drift 21 = .ok (.aload_n 0, 1) := by decide +kernel
theorem dX8_drift_22 : decode cX8_drift 22 = .ok (.getfield 10, 3) := by decide +kernel
theorem dX8_drift_25 : decode cX8_drift 25 = .ok (.getfield 123, 3) := by decide +kernel
theorem dX8_drift_28 : decode cX8_drift 28 = .ok (.istore 4, 2) := by decide +kernel
theorem dX8_drift_30 : decode cX8_drift 30 = .ok (.aload_n 0, 1) := by decide +kernel
theorem dX8_drift_31 : decode cX8_drift 31 = .ok (.getfield 10, 3) := by decide +kernel
theorem dX8_drift_34 : decode cX8_drift 34 = .ok (.getfield 126, 3) := by decide +kernel
theorem dX8_drift_37 : decode cX8_drift 37 = .ok (.istore 5, 2) := by decide +kernel
theorem dX8_drift_39 : decode cX8_drift 39 = .ok (.iload 4, 2) := by decide +kernel
theorem dX8_drift_41 : decode cX8_drift 41 = .ok (.ifCond .le 8, 3) := by decide +kernel
theorem dX8_drift_44 : decode cX8_drift 44 = .ok (.iload 5, 2) := by decide +kernel
theorem dX8_drift_46 : decode cX8_drift 46 = .ok (.ifCond .gt 6, 3) := by decide +kernel
theorem dX8_drift_49 : decode cX8_drift 49 = .ok (.bipush (-2), 2) := by decide +kernel
theorem dX8_drift_51 : decode cX8_drift 51 = .ok (.ireturn, 1) := by decide +kernel
theorem dX8_drift_52 : decode cX8_drift 52 = .ok (.aload_n 0, 1) := by decide +kernel
theorem dX8_drift_53 : decode cX8_drift 53 = .ok (.invokevirtual 205, 3) := by decide +kernel
theorem dX8_drift_56 : decode cX8_drift 56 = .ok (.iload_n 1, 1) := by decide +kernel
theorem dX8_drift_57 : decode cX8_drift 57 = .ok (.istore 6, 2) := by decide +kernel
theorem dX8_drift_59 : decode cX8_drift 59 = .ok (.iconst 0, 1) := by decide +kernel
theorem dX8_drift_60 : decode cX8_drift 60 = .ok (.istore 7, 2) := by decide +kernel
theorem dX8_drift_62 : decode cX8_drift 62 = .ok (.iload 7, 2) := by decide +kernel
theorem dX8_drift_64 : decode cX8_drift 64 = .ok (.iload_n 2, 1) := by decide +kernel
theorem dX8_drift_65 : decode cX8_drift 65 = .ok (.if_icmp .ge 90, 3) := by decide +kernel
theorem dX8_drift_68 : decode cX8_drift 68 = .ok (.iload 6, 2) := by decide +kernel
theorem dX8_drift_70 : decode cX8_drift 70 = .ok (.ldc_w 289, 3) := by decide +kernel
theorem dX8_drift_73 : decode cX8_drift 73 = .ok (.imul, 1) := by decide +kernel
theorem dX8_drift_74 : decode cX8_drift 74 = .ok (.sipush 12345, 3) := by decide +kernel
theorem dX8_drift_77 : decode cX8_drift 77 = .ok (.iadd, 1) := by decide +kernel
theorem dX8_drift_78 : decode cX8_drift 78 = .ok (.istore 6, 2) := by decide +kernel
theorem dX8_drift_80 : decode cX8_drift 80 = .ok (.iload 6, 2) := by decide +kernel
theorem dX8_drift_82 : decode cX8_drift 82 = .ok (.bipush 16, 2) := by decide +kernel
theorem dX8_drift_84 : decode cX8_drift 84 = .ok (.iushr, 1) := by decide +kernel
theorem dX8_drift_85 : decode cX8_drift 85 = .ok (.sipush 32767, 3) := by decide +kernel
theorem dX8_drift_88 : decode cX8_drift 88 = .ok (.iand, 1) := by decide +kernel
theorem dX8_drift_89 : decode cX8_drift 89 = .ok (.istore 8, 2) := by decide +kernel
theorem dX8_drift_91 : decode cX8_drift 91 = .ok (.iload 8, 2) := by decide +kernel
theorem dX8_drift_93 : decode cX8_drift 93 = .ok (.iload 5, 2) := by decide +kernel
theorem dX8_drift_95 : decode cX8_drift 95 = .ok (.irem, 1) := by decide +kernel
theorem dX8_drift_96 : decode cX8_drift 96 = .ok (.istore 9, 2) := by decide +kernel
theorem dX8_drift_98 : decode cX8_drift 98 = .ok (.aload_n 0, 1) := by decide +kernel
theorem dX8_drift_99 : decode cX8_drift 99 = .ok (.getfield 16, 3) := by decide +kernel
theorem dX8_drift_102 : decode cX8_drift 102 = .ok (.getfield 165, 3) := by decide +kernel
theorem dX8_drift_105 : decode cX8_drift 105 = .ok (.iload 9, 2) := by decide +kernel
theorem dX8_drift_107 : decode cX8_drift 107 = .ok (.iload 8, 2) := by decide +kernel
theorem dX8_drift_109 : decode cX8_drift 109 = .ok (.bipush 8, 2) := by decide +kernel
theorem dX8_drift_111 : decode cX8_drift 111 = .ok (.idiv, 1) := by decide +kernel
theorem dX8_drift_112 : decode cX8_drift 112 = .ok (.iload 4, 2) := by decide +kernel
theorem dX8_drift_114 : decode cX8_drift 114 = .ok (.irem, 1) := by decide +kernel
theorem dX8_drift_115 : decode cX8_drift 115 = .ok (.iastore, 1) := by decide +kernel
theorem dX8_drift_116 : decode cX8_drift 116 = .ok (.aload_n 0, 1) := by decide +kernel
theorem dX8_drift_117 : decode cX8_drift 117 = .ok (.getfield 16, 3) := by decide +kernel
theorem dX8_drift_120 : decode cX8_drift 120 = .ok (.getfield 171, 3) := by decide +kernel
theorem dX8_drift_123 : decode cX8_drift 123 = .ok (.iload 9, 2) := by decide +kernel
theorem dX8_drift_125 : decode cX8_drift 125 = .ok (.iconst 0, 1) := by decide +kernel
theorem dX8_drift_126 : decode cX8_drift 126 = .ok (.iastore, 1) := by decide +kernel
theorem dX8_drift_127 : decode cX8_drift 127 = .ok (.aload_n 0, 1) := by decide +kernel
theorem dX8_drift_128 : decode cX8_drift 128 = .ok (.getfield 16, 3) := by decide +kernel
theorem dX8_drift_131 : decode cX8_drift 131 = .ok (.iload 8, 2) := by decide +kernel
theorem dX8_drift_133 : decode cX8_drift 133 = .ok (.bipush 64, 2) := by decide +kernel
theorem dX8_drift_135 : decode cX8_drift 135 = .ok (.idiv, 1) := by decide +kernel
theorem dX8_drift_136 : decode cX8_drift 136 = .ok (.bipush 8, 2) := by decide +kernel
theorem dX8_drift_138 : decode cX8_drift 138 = .ok (.irem, 1) := by decide +kernel
theorem dX8_drift_139 : decode cX8_drift 139 = .ok (.putfield 129, 3) := by decide +kernel
theorem dX8_drift_142 : decode cX8_drift 142 = .ok (.aload_n 0, 1) := by decide +kernel
theorem dX8_drift_143 : decode cX8_drift 143 = .ok (.getfield 16, 3) := by decide +kernel
theorem dX8_drift_146 : decode cX8_drift 146 = .ok (.invokevirtual 290, 3) := by decide +kernel
theorem dX8_drift_149 : decode cX8_drift 149 = .ok (.iinc 7 1, 3) := by decide +kernel
theorem dX8_drift_152 : decode cX8_drift 152 = .ok (.goto (-90), 3) := by decide +kernel
theorem dX8_drift_155 : decode cX8_drift 155 = .ok (.iload_n 3, 1) := by decide +kernel
theorem dX8_drift_156 : decode cX8_drift 156 = .ok (.ifCond .ne 13, 3) := by decide +kernel
theorem dX8_drift_159 : decode cX8_drift 159 = .ok (.aload_n 0, 1) := by decide +kernel
theorem dX8_drift_160 : decode cX8_drift 160 = .ok (.getfield 16, 3) := by decide +kernel
theorem dX8_drift_163 : decode cX8_drift 163 = .ok (.getfield 212, 3) := by decide +kernel
theorem dX8_drift_166 : decode cX8_drift 166 = .ok (.goto 7, 3) := by decide +kernel
theorem dX8_drift_169 : decode cX8_drift 169 = .ok (.aload_n 0, 1) := by decide +kernel
theorem dX8_drift_170 : decode cX8_drift 170 = .ok (.invokevirtual 218, 3) := by decide +kernel
theorem dX8_drift_173 : decode cX8_drift 173 = .ok (.ireturn, 1) := by decide +kernel
theorem dX8_keep_0 : decode cX8_keep 0 = .ok (.iload_n 1, 1) := by decide +kernel
theorem dX8_keep_1 : decode cX8_keep 1 = .ok (.iconst 0, 1) := by decide +kernel
theorem dX8_keep_2 : decode cX8_keep 2 = .ok (.iconst 1, 1) := by decide +kernel
theorem dX8_keep_3 : decode cX8_keep 3 = .ok (.invokestatic 68, 3) := by decide +kernel
theorem dX8_keep_6 : decode cX8_keep 6 = .ok (.ifCond .eq 5, 3) := by decide +kernel
theorem dX8_keep_9 : decode cX8_keep 9 = .ok (.iconst (-1), 1) := by decide +kernel
theorem dX8_keep_10 : decode cX8_keep 10 = .ok (.ireturn, 1) := by decide +kernel
theorem dX8_keep_11 : decode cX8_keep 11 = .ok (.aload_n 0, 1) := by decide +kernel
theorem dX8_keep_12 : decode cX8_keep 12 = .ok (.getfield 35, 3) := by decide +kernel
theorem dX8_keep_15 : decode cX8_keep 15 = .ok (.iload_n 1, 1) := by decide +kernel
theorem dX8_keep_16 : decode cX8_keep 16 = .ok (.aaload, 1) := by decide +kernel
theorem dX8_keep_17 : decode cX8_keep 17 = .ok (.getfield 116, 3) := by decide +kernel
theorem dX8_keep_20 : decode cX8_keep 20 = .ok (.ifCond .eq 7, 3) := by decide +kernel
theorem dX8_keep_23 : decode cX8_keep 23 = .ok (.iconst 1, 1) := by decide +kernel
theorem dX8_keep_24 : decode cX8_keep 24 = .ok (.goto 4, 3) := by decide +kernel
theorem dX8_keep_27 : decode cX8_keep 27 = .ok (.iconst 0, 1) := by decide +kernel
theorem dX8_keep_28 : decode cX8_keep 28 = .ok (.istore_n 2, 1) := by decide +kernel
theorem dX8_keep_29 : decode cX8_keep 29 = .ok (.aload_n 0, 1) := by decide +kernel
theorem dX8_keep_30 : decode cX8_keep 30 = .ok (.getfield 35, 3) := by decide +kernel
theorem dX8_keep_33 : decode cX8_keep 33 = .ok (.iload_n 1, 1) := by decide +kernel
theorem dX8_keep_34 : decode cX8_keep 34 = .ok (.aaload, 1) := by decide +kernel
theorem dX8_keep_35 : decode cX8_keep 35 = .ok (.getfield 293, 3) := by decide +kernel
theorem dX8_keep_38 : decode cX8_keep 38 = .ok (.aload_n 0, 1) := by decide +kernel
theorem dX8_keep_39 : decode cX8_keep 39 = .ok (.getfield 10, 3) := by decide +kernel
theorem dX8_keep_42 : decode cX8_keep 42 = .ok (.invokevirtual 109, 3) := by decide +kernel
theorem dX8_keep_45 : decode cX8_keep 45 = .ok (.aload_n 0, 1) := by decide +kernel
theorem dX8_keep_46 : decode cX8_keep 46 = .ok (.getfield 35, 3) := by decide +kernel
theorem dX8_keep_49 : decode cX8_keep 49 = .ok (.iload_n 1, 1) := by decide +kernel
theorem dX8_keep_50 : decode cX8_keep 50 = .ok (.aaload, 1) := by decide +kernel
theorem dX8_keep_51 : decode cX8_keep 51 = .ok (.getfield 294, 3) := by decide +kernel
theorem dX8_keep_54 : decode cX8_keep 54 = .ok (.aload_n 0, 1) := by decide +kernel
theorem dX8_keep_55 : decode cX8_keep 55 = .ok (.getfield 29, 3) := by decide +kernel
theorem dX8_keep_58 : decode cX8_keep 58 = .ok (.invokevirtual 295, 3) := by decide +kernel
theorem dX8_keep_61 : decode cX8_keep 61 = .ok (.aload_n 0, 1) := by decide +kernel
theorem dX8_keep_62 : decode cX8_keep 62 = .ok (.getfield 35, 3) := by decide +kernel
theorem dX8_keep_65 : decode cX8_keep 65 = .ok (.iload_n 1, 1) := by decide +kernel
theorem dX8_keep_66 : decode cX8_keep 66 = .ok (.aaload, 1) := by decide +kernel
theorem dX8_keep_67 : decode cX8_keep 67 = .ok (.iconst 1, 1) := by decide +kernel
theorem dX8_keep_68 : decode cX8_keep 68 = .ok (.putfield 116, 3) := by decide +kernel
theorem dX8_keep_71 : decode cX8_keep 71 = .ok (.iload_n 2, 1) := by decide +kernel
theorem dX8_keep_72 : decode cX8_keep 72 = .ok (.ireturn, 1) := by decide +kernel
theorem dX8_back_0 : decode cX8_back 0 = .ok (.iload_n 1, 1) := by decide +kernel
theorem dX8_back_1 : decode cX8_back 1 = .ok (.iconst 0, 1) := by decide +kernel
theorem dX8_back_2 : decode cX8_back 2 = .ok (.iconst 1, 1) := by decide +kernel
theorem dX8_back_3 : decode cX8_back 3 = .ok (.invokestatic 68, 3) := by decide +kernel
theorem dX8_back_6 : decode cX8_back 6 = .ok (.ifCond .eq 5, 3) := by decide +kernel
theorem dX8_back_9 : decode cX8_back 9 = .ok (.iconst (-1), 1) := by decide +kernel
theorem dX8_back_10 : decode cX8_back 10 = .ok (.ireturn, 1) := by decide +kernel
theorem dX8_back_11 : decode cX8_back 11 = .ok (.aload_n 0, 1) := by decide +kernel
theorem dX8_back_12 : decode cX8_back 12 = .ok (.getfield 35, 3) := by decide +kernel
theorem dX8_back_15 : decode cX8_back 15 = .ok (.iload_n 1, 1) := by decide +kernel
theorem dX8_back_16 : decode cX8_back 16 = .ok (.aaload, 1) := by decide +kernel
theorem dX8_back_17 : decode cX8_back 17 = .ok (.getfield 116, 3) := by decide +kernel
theorem dX8_back_20 : decode cX8_back 20 = .ok (.ifCond .ne 6, 3) := by decide +kernel
theorem dX8_back_23 : decode cX8_back 23 = .ok (.bipush (-2), 2) := by decide +kernel
theorem dX8_back_25 : decode cX8_back 25 = .ok (.ireturn, 1) := by decide +kernel
theorem dX8_back_26 : decode cX8_back 26 = .ok (.aload_n 0, 1) := by decide +kernel
theorem dX8_back_27 : decode cX8_back 27 = .ok (.getfield 10, 3) := by decide +kernel
theorem dX8_back_30 : decode cX8_back 30 = .ok (.aload_n 0, 1) := by decide +kernel
theorem dX8_back_31 : decode cX8_back 31 = .ok (.getfield 35, 3) := by decide +kernel
theorem dX8_back_34 : decode cX8_back 34 = .ok (.iload_n 1, 1) := by decide +kernel
theorem dX8_back_35 : decode cX8_back 35 = .ok (.aaload, 1) := by decide +kernel
theorem dX8_back_36 : decode cX8_back 36 = .ok (.getfield 293, 3) := by decide +kernel
theorem dX8_back_39 : decode cX8_back 39 = .ok (.invokevirtual 109, 3) := by decide +kernel
theorem dX8_back_42 : decode cX8_back 42 = .ok (.aload_n 0, 1) := by decide +kernel
theorem dX8_back_43 : decode cX8_back 43 = .ok (.getfield 29, 3) := by decide +kernel
theorem dX8_back_46 : decode cX8_back 46 = .ok (.aload_n 0, 1) := by decide +kernel
theorem dX8_back_47 : decode cX8_back 47 = .ok (.getfield 35, 3) := by decide +kernel
theorem dX8_back_50 : decode cX8_back 50 = .ok (.iload_n 1, 1) := by decide +kernel
theorem dX8_back_51 : decode cX8_back 51 = .ok (.aaload, 1) := by decide +kernel
theorem dX8_back_52 : decode cX8_back 52 = .ok (.getfield 294, 3) := by decide +kernel
theorem dX8_back_55 : decode cX8_back 55 = .ok (.invokevirtual 295, 3) := by decide +kernel
theorem dX8_back_58 : decode cX8_back 58 = .ok (.aload_n 0, 1) := by decide +kernel
theorem dX8_back_59 : decode cX8_back 59 = .ok (.getfield 10, 3) := by decide +kernel
theorem dX8_back_62 : decode cX8_back 62 = .ok (.getfield 132, 3) := by decide +kernel
theorem dX8_back_65 : decode cX8_back 65 = .ok (.ireturn, 1) := by decide +kernel
theorem dX8_sheet_0 : decode cX8_sheet 0 = .ok (.iload_n 1, 1) := by decide +kernel
theorem dX8_sheet_1 : decode cX8_sheet 1 = .ok (.iconst 0, 1) := by decide +kernel
theorem dX8_sheet_2 : decode cX8_sheet 2 = .ok (.iconst 3, 1) := by decide +kernel
theorem dX8_sheet_3 : decode cX8_sheet 3 = .ok (.invokestatic 68, 3) := by decide +kernel
theorem dX8_sheet_6 : decode cX8_sheet 6 = .ok (.ifCond .ne 18, 3) := by decide +kernel
theorem dX8_sheet_9 : decode cX8_sheet 9 = .ok (.iload_n 2, 1) := by decide +kernel
theorem dX8_sheet_10 : decode cX8_sheet 10 = .ok (.iconst 0, 1) := by decide +kernel
theorem dX8_sheet_11 : decode cX8_sheet 11 = .ok (.iconst 2, 1) := by decide +kernel
theorem dX8_sheet_12 : decode cX8_sheet 12 = .ok (.invokestatic 68, 3) := by decide +kernel
theorem dX8_sheet_15 : decode cX8_sheet 15 = .ok (.ifCond .ne 9, 3) := by decide +kernel
theorem dX8_sheet_18 : decode cX8_sheet 18 = .ok (.iload_n 3, 1) := by decide +kernel
theorem dX8_sheet_19 : decode cX8_sheet 19 = .ok (.bipush 40, 2) := by decide +kernel
theorem dX8_sheet_21 : decode cX8_sheet 21 = .ok (.if_icmp .le 5, 3) := by decide +kernel
theorem dX8_sheet_24 : decode cX8_sheet 24 = .ok (.iconst (-1), 1) := by decide +kernel
theorem dX8_sheet_25 : decode cX8_sheet 25 = .ok (.ireturn, 1) := by decide +kernel
theorem dX8_sheet_26 : decode cX8_sheet 26 = .ok (.iload_n 3, 1) := by decide +kernel
theorem dX8_sheet_27 : decode cX8_sheet 27 = .ok (.ifCond .ge 6, 3) := by decide +kernel
theorem dX8_sheet_30 : decode cX8_sheet 30 = .ok (.bipush (-14), 2) := by decide +kernel
theorem dX8_sheet_32 : decode cX8_sheet 32 = .ok (.ireturn, 1) := by decide +kernel
theorem dX8_sheet_33 : decode cX8_sheet 33 = .ok (.aload_n 0, 1) := by decide +kernel
theorem dX8_sheet_34 : decode cX8_sheet 34 = .ok (.getfield 41, 3) := by decide +kernel
theorem dX8_sheet_37 : decode cX8_sheet 37 = .ok (.iload_n 1, 1) := by decide +kernel
theorem dX8_sheet_38 : decode cX8_sheet 38 = .ok (.aaload, 1) := by decide +kernel
theorem dX8_sheet_39 : decode cX8_sheet 39 = .ok (.iload_n 2, 1) := by decide +kernel
theorem dX8_sheet_40 : decode cX8_sheet 40 = .ok (.iload_n 3, 1) := by decide +kernel
theorem dX8_sheet_41 : decode cX8_sheet 41 = .ok (.invokevirtual 298, 3) := by decide +kernel
theorem dX8_sheet_44 : decode cX8_sheet 44 = .ok (.iconst 1, 1) := by decide +kernel
theorem dX8_sheet_45 : decode cX8_sheet 45 = .ok (.ireturn, 1) := by decide +kernel
theorem dX8_lay_0 : decode cX8_lay 0 = .ok (.iload_n 1, 1) := by decide +kernel
theorem dX8_lay_1 : decode cX8_lay 1 = .ok (.iconst 0, 1) := by decide +kernel
theorem dX8_lay_2 : decode cX8_lay 2 = .ok (.iconst 3, 1) := by decide +kernel
theorem dX8_lay_3 : decode cX8_lay 3 = .ok (.invokestatic 68, 3) := by decide +kernel
theorem dX8_lay_6 : decode cX8_lay 6 = .ok (.ifCond .eq 5, 3) := by decide +kernel
theorem dX8_lay_9 : decode cX8_lay 9 = .ok (.iconst (-1), 1) := by decide +kernel
theorem dX8_lay_10 : decode cX8_lay 10 = .ok (.ireturn, 1) := by decide +kernel
theorem dX8_lay_11 : decode cX8_lay 11 = .ok (.aload_n 0, 1) := by decide +kernel
theorem dX8_lay_12 : decode cX8_lay 12 = .ok (.getfield 41, 3) := by decide +kernel
theorem dX8_lay_15 : decode cX8_lay 15 = .ok (.iload_n 1, 1) := by decide +kernel
theorem dX8_lay_16 : decode cX8_lay 16 = .ok (.aaload, 1) := by decide +kernel
theorem dX8_lay_17 : decode cX8_lay 17 = .ok (.astore 4, 2) := by decide +kernel
theorem dX8_lay_19 : decode cX8_lay 19 = .ok (.aload 4, 2) := by decide +kernel
theorem dX8_lay_21 : decode cX8_lay 21 = .ok (.aload 4, 2) := by decide +kernel
theorem dX8_lay_23 : decode cX8_lay 23 = .ok (.getfield 301, 3) := by decide +kernel
theorem dX8_lay_26 : decode cX8_lay 26 = .ok (.iload_n 2, 1) := by decide +kernel
theorem dX8_lay_27 : decode cX8_lay 27 = .ok (.invokevirtual 304, 3) := by decide +kernel
theorem dX8_lay_30 : decode cX8_lay 30 = .ok (.istore 5, 2) := by decide +kernel
theorem dX8_lay_32 : decode cX8_lay 32 = .ok (.iload 5, 2) := by decide +kernel
theorem dX8_lay_34 : decode cX8_lay 34 = .ok (.ifCond .eq 9, 3) := by decide +kernel
theorem dX8_lay_37 : decode cX8_lay 37 = .ok (.bipush (-10), 2) := by decide +kernel
theorem dX8_lay_39 : decode cX8_lay 39 = .ok (.iload 5, 2) := by decide +kernel
theorem dX8_lay_41 : decode cX8_lay 41 = .ok (.isub, 1) := by decide +kernel
theorem dX8_lay_42 : decode cX8_lay 42 = .ok (.ireturn, 1) := by decide +kernel
theorem dX8_lay_43 : decode cX8_lay 43 = .ok (.aload 4, 2) := by decide +kernel
theorem dX8_lay_45 : decode cX8_lay 45 = .ok (.iload_n 2, 1) := by decide +kernel
theorem dX8_lay_46 : decode cX8_lay 46 = .ok (.iload_n 3, 1) := by decide +kernel
theorem dX8_lay_47 : decode cX8_lay 47 = .ok (.invokevirtual 307, 3) := by decide +kernel
theorem dX8_lay_50 : decode cX8_lay 50 = .ok (.iconst 1, 1) := by decide +kernel
theorem dX8_lay_51 : decode cX8_lay 51 = .ok (.ireturn, 1) := by decide +kernel
theorem dX8_read_0 : decode cX8_read 0 = .ok (.iload_n 1, 1) := by decide +kernel
theorem dX8_read_1 : decode cX8_read 1 = .ok (.iconst 0, 1) := by decide +kernel
theorem dX8_read_2 : decode cX8_read 2 = .ok (.iconst 3, 1) := by decide +kernel
theorem dX8_read_3 : decode cX8_read 3 = .ok (.invokestatic 68, 3) := by decide +kernel
theorem dX8_read_6 : decode cX8_read 6 = .ok (.ifCond .ne 23, 3) := by decide +kernel
theorem dX8_read_9 : decode cX8_read 9 = .ok (.iload_n 2, 1) := by decide +kernel
theorem dX8_read_10 : decode cX8_read 10 = .ok (.iconst 0, 1) := by decide +kernel
theorem dX8_read_11 : decode cX8_read 11 = .ok (.iconst 2, 1) := by decide +kernel
theorem dX8_read_12 : decode cX8_read 12 = .ok (.invokestatic 68, 3) := by decide +kernel
theorem dX8_read_15 : decode cX8_read 15 = .ok (.ifCond .ne 14, 3) := by decide +kernel
theorem dX8_read_18 : decode cX8_read 18 = .ok (.iload 4, 2) := by decide +kernel
theorem dX8_read_20 : decode cX8_read 20 = .ok (.iconst 0, 1) := by decide +kernel
theorem dX8_read_21 : decode cX8_read 21 = .ok (.bipush 20, 2) := by decide +kernel
theorem dX8_read_23 : decode cX8_read 23 = .ok (.invokestatic 68, 3) := by decide +kernel
theorem dX8_read_26 : decode cX8_read 26 = .ok (.ifCond .eq 5, 3) := by decide +kernel
theorem dX8_read_29 : decode cX8_read 29 = .ok (.iconst (-1), 1) := by decide +kernel
theorem dX8_read_30 : decode cX8_read 30 = .ok (.ireturn, 1) := by decide +kernel
theorem dX8_read_31 : decode cX8_read 31 = .ok (.aload_n 0, 1) := by decide +kernel
theorem dX8_read_32 : decode cX8_read 32 = .ok (.getfield 41, 3) := by decide +kernel
theorem dX8_read_35 : decode cX8_read 35 = .ok (.iload_n 1, 1) := by decide +kernel
theorem dX8_read_36 : decode cX8_read 36 = .ok (.aaload, 1) := by decide +kernel
theorem dX8_read_37 : decode cX8_read 37 = .ok (.astore 5, 2) := by decide +kernel
theorem dX8_read_39 : decode cX8_read 39 = .ok (.aload_n 0, 1) := by decide +kernel
theorem dX8_read_40 : decode cX8_read 40 = .ok (.invokevirtual 205, 3) := by decide +kernel
theorem dX8_read_43 : decode cX8_read 43 = .ok (.iconst 0, 1) := by decide +kernel
theorem dX8_read_44 : decode cX8_read 44 = .ok (.istore 6, 2) := by decide +kernel
theorem dX8_read_46 : decode cX8_read 46 = .ok (.iconst 0, 1) := by decide +kernel
theorem dX8_read_47 : decode cX8_read 47 = .ok (.istore 7, 2) := by decide +kernel
theorem dX8_read_49 : decode cX8_read 49 = .ok (.iconst 0, 1) := by decide +kernel
theorem dX8_read_50 : decode cX8_read 50 = .ok (.istore 8, 2) := by decide +kernel
theorem dX8_read_52 : decode cX8_read 52 = .ok (.iload 8, 2) := by decide +kernel
theorem dX8_read_54 : decode cX8_read 54 = .ok (.iload 4, 2) := by decide +kernel
theorem dX8_read_56 : decode cX8_read 56 = .ok (.if_icmp .ge 92, 3) := by decide +kernel
theorem dX8_read_59 : decode cX8_read 59 = .ok (.iload_n 3, 1) := by decide +kernel
theorem dX8_read_60 : decode cX8_read 60 = .ok (.iconst 2, 1) := by decide +kernel
theorem dX8_read_61 : decode cX8_read 61 = .ok (.iload 8, 2) := by decide +kernel
theorem dX8_read_63 : decode cX8_read 63 = .ok (.imul, 1) := by decide +kernel
theorem dX8_read_64 : decode cX8_read 64 = .ok (.iadd, 1) := by decide +kernel
theorem dX8_read_65 : decode cX8_read 65 = .ok (.istore 9, 2) := by decide +kernel
theorem dX8_read_67 : decode cX8_read 67 = .ok (.aload 5, 2) := by decide +kernel
theorem dX8_read_69 : decode cX8_read 69 = .ok (.iload_n 2, 1) := by decide +kernel
theorem dX8_read_70 : decode cX8_read 70 = .ok (.iload 9, 2) := by decide +kernel
theorem dX8_read_72 : decode cX8_read 72 = .ok (.invokevirtual 309, 3) := by decide +kernel
theorem dX8_read_75 : decode cX8_read 75 = .ok (.istore 7, 2) := by decide +kernel
theorem dX8_read_77 : decode cX8_read 77 = .ok (.iload 7, 2) := by decide +kernel
theorem dX8_read_79 : decode cX8_read 79 = .ok (.ifCond .eq 6, 3) := by decide +kernel
theorem dX8_read_82 : decode cX8_read 82 = .ok (.goto 66, 3) := by decide +kernel
theorem dX8_read_85 : decode cX8_read 85 = .ok (.aload 5, 2) := by decide +kernel
theorem dX8_read_87 : decode cX8_read 87 = .ok (.getfield 312, 3) := by decide +kernel
theorem dX8_read_90 : decode cX8_read 90 = .ok (.iload 9, 2) := by decide +kernel
theorem dX8_read_92 : decode cX8_read 92 = .ok (.iaload, 1) := by decide +kernel
theorem dX8_read_93 : decode cX8_read 93 = .ok (.istore 10, 2) := by decide +kernel
theorem dX8_read_95 : decode cX8_read 95 = .ok (.aload 5, 2) := by decide +kernel
theorem dX8_read_97 : decode cX8_read 97 = .ok (.getfield 312, 3) := by decide +kernel
theorem dX8_read_100 : decode cX8_read 100 = .ok (.iload 9, 2) := by decide +kernel
theorem dX8_read_102 : decode cX8_read 102 = .ok (.iconst 1, 1) := by decide +kernel
theorem dX8_read_103 : decode cX8_read 103 = .ok (.iadd, 1) := by decide +kernel
theorem dX8_read_104 : decode cX8_read 104 = .ok (.iaload, 1) := by decide +kernel
theorem dX8_read_105 : decode cX8_read 105 = .ok (.istore 11, 2) := by decide +kernel
theorem dX8_read_107 : decode cX8_read 107 = .ok (.aload_n 0, 1) := by decide +kernel
theorem dX8_read_108 : decode cX8_read 108 = .ok (.getfield 16, 3) := by decide +kernel
theorem dX8_read_111 : decode cX8_read 111 = .ok (.iload 10, 2) := by decide +kernel
theorem dX8_read_113 : decode cX8_read 113 = .ok (.iload 11, 2) := by decide +kernel
theorem dX8_read_115 : decode cX8_read 115 = .ok (.invokevirtual 199, 3) := by decide +kernel
theorem dX8_read_118 : decode cX8_read 118 = .ok (.ifCond .eq 9, 3) := by decide +kernel
theorem dX8_read_121 : decode cX8_read 121 = .ok (.bipush (-20), 2) := by decide +kernel
theorem dX8_read_123 : decode cX8_read 123 = .ok (.iload 8, 2) := by decide +kernel
theorem dX8_read_125 : decode cX8_read 125 = .ok (.isub, 1) := by decide +kernel
theorem dX8_read_126 : decode cX8_read 126 = .ok (.ireturn, 1) := by decide +kernel
theorem dX8_read_127 : decode cX8_read 127 = .ok (.aload_n 0, 1) := by decide +kernel
theorem dX8_read_128 : decode cX8_read 128 = .ok (.getfield 16, 3) := by decide +kernel
theorem dX8_read_131 : decode cX8_read 131 = .ok (.iload 10, 2) := by decide +kernel
theorem dX8_read_133 : decode cX8_read 133 = .ok (.iload 11, 2) := by decide +kernel
theorem dX8_read_135 : decode cX8_read 135 = .ok (.invokevirtual 202, 3) := by decide +kernel
theorem dX8_read_138 : decode cX8_read 138 = .ok (.pop, 1) := by decide +kernel
theorem dX8_read_139 : decode cX8_read 139 = .ok (.iinc 6 1, 3) := by decide +kernel
theorem dX8_read_142 : decode cX8_read 142 = .ok (.iinc 8 1, 3) := by decide +kernel
theorem dX8_read_145 : decode cX8_read 145 = .ok (.goto (-93), 3) := by decide +kernel
theorem dX8_read_148 : decode cX8_read 148 = .ok (.aload_n 0, 1) := by decide +kernel
theorem dX8_read_149 : decode cX8_read 149 = .ok (.getfield 10, 3) := by decide +kernel
theorem dX8_read_152 : decode cX8_read 152 = .ok (.aload_n 0, 1) := by decide +kernel
theorem dX8_read_153 : decode cX8_read 153 = .ok (.getfield 16, 3) := by decide +kernel
theorem dX8_read_156 : decode cX8_read 156 = .ok (.invokevirtual 109, 3) := by decide +kernel
theorem dX8_read_159 : decode cX8_read 159 = .ok (.aload_n 0, 1) := by decide +kernel
theorem dX8_read_160 : decode cX8_read 160 = .ok (.iload 7, 2) := by decide +kernel
theorem dX8_read_162 : decode cX8_read 162 = .ok (.putfield 315, 3) := by decide +kernel
theorem dX8_read_165 : decode cX8_read 165 = .ok (.iload 6, 2) := by decide +kernel
theorem dX8_read_167 : decode cX8_read 167 = .ok (.ireturn, 1) := by decide +kernel
theorem dX8_torn_0 : decode cX8_torn 0 = .ok (.aload_n 0, 1) := by decide +kernel
theorem dX8_torn_1 : decode cX8_torn 1 = .ok (.getfield 315, 3) := by decide +kernel
theorem dX8_torn_4 : decode cX8_torn 4 = .ok (.ireturn, 1) := by decide +kernel
theorem dX8_count_0 : decode cX8_count 0 = .ok (.iload_n 1, 1) := by decide +kernel
theorem dX8_count_1 : decode cX8_count 1 = .ok (.tableswitch 128 0 5 #[39, 47, 52, 63, 92, 110], 39) := by decide +kernel
theorem dX8_count_40 : decode cX8_count 40 = .ok (.aload_n 0, 1) := by decide +kernel
theorem dX8_count_41 : decode cX8_count 41 = .ok (.getfield 29, 3) := by decide +kernel
theorem dX8_count_44 : decode cX8_count 44 = .ok (.getfield 113, 3) := by decide +kernel
theorem dX8_count_47 : decode cX8_count 47 = .ok (.ireturn, 1) := by decide +kernel
theorem dX8_count_48 : decode cX8_count 48 = .ok (.aload_n 0, 1) := by decide +kernel
theorem dX8_count_49 : decode cX8_count 49 = .ok (.invokevirtual 318, 3) := by decide +kernel
theorem dX8_count_52 : decode cX8_count 52 = .ok (.ireturn, 1) := by decide +kernel
theorem dX8_count_53 : decode cX8_count 53 = .ok (.aload_n 0, 1) := by decide +kernel
theorem dX8_count_54 : decode cX8_count 54 = .ok (.getfield 22, 3) := by decide +kernel
theorem dX8_count_57 : decode cX8_count 57 = .ok (.getfield 72, 3) := by decide +kernel
theorem dX8_count_60 : decode cX8_count 60 = .ok (.getfield 76, 3) := by decide +kernel
theorem dX8_count_63 : decode cX8_count 63 = .ok (.ireturn, 1) := by decide +kernel
theorem dX8_count_64 : decode cX8_count 64 = .ok (.aload_n 0, 1) := by decide +kernel
theorem dX8_count_65 : decode cX8_count 65 = .ok (.getfield 41, 3) := by decide +kernel
theorem dX8_count_68 : decode cX8_count 68 = .ok (.iconst 0, 1) := by decide +kernel
theorem dX8_count_69 : decode cX8_count 69 = .ok (.aaload, 1) := by decide +kernel
theorem dX8_count_70 : decode cX8_count 70 = .ok (.getfield 301, 3) := by decide +kernel
theorem dX8_count_73 : decode cX8_count 73 = .ok (.bipush (-4), 2) := by decide +kernel
theorem dX8_count_75 : decode cX8_count 75 = .ok (.if_icmp .ne 8, 3) := by decide +kernel
theorem dX8_count_78 : decode cX8_count 78 = .ok (.bipush (-4), 2) := by decide +kernel
theorem dX8_count_80 : decode cX8_count 80 = .ok (.goto 12, 3) := by decide +kernel
theorem dX8_count_83 : decode cX8_count 83 = .ok (.aload_n 0, 1) := by decide +kernel
theorem dX8_count_84 : decode cX8_count 84 = .ok (.getfield 41, 3) := by decide +kernel
theorem dX8_count_87 : decode cX8_count 87 = .ok (.iconst 0, 1) := by decide +kernel
theorem dX8_count_88 : decode cX8_count 88 = .ok (.aaload, 1) := by decide +kernel
theorem dX8_count_89 : decode cX8_count 89 = .ok (.getfield 321, 3) := by decide +kernel
theorem dX8_count_92 : decode cX8_count 92 = .ok (.ireturn, 1) := by decide +kernel
theorem dX8_count_93 : decode cX8_count 93 = .ok (.aload_n 0, 1) := by decide +kernel
theorem dX8_count_94 : decode cX8_count 94 = .ok (.getfield 10, 3) := by decide +kernel
theorem dX8_count_97 : decode cX8_count 97 = .ok (.getfield 149, 3) := by decide +kernel
theorem dX8_count_100 : decode cX8_count 100 = .ok (.aload_n 0, 1) := by decide +kernel
theorem dX8_count_101 : decode cX8_count 101 = .ok (.getfield 10, 3) := by decide +kernel
theorem dX8_count_104 : decode cX8_count 104 = .ok (.getfield 123, 3) := by decide +kernel
theorem dX8_count_107 : decode cX8_count 107 = .ok (.invokestatic 322, 3) := by decide +kernel
theorem dX8_count_110 : decode cX8_count 110 = .ok (.ireturn, 1) := by decide +kernel
theorem dX8_count_111 : decode cX8_count 111 = .ok (.aload_n 0, 1) := by decide +kernel
theorem dX8_count_112 : decode cX8_count 112 = .ok (.getfield 10, 3) := by decide +kernel
theorem dX8_count_115 : decode cX8_count 115 = .ok (.getfield 168, 3) := by decide +kernel
theorem dX8_count_118 : decode cX8_count 118 = .ok (.aload_n 0, 1) := by decide +kernel
theorem dX8_count_119 : decode cX8_count 119 = .ok (.getfield 10, 3) := by decide +kernel
theorem dX8_count_122 : decode cX8_count 122 = .ok (.getfield 126, 3) := by decide +kernel
theorem dX8_count_125 : decode cX8_count 125 = .ok (.invokestatic 322, 3) := by decide +kernel
theorem dX8_count_128 : decode cX8_count 128 = .ok (.ireturn, 1) := by decide +kernel
theorem dX8_count_129 : decode cX8_count 129 = .ok (.iconst (-1), 1) := by decide +kernel
theorem dX8_count_130 : decode cX8_count 130 = .ok (.ireturn, 1) := by decide +kernel
theorem dX8_outside_0 : decode cX8_outside 0 = .ok (.iload_n 0, 1) := by decide +kernel
theorem dX8_outside_1 : decode cX8_outside 1 = .ok (.iload_n 1, 1) := by decide +kernel
theorem dX8_outside_2 : decode cX8_outside 2 = .ok (.if_icmp .lt 8, 3) := by decide +kernel
theorem dX8_outside_5 : decode cX8_outside 5 = .ok (.iload_n 0, 1) := by decide +kernel
theorem dX8_outside_6 : decode cX8_outside 6 = .ok (.iload_n 2, 1) := by decide +kernel
theorem dX8_outside_7 : decode cX8_outside 7 = .ok (.if_icmp .le 7, 3) := by decide +kernel
theorem dX8_outside_10 : decode cX8_outside 10 = .ok (.iconst 1, 1) := by decide +kernel
theorem dX8_outside_11 : decode cX8_outside 11 = .ok (.goto 4, 3) := by decide +kernel
theorem dX8_outside_14 : decode cX8_outside 14 = .ok (.iconst 0, 1) := by decide +kernel
theorem dX8_outside_15 : decode cX8_outside 15 = .ok (.ireturn, 1) := by decide +kernel
theorem dX8_tellsBookOrNone_0 : decode cX8_tellsBookOrNone 0 = .ok (.iload_n 0, 1) := by decide +kernel
theorem dX8_tellsBookOrNone_1 : decode cX8_tellsBookOrNone 1 = .ok (.bipush 9, 2) := by decide +kernel
theorem dX8_tellsBookOrNone_3 : decode cX8_tellsBookOrNone 3 = .ok (.if_icmp .eq 13, 3) := by decide +kernel
theorem dX8_tellsBookOrNone_6 : decode cX8_tellsBookOrNone 6 = .ok (.iload_n 0, 1) := by decide +kernel
theorem dX8_tellsBookOrNone_7 : decode cX8_tellsBookOrNone 7 = .ok (.iconst 0, 1) := by decide +kernel
theorem dX8_tellsBookOrNone_8 : decode cX8_tellsBookOrNone 8 = .ok (.bipush 7, 2) := by decide +kernel
theorem dX8_tellsBookOrNone_10 : decode cX8_tellsBookOrNone 10 = .ok (.invokestatic 68, 3) := by decide +kernel
theorem dX8_tellsBookOrNone_13 : decode cX8_tellsBookOrNone 13 = .ok (.ifCond .ne 7, 3) := by decide +kernel
theorem dX8_tellsBookOrNone_16 : decode cX8_tellsBookOrNone 16 = .ok (.iconst 1, 1) := by decide +kernel
theorem dX8_tellsBookOrNone_17 : decode cX8_tellsBookOrNone 17 = .ok (.goto 4, 3) := by decide +kernel
theorem dX8_tellsBookOrNone_20 : decode cX8_tellsBookOrNone 20 = .ok (.iconst 0, 1) := by decide +kernel
theorem dX8_tellsBookOrNone_21 : decode cX8_tellsBookOrNone 21 = .ok (.ireturn, 1) := by decide +kernel
theorem dX8_bookSaid_0 : decode cX8_bookSaid 0 = .ok (.iload_n 0, 1) := by decide +kernel
theorem dX8_bookSaid_1 : decode cX8_bookSaid 1 = .ok (.bipush 9, 2) := by decide +kernel
theorem dX8_bookSaid_3 : decode cX8_bookSaid 3 = .ok (.if_icmp .ne 8, 3) := by decide +kernel
theorem dX8_bookSaid_6 : decode cX8_bookSaid 6 = .ok (.bipush (-4), 2) := by decide +kernel
theorem dX8_bookSaid_8 : decode cX8_bookSaid 8 = .ok (.goto 4, 3) := by decide +kernel
theorem dX8_bookSaid_11 : decode cX8_bookSaid 11 = .ok (.iload_n 0, 1) := by decide +kernel
theorem dX8_bookSaid_12 : decode cX8_bookSaid 12 = .ok (.ireturn, 1) := by decide +kernel
theorem dX8_replace_0 : decode cX8_replace 0 = .ok (.aload_n 0, 1) := by decide +kernel
theorem dX8_replace_1 : decode cX8_replace 1 = .ok (.iload_n 1, 1) := by decide +kernel
theorem dX8_replace_2 : decode cX8_replace 2 = .ok (.iaload, 1) := by decide +kernel
theorem dX8_replace_3 : decode cX8_replace 3 = .ok (.istore_n 3, 1) := by decide +kernel
theorem dX8_replace_4 : decode cX8_replace 4 = .ok (.aload_n 0, 1) := by decide +kernel
theorem dX8_replace_5 : decode cX8_replace 5 = .ok (.iload_n 1, 1) := by decide +kernel
theorem dX8_replace_6 : decode cX8_replace 6 = .ok (.iload_n 2, 1) := by decide +kernel
theorem dX8_replace_7 : decode cX8_replace 7 = .ok (.iastore, 1) := by decide +kernel
theorem dX8_replace_8 : decode cX8_replace 8 = .ok (.iload_n 3, 1) := by decide +kernel
theorem dX8_replace_9 : decode cX8_replace 9 = .ok (.ireturn, 1) := by decide +kernel
theorem dX8_sumOf_0 : decode cX8_sumOf 0 = .ok (.iconst 0, 1) := by decide +kernel
theorem dX8_sumOf_1 : decode cX8_sumOf 1 = .ok (.istore_n 2, 1) := by decide +kernel
theorem dX8_sumOf_2 : decode cX8_sumOf 2 = .ok (.iconst 0, 1) := by decide +kernel
theorem dX8_sumOf_3 : decode cX8_sumOf 3 = .ok (.istore_n 3, 1) := by decide +kernel
theorem dX8_sumOf_4 : decode cX8_sumOf 4 = .ok (.iload_n 3, 1) := by decide +kernel
theorem dX8_sumOf_5 : decode cX8_sumOf 5 = .ok (.iload_n 1, 1) := by decide +kernel
theorem dX8_sumOf_6 : decode cX8_sumOf 6 = .ok (.if_icmp .ge 15, 3) := by decide +kernel
theorem dX8_sumOf_9 : decode cX8_sumOf 9 = .ok (.iload_n 2, 1) := by decide +kernel
theorem dX8_sumOf_10 : decode cX8_sumOf 10 = .ok (.aload_n 0, 1) := by decide +kernel
theorem dX8_sumOf_11 : decode cX8_sumOf 11 = .ok (.iload_n 3, 1) := by decide +kernel
theorem dX8_sumOf_12 : decode cX8_sumOf 12 = .ok (.iaload, 1) := by decide +kernel
theorem dX8_sumOf_13 : decode cX8_sumOf 13 = .ok (.iadd, 1) := by decide +kernel
theorem dX8_sumOf_14 : decode cX8_sumOf 14 = .ok (.istore_n 2, 1) := by decide +kernel
theorem dX8_sumOf_15 : decode cX8_sumOf 15 = .ok (.iinc 3 1, 3) := by decide +kernel
theorem dX8_sumOf_18 : decode cX8_sumOf 18 = .ok (.goto (-14), 3) := by decide +kernel
theorem dX8_sumOf_21 : decode cX8_sumOf 21 = .ok (.iload_n 2, 1) := by decide +kernel
theorem dX8_sumOf_22 : decode cX8_sumOf 22 = .ok (.ireturn, 1) := by decide +kernel
theorem dX8_partOfFraction_0 : decode cX8_partOfFraction 0 = .ok (.lload_n 2, 1) := by decide +kernel
theorem dX8_partOfFraction_1 : decode cX8_partOfFraction 1 = .ok (.lstore 5, 2) := by decide +kernel
theorem dX8_partOfFraction_3 : decode cX8_partOfFraction 3 = .ok (.lload_n 0, 1) := by decide +kernel
theorem dX8_partOfFraction_4 : decode cX8_partOfFraction 4 = .ok (.lstore 7, 2) := by decide +kernel
theorem dX8_partOfFraction_6 : decode cX8_partOfFraction 6 = .ok (.iconst 0, 1) := by decide +kernel
theorem dX8_partOfFraction_7 : decode cX8_partOfFraction 7 = .ok (.istore 9, 2) := by decide +kernel
theorem dX8_partOfFraction_9 : decode cX8_partOfFraction 9 = .ok (.iload 9, 2) := by decide +kernel
theorem dX8_partOfFraction_11 : decode cX8_partOfFraction 11 = .ok (.bipush 100, 2) := by decide +kernel
theorem dX8_partOfFraction_13 : decode cX8_partOfFraction 13 = .ok (.if_icmp .ge 31, 3) := by decide +kernel
theorem dX8_partOfFraction_16 : decode cX8_partOfFraction 16 = .ok (.lload 7, 2) := by decide +kernel
theorem dX8_partOfFraction_18 : decode cX8_partOfFraction 18 = .ok (.lconst 0, 1) := by decide +kernel
theorem dX8_partOfFraction_19 : decode cX8_partOfFraction 19 = .ok (.lcmp, 1) := by decide +kernel
theorem dX8_partOfFraction_20 : decode cX8_partOfFraction 20 = .ok (.ifCond .eq 24, 3) := by decide +kernel
theorem dX8_partOfFraction_23 : decode cX8_partOfFraction 23 = .ok (.lload 5, 2) := by decide +kernel
theorem dX8_partOfFraction_25 : decode cX8_partOfFraction 25 = .ok (.lload 7, 2) := by decide +kernel
theorem dX8_partOfFraction_27 : decode cX8_partOfFraction 27 = .ok (.lrem, 1) := by decide +kernel
theorem dX8_partOfFraction_28 : decode cX8_partOfFraction 28 = .ok (.lstore 10, 2) := by decide +kernel
theorem dX8_partOfFraction_30 : decode cX8_partOfFraction 30 = .ok (.lload 7, 2) := by decide +kernel
theorem dX8_partOfFraction_32 : decode cX8_partOfFraction 32 = .ok (.lstore 5, 2) := by decide +kernel
theorem dX8_partOfFraction_34 : decode cX8_partOfFraction 34 = .ok (.lload 10, 2) := by decide +kernel
theorem dX8_partOfFraction_36 : decode cX8_partOfFraction 36 = .ok (.lstore 7, 2) := by decide +kernel
theorem dX8_partOfFraction_38 : decode cX8_partOfFraction 38 = .ok (.iinc 9 1, 3) := by decide +kernel
theorem dX8_partOfFraction_41 : decode cX8_partOfFraction 41 = .ok (.goto (-32), 3) := by decide +kernel
theorem dX8_partOfFraction_44 : decode cX8_partOfFraction 44 = .ok (.lload 5, 2) := by decide +kernel
theorem dX8_partOfFraction_46 : decode cX8_partOfFraction 46 = .ok (.lconst 0, 1) := by decide +kernel
theorem dX8_partOfFraction_47 : decode cX8_partOfFraction 47 = .ok (.lcmp, 1) := by decide +kernel
theorem dX8_partOfFraction_48 : decode cX8_partOfFraction 48 = .ok (.ifCond .ne 7, 3) := by decide +kernel
theorem dX8_partOfFraction_51 : decode cX8_partOfFraction 51 = .ok (.ldc2_w 248, 3) := by decide +kernel
theorem dX8_partOfFraction_54 : decode cX8_partOfFraction 54 = .ok (.lreturn, 1) := by decide +kernel
theorem dX8_partOfFraction_55 : decode cX8_partOfFraction 55 = .ok (.iload 4, 2) := by decide +kernel
theorem dX8_partOfFraction_57 : decode cX8_partOfFraction 57 = .ok (.ifCond .ne 7, 3) := by decide +kernel
theorem dX8_partOfFraction_60 : decode cX8_partOfFraction 60 = .ok (.lload_n 0, 1) := by decide +kernel
theorem dX8_partOfFraction_61 : decode cX8_partOfFraction 61 = .ok (.goto 4, 3) := by decide +kernel
theorem dX8_partOfFraction_64 : decode cX8_partOfFraction 64 = .ok (.lload_n 2, 1) := by decide +kernel
theorem dX8_partOfFraction_65 : decode cX8_partOfFraction 65 = .ok (.lload 5, 2) := by decide +kernel
theorem dX8_partOfFraction_67 : decode cX8_partOfFraction 67 = .ok (.ldiv, 1) := by decide +kernel
theorem dX8_partOfFraction_68 : decode cX8_partOfFraction 68 = .ok (.lreturn, 1) := by decide +kernel
theorem dX8_beginTrial_0 : decode cX8_beginTrial 0 = .ok (.aload_n 0, 1) := by decide +kernel
theorem dX8_beginTrial_1 : decode cX8_beginTrial 1 = .ok (.getfield 16, 3) := by decide +kernel
theorem dX8_beginTrial_4 : decode cX8_beginTrial 4 = .ok (.aload_n 0, 1) := by decide +kernel
theorem dX8_beginTrial_5 : decode cX8_beginTrial 5 = .ok (.getfield 10, 3) := by decide +kernel
theorem dX8_beginTrial_8 : decode cX8_beginTrial 8 = .ok (.invokevirtual 109, 3) := by decide +kernel
theorem dX8_beginTrial_11 : decode cX8_beginTrial 11 = .ok (.return_, 1) := by decide +kernel
theorem dX8_trialMinutes_0 : decode cX8_trialMinutes 0 = .ok (.aload_n 0, 1) := by decide +kernel
theorem dX8_trialMinutes_1 : decode cX8_trialMinutes 1 = .ok (.getfield 16, 3) := by decide +kernel
theorem dX8_trialMinutes_4 : decode cX8_trialMinutes 4 = .ok (.getfield 132, 3) := by decide +kernel
theorem dX8_trialMinutes_7 : decode cX8_trialMinutes 7 = .ok (.aload_n 0, 1) := by decide +kernel
theorem dX8_trialMinutes_8 : decode cX8_trialMinutes 8 = .ok (.getfield 10, 3) := by decide +kernel
theorem dX8_trialMinutes_11 : decode cX8_trialMinutes 11 = .ok (.getfield 132, 3) := by decide +kernel
theorem dX8_trialMinutes_14 : decode cX8_trialMinutes 14 = .ok (.isub, 1) := by decide +kernel
theorem dX8_trialMinutes_15 : decode cX8_trialMinutes 15 = .ok (.ireturn, 1) := by decide +kernel
theorem dX8_daysTillAllDone_0 : decode cX8_daysTillAllDone 0 = .ok (.iconst 1, 1) := by decide +kernel
theorem dX8_daysTillAllDone_1 : decode cX8_daysTillAllDone 1 = .ok (.aload_n 0, 1) := by decide +kernel
theorem dX8_daysTillAllDone_2 : decode cX8_daysTillAllDone 2 = .ok (.getfield 16, 3) := by decide +kernel
theorem dX8_daysTillAllDone_5 : decode cX8_daysTillAllDone 5 = .ok (.getfield 126, 3) := by decide +kernel
theorem dX8_daysTillAllDone_8 : decode cX8_daysTillAllDone 8 = .ok (.ishl, 1) := by decide +kernel
theorem dX8_daysTillAllDone_9 : decode cX8_daysTillAllDone 9 = .ok (.iconst 1, 1) := by decide +kernel
theorem dX8_daysTillAllDone_10 : decode cX8_daysTillAllDone 10 = .ok (.isub, 1) := by decide +kernel
theorem dX8_daysTillAllDone_11 : decode cX8_daysTillAllDone 11 = .ok (.istore_n 2, 1) := by decide +kernel
theorem dX8_daysTillAllDone_12 : decode cX8_daysTillAllDone 12 = .ok (.iconst 0, 1) := by decide +kernel
theorem dX8_daysTillAllDone_13 : decode cX8_daysTillAllDone 13 = .ok (.istore_n 3, 1) := by decide +kernel
theorem dX8_daysTillAllDone_14 : decode cX8_daysTillAllDone 14 = .ok (.iload_n 3, 1) := by decide +kernel
theorem dX8_daysTillAllDone_15 : decode cX8_daysTillAllDone 15 = .ok (.iload_n 1, 1) := by decide +kernel
theorem dX8_daysTillAllDone_16 : decode cX8_daysTillAllDone 16 = .ok (.if_icmp .gt 29, 3) := by decide +kernel
theorem dX8_daysTillAllDone_19 : decode cX8_daysTillAllDone 19 = .ok (.aload_n 0, 1) := by decide +kernel
theorem dX8_daysTillAllDone_20 : decode cX8_daysTillAllDone 20 = .ok (.getfield 16, 3) := by decide +kernel
theorem dX8_daysTillAllDone_23 : decode cX8_daysTillAllDone 23 = .ok (.invokevirtual 138, 3) := by decide +kernel
theorem dX8_daysTillAllDone_26 : decode cX8_daysTillAllDone 26 = .ok (.iload_n 2, 1) := by decide +kernel
theorem dX8_daysTillAllDone_27 : decode cX8_daysTillAllDone 27 = .ok (.if_icmp .ne 5, 3) := by decide +kernel
theorem dX8_daysTillAllDone_30 : decode cX8_daysTillAllDone 30 = .ok (.iload_n 3, 1) := by decide +kernel
theorem dX8_daysTillAllDone_31 : decode cX8_daysTillAllDone 31 = .ok (.ireturn, 1) := by decide +kernel
theorem dX8_daysTillAllDone_32 : decode cX8_daysTillAllDone 32 = .ok (.aload_n 0, 1) := by decide +kernel
theorem dX8_daysTillAllDone_33 : decode cX8_daysTillAllDone 33 = .ok (.getfield 16, 3) := by decide +kernel
theorem dX8_daysTillAllDone_36 : decode cX8_daysTillAllDone 36 = .ok (.invokevirtual 290, 3) := by decide +kernel
theorem dX8_daysTillAllDone_39 : decode cX8_daysTillAllDone 39 = .ok (.iinc 3 1, 3) := by decide +kernel
theorem dX8_daysTillAllDone_42 : decode cX8_daysTillAllDone 42 = .ok (.goto (-28), 3) := by decide +kernel
theorem dX8_daysTillAllDone_45 : decode cX8_daysTillAllDone 45 = .ok (.bipush (-4), 2) := by decide +kernel
theorem dX8_daysTillAllDone_47 : decode cX8_daysTillAllDone 47 = .ok (.ireturn, 1) := by decide +kernel
theorem dX8_findOrder_0 : decode cX8_findOrder 0 = .ok (.aload_n 0, 1) := by decide +kernel
theorem dX8_findOrder_1 : decode cX8_findOrder 1 = .ok (.getfield 10, 3) := by decide +kernel
theorem dX8_findOrder_4 : decode cX8_findOrder 4 = .ok (.getfield 126, 3) := by decide +kernel
theorem dX8_findOrder_7 : decode cX8_findOrder 7 = .ok (.istore_n 1, 1) := by decide +kernel
theorem dX8_findOrder_8 : decode cX8_findOrder 8 = .ok (.iconst 0, 1) := by decide +kernel
theorem dX8_findOrder_9 : decode cX8_findOrder 9 = .ok (.istore_n 2, 1) := by decide +kernel
theorem dX8_findOrder_10 : decode cX8_findOrder 10 = .ok (.iload_n 2, 1) := by decide +kernel
theorem dX8_findOrder_11 : decode cX8_findOrder 11 = .ok (.iload_n 1, 1) := by decide +kernel
theorem dX8_findOrder_12 : decode cX8_findOrder 12 = .ok (.if_icmp .ge 16, 3) := by decide +kernel
theorem dX8_findOrder_15 : decode cX8_findOrder 15 = .ok (.aload_n 0, 1) := by decide +kernel
theorem dX8_findOrder_16 : decode cX8_findOrder 16 = .ok (.getfield 45, 3) := by decide +kernel
theorem dX8_findOrder_19 : decode cX8_findOrder 19 = .ok (.iload_n 2, 1) := by decide +kernel
theorem dX8_findOrder_20 : decode cX8_findOrder 20 = .ok (.iload_n 2, 1) := by decide +kernel
theorem dX8_findOrder_21 : decode cX8_findOrder 21 = .ok (.iastore, 1) := by decide +kernel
theorem dX8_findOrder_22 : decode cX8_findOrder 22 = .ok (.iinc 2 1, 3) := by decide +kernel
theorem dX8_findOrder_25 : decode cX8_findOrder 25 = .ok (.goto (-15), 3) := by decide +kernel
theorem dX8_findOrder_28 : decode cX8_findOrder 28 = .ok (.ldc 237, 2) := by decide +kernel
theorem dX8_findOrder_30 : decode cX8_findOrder 30 = .ok (.istore_n 2, 1) := by decide +kernel
theorem dX8_findOrder_31 : decode cX8_findOrder 31 = .ok (.iconst 1, 1) := by decide +kernel
theorem dX8_findOrder_32 : decode cX8_findOrder 32 = .ok (.istore_n 3, 1) := by decide +kernel
theorem dX8_findOrder_33 : decode cX8_findOrder 33 = .ok (.iconst 0, 1) := by decide +kernel
theorem dX8_findOrder_34 : decode cX8_findOrder 34 = .ok (.istore 4, 2) := by decide +kernel
theorem dX8_findOrder_36 : decode cX8_findOrder 36 = .ok (.iload 4, 2) := by decide +kernel
theorem dX8_findOrder_38 : decode cX8_findOrder 38 = .ok (.bipush 24, 2) := by decide +kernel
theorem dX8_findOrder_40 : decode cX8_findOrder 40 = .ok (.if_icmp .ge 83, 3) := by decide +kernel
theorem dX8_findOrder_43 : decode cX8_findOrder 43 = .ok (.iload_n 3, 1) := by decide +kernel
theorem dX8_findOrder_44 : decode cX8_findOrder 44 = .ok (.ifCond .eq 79, 3) := by decide +kernel
theorem dX8_findOrder_47 : decode cX8_findOrder 47 = .ok (.aload_n 0, 1) := by decide +kernel
theorem dX8_findOrder_48 : decode cX8_findOrder 48 = .ok (.invokevirtual 205, 3) := by decide +kernel
theorem dX8_findOrder_51 : decode cX8_findOrder 51 = .ok (.iconst 0, 1) := by decide +kernel
theorem dX8_findOrder_52 : decode cX8_findOrder 52 = .ok (.istore 5, 2) := by decide +kernel
theorem dX8_findOrder_54 : decode cX8_findOrder 54 = .ok (.iload 5, 2) := by decide +kernel
theorem dX8_findOrder_56 : decode cX8_findOrder 56 = .ok (.iload_n 1, 1) := by decide +kernel
theorem dX8_findOrder_57 : decode cX8_findOrder 57 = .ok (.if_icmp .ge 24, 3) := by decide +kernel
theorem dX8_findOrder_60 : decode cX8_findOrder 60 = .ok (.aload_n 0, 1) := by decide +kernel
theorem dX8_findOrder_61 : decode cX8_findOrder 61 = .ok (.getfield 16, 3) := by decide +kernel
theorem dX8_findOrder_64 : decode cX8_findOrder 64 = .ok (.aload_n 0, 1) := by decide +kernel
theorem dX8_findOrder_65 : decode cX8_findOrder 65 = .ok (.getfield 45, 3) := by decide +kernel
theorem dX8_findOrder_68 : decode cX8_findOrder 68 = .ok (.iload 5, 2) := by decide +kernel
theorem dX8_findOrder_70 : decode cX8_findOrder 70 = .ok (.iaload, 1) := by decide +kernel
theorem dX8_findOrder_71 : decode cX8_findOrder 71 = .ok (.invokevirtual 231, 3) := by decide +kernel
theorem dX8_findOrder_74 : decode cX8_findOrder 74 = .ok (.pop, 1) := by decide +kernel
theorem dX8_findOrder_75 : decode cX8_findOrder 75 = .ok (.iinc 5 1, 3) := by decide +kernel
theorem dX8_findOrder_78 : decode cX8_findOrder 78 = .ok (.goto (-24), 3) := by decide +kernel
theorem dX8_findOrder_81 : decode cX8_findOrder 81 = .ok (.aload_n 0, 1) := by decide +kernel
theorem dX8_findOrder_82 : decode cX8_findOrder 82 = .ok (.invokevirtual 218, 3) := by decide +kernel
theorem dX8_findOrder_85 : decode cX8_findOrder 85 = .ok (.iload_n 2, 1) := by decide +kernel
theorem dX8_findOrder_86 : decode cX8_findOrder 86 = .ok (.if_icmp .ge 22, 3) := by decide +kernel
theorem dX8_findOrder_89 : decode cX8_findOrder 89 = .ok (.aload_n 0, 1) := by decide +kernel
theorem dX8_findOrder_90 : decode cX8_findOrder 90 = .ok (.invokevirtual 218, 3) := by decide +kernel
theorem dX8_findOrder_93 : decode cX8_findOrder 93 = .ok (.istore_n 2, 1) := by decide +kernel
theorem dX8_findOrder_94 : decode cX8_findOrder 94 = .ok (.aload_n 0, 1) := by decide +kernel
theorem dX8_findOrder_95 : decode cX8_findOrder 95 = .ok (.getfield 45, 3) := by decide +kernel
theorem dX8_findOrder_98 : decode cX8_findOrder 98 = .ok (.iconst 0, 1) := by decide +kernel
theorem dX8_findOrder_99 : decode cX8_findOrder 99 = .ok (.aload_n 0, 1) := by decide +kernel
theorem dX8_findOrder_100 : decode cX8_findOrder 100 = .ok (.getfield 49, 3) := by decide +kernel
theorem dX8_findOrder_103 : decode cX8_findOrder 103 = .ok (.iconst 0, 1) := by decide +kernel
theorem dX8_findOrder_104 : decode cX8_findOrder 104 = .ok (.iload_n 1, 1) := by decide +kernel
theorem dX8_findOrder_105 : decode cX8_findOrder 105 = .ok (.invokestatic 326, 3) := by decide +kernel
theorem dX8_findOrder_108 : decode cX8_findOrder 108 = .ok (.aload_n 0, 1) := by decide +kernel
theorem dX8_findOrder_109 : decode cX8_findOrder 109 = .ok (.getfield 45, 3) := by decide +kernel
theorem dX8_findOrder_112 : decode cX8_findOrder 112 = .ok (.iload_n 1, 1) := by decide +kernel
theorem dX8_findOrder_113 : decode cX8_findOrder 113 = .ok (.invokestatic 332, 3) := by decide +kernel
theorem dX8_findOrder_116 : decode cX8_findOrder 116 = .ok (.istore_n 3, 1) := by decide +kernel
theorem dX8_findOrder_117 : decode cX8_findOrder 117 = .ok (.iinc 4 1, 3) := by decide +kernel
theorem dX8_findOrder_120 : decode cX8_findOrder 120 = .ok (.goto (-84), 3) := by decide +kernel
theorem dX8_findOrder_123 : decode cX8_findOrder 123 = .ok (.iload_n 2, 1) := by decide +kernel
theorem dX8_findOrder_124 : decode cX8_findOrder 124 = .ok (.ireturn, 1) := by decide +kernel
theorem dX8_turnToNextOrder_0 : decode cX8_turnToNextOrder 0 = .ok (.iload_n 1, 1) := by decide +kernel
theorem dX8_turnToNextOrder_1 : decode cX8_turnToNextOrder 1 = .ok (.iconst 2, 1) := by decide +kernel
theorem dX8_turnToNextOrder_2 : decode cX8_turnToNextOrder 2 = .ok (.isub, 1) := by decide +kernel
theorem dX8_turnToNextOrder_3 : decode cX8_turnToNextOrder 3 = .ok (.istore_n 2, 1) := by decide +kernel
theorem dX8_turnToNextOrder_4 : decode cX8_turnToNextOrder 4 = .ok (.iload_n 2, 1) := by decide +kernel
theorem dX8_turnToNextOrder_5 : decode cX8_turnToNextOrder 5 = .ok (.ifCond .lt 20, 3) := by decide +kernel
theorem dX8_turnToNextOrder_8 : decode cX8_turnToNextOrder 8 = .ok (.aload_n 0, 1) := by decide +kernel
theorem dX8_turnToNextOrder_9 : decode cX8_turnToNextOrder 9 = .ok (.iload_n 2, 1) := by decide +kernel
theorem dX8_turnToNextOrder_10 : decode cX8_turnToNextOrder 10 = .ok (.iaload, 1) := by decide +kernel
theorem dX8_turnToNextOrder_11 : decode cX8_turnToNextOrder 11 = .ok (.aload_n 0, 1) := by decide +kernel
theorem dX8_turnToNextOrder_12 : decode cX8_turnToNextOrder 12 = .ok (.iload_n 2, 1) := by decide +kernel
theorem dX8_turnToNextOrder_13 : decode cX8_turnToNextOrder 13 = .ok (.iconst 1, 1) := by decide +kernel
theorem dX8_turnToNextOrder_14 : decode cX8_turnToNextOrder 14 = .ok (.iadd, 1) := by decide +kernel
theorem dX8_turnToNextOrder_15 : decode cX8_turnToNextOrder 15 = .ok (.iaload, 1) := by decide +kernel
theorem dX8_turnToNextOrder_16 : decode cX8_turnToNextOrder 16 = .ok (.if_icmp .le 9, 3) := by decide +kernel
theorem dX8_turnToNextOrder_19 : decode cX8_turnToNextOrder 19 = .ok (.iinc 2 (-1), 3) := by decide +kernel
theorem dX8_turnToNextOrder_22 : decode cX8_turnToNextOrder 22 = .ok (.goto (-18), 3) := by decide +kernel
theorem dX8_turnToNextOrder_25 : decode cX8_turnToNextOrder 25 = .ok (.iload_n 2, 1) := by decide +kernel
theorem dX8_turnToNextOrder_26 : decode cX8_turnToNextOrder 26 = .ok (.ifCond .ge 5, 3) := by decide +kernel
theorem dX8_turnToNextOrder_29 : decode cX8_turnToNextOrder 29 = .ok (.iconst 0, 1) := by decide +kernel
theorem dX8_turnToNextOrder_30 : decode cX8_turnToNextOrder 30 = .ok (.ireturn, 1) := by decide +kernel
theorem dX8_turnToNextOrder_31 : decode cX8_turnToNextOrder 31 = .ok (.iload_n 1, 1) := by decide +kernel
theorem dX8_turnToNextOrder_32 : decode cX8_turnToNextOrder 32 = .ok (.iconst 1, 1) := by decide +kernel
theorem dX8_turnToNextOrder_33 : decode cX8_turnToNextOrder 33 = .ok (.isub, 1) := by decide +kernel
theorem dX8_turnToNextOrder_34 : decode cX8_turnToNextOrder 34 = .ok (.istore_n 3, 1) := by decide +kernel
theorem dX8_turnToNextOrder_35 : decode cX8_turnToNextOrder 35 = .ok (.iload_n 3, 1) := by decide +kernel
theorem dX8_turnToNextOrder_36 : decode cX8_turnToNextOrder 36 = .ok (.iload_n 2, 1) := by decide +kernel
theorem dX8_turnToNextOrder_37 : decode cX8_turnToNextOrder 37 = .ok (.if_icmp .le 18, 3) := by decide +kernel
theorem dX8_turnToNextOrder_40 : decode cX8_turnToNextOrder 40 = .ok (.aload_n 0, 1) := by decide +kernel
theorem dX8_turnToNextOrder_41 : decode cX8_turnToNextOrder 41 = .ok (.iload_n 3, 1) := by decide +kernel
theorem dX8_turnToNextOrder_42 : decode cX8_turnToNextOrder 42 = .ok (.iaload, 1) := by decide +kernel
theorem dX8_turnToNextOrder_43 : decode cX8_turnToNextOrder 43 = .ok (.aload_n 0, 1) := by decide +kernel
theorem dX8_turnToNextOrder_44 : decode cX8_turnToNextOrder 44 = .ok (.iload_n 2, 1) := by decide +kernel
theorem dX8_turnToNextOrder_45 : decode cX8_turnToNextOrder 45 = .ok (.iaload, 1) := by decide +kernel
theorem dX8_turnToNextOrder_46 : decode cX8_turnToNextOrder 46 = .ok (.if_icmp .ge 9, 3) := by decide +kernel
theorem dX8_turnToNextOrder_49 : decode cX8_turnToNextOrder 49 = .ok (.iinc 3 (-1), 3) := by decide +kernel
theorem dX8_turnToNextOrder_52 : decode cX8_turnToNextOrder 52 = .ok (.goto (-17), 3) := by decide +kernel
theorem dX8_turnToNextOrder_55 : decode cX8_turnToNextOrder 55 = .ok (.aload_n 0, 1) := by decide +kernel
theorem dX8_turnToNextOrder_56 : decode cX8_turnToNextOrder 56 = .ok (.iload_n 2, 1) := by decide +kernel
theorem dX8_turnToNextOrder_57 : decode cX8_turnToNextOrder 57 = .ok (.iload_n 3, 1) := by decide +kernel
theorem dX8_turnToNextOrder_58 : decode cX8_turnToNextOrder 58 = .ok (.invokestatic 336, 3) := by decide +kernel
theorem dX8_turnToNextOrder_61 : decode cX8_turnToNextOrder 61 = .ok (.iload_n 1, 1) := by decide +kernel
theorem dX8_turnToNextOrder_62 : decode cX8_turnToNextOrder 62 = .ok (.iconst 1, 1) := by decide +kernel
theorem dX8_turnToNextOrder_63 : decode cX8_turnToNextOrder 63 = .ok (.isub, 1) := by decide +kernel
theorem dX8_turnToNextOrder_64 : decode cX8_turnToNextOrder 64 = .ok (.istore 4, 2) := by decide +kernel
theorem dX8_turnToNextOrder_66 : decode cX8_turnToNextOrder 66 = .ok (.iload_n 2, 1) := by decide +kernel
theorem dX8_turnToNextOrder_67 : decode cX8_turnToNextOrder 67 = .ok (.iconst 1, 1) := by decide +kernel
theorem dX8_turnToNextOrder_68 : decode cX8_turnToNextOrder 68 = .ok (.iadd, 1) := by decide +kernel
theorem dX8_turnToNextOrder_69 : decode cX8_turnToNextOrder 69 = .ok (.istore 5, 2) := by decide +kernel
theorem dX8_turnToNextOrder_71 : decode cX8_turnToNextOrder 71 = .ok (.iload 5, 2) := by decide +kernel
theorem dX8_turnToNextOrder_73 : decode cX8_turnToNextOrder 73 = .ok (.iload 4, 2) := by decide +kernel
theorem dX8_turnToNextOrder_75 : decode cX8_turnToNextOrder 75 = .ok (.if_icmp .ge 20, 3) := by decide +kernel
theorem dX8_turnToNextOrder_78 : decode cX8_turnToNextOrder 78 = .ok (.aload_n 0, 1) := by decide +kernel
theorem dX8_turnToNextOrder_79 : decode cX8_turnToNextOrder 79 = .ok (.iload 5, 2) := by decide +kernel
theorem dX8_turnToNextOrder_81 : decode cX8_turnToNextOrder 81 = .ok (.iload 4, 2) := by decide +kernel
theorem dX8_turnToNextOrder_83 : decode cX8_turnToNextOrder 83 = .ok (.invokestatic 336, 3) := by decide +kernel
theorem dX8_turnToNextOrder_86 : decode cX8_turnToNextOrder 86 = .ok (.iinc 4 (-1), 3) := by decide +kernel
theorem dX8_turnToNextOrder_89 : decode cX8_turnToNextOrder 89 = .ok (.iinc 5 1, 3) := by decide +kernel
theorem dX8_turnToNextOrder_92 : decode cX8_turnToNextOrder 92 = .ok (.goto (-21), 3) := by decide +kernel
theorem dX8_turnToNextOrder_95 : decode cX8_turnToNextOrder 95 = .ok (.iconst 1, 1) := by decide +kernel
theorem dX8_turnToNextOrder_96 : decode cX8_turnToNextOrder 96 = .ok (.ireturn, 1) := by decide +kernel
theorem dX8_exchange_0 : decode cX8_exchange 0 = .ok (.aload_n 0, 1) := by decide +kernel
theorem dX8_exchange_1 : decode cX8_exchange 1 = .ok (.iload_n 1, 1) := by decide +kernel
theorem dX8_exchange_2 : decode cX8_exchange 2 = .ok (.aload_n 0, 1) := by decide +kernel
theorem dX8_exchange_3 : decode cX8_exchange 3 = .ok (.iload_n 2, 1) := by decide +kernel
theorem dX8_exchange_4 : decode cX8_exchange 4 = .ok (.aload_n 0, 1) := by decide +kernel
theorem dX8_exchange_5 : decode cX8_exchange 5 = .ok (.iload_n 1, 1) := by decide +kernel
theorem dX8_exchange_6 : decode cX8_exchange 6 = .ok (.iaload, 1) := by decide +kernel
theorem dX8_exchange_7 : decode cX8_exchange 7 = .ok (.invokestatic 184, 3) := by decide +kernel
theorem dX8_exchange_10 : decode cX8_exchange 10 = .ok (.iastore, 1) := by decide +kernel
theorem dX8_exchange_11 : decode cX8_exchange 11 = .ok (.return_, 1) := by decide +kernel
theorem dX8_heightsAsSeen_0 : decode cX8_heightsAsSeen 0 = .ok (.iconst 0, 1) := by decide +kernel
theorem dX8_heightsAsSeen_1 : decode cX8_heightsAsSeen 1 = .ok (.istore_n 2, 1) := by decide +kernel
theorem dX8_heightsAsSeen_2 : decode cX8_heightsAsSeen 2 = .ok (.iconst 0, 1) := by decide +kernel
theorem dX8_heightsAsSeen_3 : decode cX8_heightsAsSeen 3 = .ok (.istore_n 3, 1) := by decide +kernel
theorem dX8_heightsAsSeen_4 : decode cX8_heightsAsSeen 4 = .ok (.iload_n 3, 1) := by decide +kernel
theorem dX8_heightsAsSeen_5 : decode cX8_heightsAsSeen 5 = .ok (.bipush 9, 2) := by decide +kernel
theorem dX8_heightsAsSeen_7 : decode cX8_heightsAsSeen 7 = .ok (.if_icmp .gt 43, 3) := by decide +kernel
theorem dX8_heightsAsSeen_10 : decode cX8_heightsAsSeen 10 = .ok (.aload_n 0, 1) := by decide +kernel
theorem dX8_heightsAsSeen_11 : decode cX8_heightsAsSeen 11 = .ok (.invokevirtual 205, 3) := by decide +kernel
theorem dX8_heightsAsSeen_14 : decode cX8_heightsAsSeen 14 = .ok (.aload_n 0, 1) := by decide +kernel
theorem dX8_heightsAsSeen_15 : decode cX8_heightsAsSeen 15 = .ok (.getfield 16, 3) := by decide +kernel
theorem dX8_heightsAsSeen_18 : decode cX8_heightsAsSeen 18 = .ok (.getfield 149, 3) := by decide +kernel
theorem dX8_heightsAsSeen_21 : decode cX8_heightsAsSeen 21 = .ok (.iload_n 1, 1) := by decide +kernel
theorem dX8_heightsAsSeen_22 : decode cX8_heightsAsSeen 22 = .ok (.iload_n 3, 1) := by decide +kernel
theorem dX8_heightsAsSeen_23 : decode cX8_heightsAsSeen 23 = .ok (.iastore, 1) := by decide +kernel
theorem dX8_heightsAsSeen_24 : decode cX8_heightsAsSeen 24 = .ok (.aload_n 0, 1) := by decide +kernel
theorem dX8_heightsAsSeen_25 : decode cX8_heightsAsSeen 25 = .ok (.getfield 29, 3) := by decide +kernel
theorem dX8_heightsAsSeen_28 : decode cX8_heightsAsSeen 28 = .ok (.aload_n 0, 1) := by decide +kernel
theorem dX8_heightsAsSeen_29 : decode cX8_heightsAsSeen 29 = .ok (.getfield 16, 3) := by decide +kernel
theorem dX8_heightsAsSeen_32 : decode cX8_heightsAsSeen 32 = .ok (.invokevirtual 275, 3) := by decide +kernel
theorem dX8_heightsAsSeen_35 : decode cX8_heightsAsSeen 35 = .ok (.ifCond .eq 9, 3) := by decide +kernel
theorem dX8_heightsAsSeen_38 : decode cX8_heightsAsSeen 38 = .ok (.iload_n 2, 1) := by decide +kernel
theorem dX8_heightsAsSeen_39 : decode cX8_heightsAsSeen 39 = .ok (.iconst 1, 1) := by decide +kernel
theorem dX8_heightsAsSeen_40 : decode cX8_heightsAsSeen 40 = .ok (.iload_n 3, 1) := by decide +kernel
theorem dX8_heightsAsSeen_41 : decode cX8_heightsAsSeen 41 = .ok (.ishl, 1) := by decide +kernel
theorem dX8_heightsAsSeen_42 : decode cX8_heightsAsSeen 42 = .ok (.ior, 1) := by decide +kernel
theorem dX8_heightsAsSeen_43 : decode cX8_heightsAsSeen 43 = .ok (.istore_n 2, 1) := by decide +kernel
theorem dX8_heightsAsSeen_44 : decode cX8_heightsAsSeen 44 = .ok (.iinc 3 1, 3) := by decide +kernel
theorem dX8_heightsAsSeen_47 : decode cX8_heightsAsSeen 47 = .ok (.goto (-43), 3) := by decide +kernel
theorem dX8_heightsAsSeen_50 : decode cX8_heightsAsSeen 50 = .ok (.iload_n 2, 1) := by decide +kernel
theorem dX8_heightsAsSeen_51 : decode cX8_heightsAsSeen 51 = .ok (.ireturn, 1) := by decide +kernel
theorem dX8_imagesTaken_0 : decode cX8_imagesTaken 0 = .ok (.iconst 0, 1) := by decide +kernel
theorem dX8_imagesTaken_1 : decode cX8_imagesTaken 1 = .ok (.istore_n 1, 1) := by decide +kernel
theorem dX8_imagesTaken_2 : decode cX8_imagesTaken 2 = .ok (.iconst 0, 1) := by decide +kernel
theorem dX8_imagesTaken_3 : decode cX8_imagesTaken 3 = .ok (.istore_n 2, 1) := by decide +kernel
theorem dX8_imagesTaken_4 : decode cX8_imagesTaken 4 = .ok (.iload_n 2, 1) := by decide +kernel
theorem dX8_imagesTaken_5 : decode cX8_imagesTaken 5 = .ok (.iconst 2, 1) := by decide +kernel
theorem dX8_imagesTaken_6 : decode cX8_imagesTaken 6 = .ok (.if_icmp .ge 24, 3) := by decide +kernel
theorem dX8_imagesTaken_9 : decode cX8_imagesTaken 9 = .ok (.aload_n 0, 1) := by decide +kernel
theorem dX8_imagesTaken_10 : decode cX8_imagesTaken 10 = .ok (.getfield 35, 3) := by decide +kernel
theorem dX8_imagesTaken_13 : decode cX8_imagesTaken 13 = .ok (.iload_n 2, 1) := by decide +kernel
theorem dX8_imagesTaken_14 : decode cX8_imagesTaken 14 = .ok (.aaload, 1) := by decide +kernel
theorem dX8_imagesTaken_15 : decode cX8_imagesTaken 15 = .ok (.getfield 116, 3) := by decide +kernel
theorem dX8_imagesTaken_18 : decode cX8_imagesTaken 18 = .ok (.ifCond .eq 6, 3) := by decide +kernel
theorem dX8_imagesTaken_21 : decode cX8_imagesTaken 21 = .ok (.iinc 1 1, 3) := by decide +kernel
theorem dX8_imagesTaken_24 : decode cX8_imagesTaken 24 = .ok (.iinc 2 1, 3) := by decide +kernel
theorem dX8_imagesTaken_27 : decode cX8_imagesTaken 27 = .ok (.goto (-23), 3) := by decide +kernel
theorem dX8_imagesTaken_30 : decode cX8_imagesTaken 30 = .ok (.iload_n 1, 1) := by decide +kernel
theorem dX8_imagesTaken_31 : decode cX8_imagesTaken 31 = .ok (.ireturn, 1) := by decide +kernel
