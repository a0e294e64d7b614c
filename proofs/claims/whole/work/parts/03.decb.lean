theorem dX0_init_0 : decode cX0_init 0 = .ok (.aload_n 0, 1) := by decide +kernel
theorem dX0_init_1 : decode cX0_init 1 = .ok (.invokespecial 3, 3) := by decide +kernel
theorem dX0_init_4 : decode cX0_init 4 = .ok (.aload_n 0, 1) := by decide +kernel
theorem dX0_init_5 : decode cX0_init 5 = .ok (.bipush 8, 2) := by decide +kernel
theorem dX0_init_7 : decode cX0_init 7 = .ok (.newarray .int, 2) := by decide +kernel
theorem dX0_init_9 : decode cX0_init 9 = .ok (.putfield 9, 3) := by decide +kernel
theorem dX0_init_12 : decode cX0_init 12 = .ok (.aload_n 0, 1) := by decide +kernel
theorem dX0_init_13 : decode cX0_init 13 = .ok (.bipush 8, 2) := by decide +kernel
theorem dX0_init_15 : decode cX0_init 15 = .ok (.newarray .int, 2) := by decide +kernel
theorem dX0_init_17 : decode cX0_init 17 = .ok (.putfield 15, 3) := by decide +kernel
theorem dX0_init_20 : decode cX0_init 20 = .ok (.aload_n 0, 1) := by decide +kernel
theorem dX0_init_21 : decode cX0_init 21 = .ok (.bipush 8, 2) := by decide +kernel
theorem dX0_init_23 : decode cX0_init 23 = .ok (.newarray .int, 2) := by decide +kernel
theorem dX0_init_25 : decode cX0_init 25 = .ok (.putfield 18, 3) := by decide +kernel
theorem dX0_init_28 : decode cX0_init 28 = .ok (.aload_n 0, 1) := by decide +kernel
theorem dX0_init_29 : decode cX0_init 29 = .ok (.iconst 4, 1) := by decide +kernel
theorem dX0_init_30 : decode cX0_init 30 = .ok (.newarray .int, 2) := by decide +kernel
theorem dX0_init_32 : decode cX0_init 32 = .ok (.putfield 21, 3) := by decide +kernel
theorem dX0_init_35 : decode cX0_init 35 = .ok (.aload_n 0, 1) := by decide +kernel
theorem dX0_init_36 : decode cX0_init 36 = .ok (.iconst 4, 1) := by decide +kernel
theorem dX0_init_37 : decode cX0_init 37 = .ok (.newarray .int, 2) := by decide +kernel
theorem dX0_init_39 : decode cX0_init 39 = .ok (.putfield 24, 3) := by decide +kernel
theorem dX0_init_42 : decode cX0_init 42 = .ok (.aload_n 0, 1) := by decide +kernel
theorem dX0_init_43 : decode cX0_init 43 = .ok (.iconst 4, 1) := by decide +kernel
theorem dX0_init_44 : decode cX0_init 44 = .ok (.newarray .int, 2) := by decide +kernel
theorem dX0_init_46 : decode cX0_init 46 = .ok (.putfield 27, 3) := by decide +kernel
theorem dX0_init_49 : decode cX0_init 49 = .ok (.aload_n 0, 1) := by decide +kernel
theorem dX0_init_50 : decode cX0_init 50 = .ok (.iconst 4, 1) := by decide +kernel
theorem dX0_init_51 : decode cX0_init 51 = .ok (.newarray .int, 2) := by decide +kernel
theorem dX0_init_53 : decode cX0_init 53 = .ok (.putfield 30, 3) := by decide +kernel
theorem dX0_init_56 : decode cX0_init 56 = .ok (.return_, 1) := by decide +kernel
theorem dX0_clear_0 : decode cX0_clear 0 = .ok (.aload_n 0, 1) := by decide +kernel
theorem dX0_clear_1 : decode cX0_clear 1 = .ok (.iconst 0, 1) := by decide +kernel
theorem dX0_clear_2 : decode cX0_clear 2 = .ok (.putfield 33, 3) := by decide +kernel
theorem dX0_clear_5 : decode cX0_clear 5 = .ok (.aload_n 0, 1) := by decide +kernel
theorem dX0_clear_6 : decode cX0_clear 6 = .ok (.iconst 0, 1) := by decide +kernel
theorem dX0_clear_7 : decode cX0_clear 7 = .ok (.putfield 37, 3) := by decide +kernel
theorem dX0_clear_10 : decode cX0_clear 10 = .ok (.aload_n 0, 1) := by decide +kernel
theorem dX0_clear_11 : decode cX0_clear 11 = .ok (.iconst 0, 1) := by decide +kernel
theorem dX0_clear_12 : decode cX0_clear 12 = .ok (.putfield 40, 3) := by decide +kernel
theorem dX0_clear_15 : decode cX0_clear 15 = .ok (.aload_n 0, 1) := by decide +kernel
theorem dX0_clear_16 : decode cX0_clear 16 = .ok (.iconst 0, 1) := by decide +kernel
theorem dX0_clear_17 : decode cX0_clear 17 = .ok (.putfield 43, 3) := by decide +kernel
theorem dX0_clear_20 : decode cX0_clear 20 = .ok (.aload_n 0, 1) := by decide +kernel
theorem dX0_clear_21 : decode cX0_clear 21 = .ok (.iconst 0, 1) := by decide +kernel
theorem dX0_clear_22 : decode cX0_clear 22 = .ok (.putfield 46, 3) := by decide +kernel
theorem dX0_clear_25 : decode cX0_clear 25 = .ok (.aload_n 0, 1) := by decide +kernel
theorem dX0_clear_26 : decode cX0_clear 26 = .ok (.iconst 0, 1) := by decide +kernel
theorem dX0_clear_27 : decode cX0_clear 27 = .ok (.putfield 49, 3) := by decide +kernel
theorem dX0_clear_30 : decode cX0_clear 30 = .ok (.aload_n 0, 1) := by decide +kernel
theorem dX0_clear_31 : decode cX0_clear 31 = .ok (.iconst 0, 1) := by decide +kernel
theorem dX0_clear_32 : decode cX0_clear 32 = .ok (.putfield 52, 3) := by decide +kernel
theorem dX0_clear_35 : decode cX0_clear 35 = .ok (.return_, 1) := by decide +kernel
theorem dX0_copyFrom_0 : decode cX0_copyFrom 0 = .ok (.aload_n 0, 1) := by decide +kernel
theorem dX0_copyFrom_1 : decode cX0_copyFrom 1 = .ok (.aload_n 1, 1) := by decide +kernel
theorem dX0_copyFrom_2 : decode cX0_copyFrom 2 = .ok (.getfield 33, 3) := by decide +kernel
theorem dX0_copyFrom_5 : decode cX0_copyFrom 5 = .ok (.putfield 33, 3) := by decide +kernel
theorem dX0_copyFrom_8 : decode cX0_copyFrom 8 = .ok (.aload_n 1, 1) := by decide +kernel
theorem dX0_copyFrom_9 : decode cX0_copyFrom 9 = .ok (.getfield 9, 3) := by decide +kernel
theorem dX0_copyFrom_12 : decode cX0_copyFrom 12 = .ok (.iconst 0, 1) := by decide +kernel
theorem dX0_copyFrom_13 : decode cX0_copyFrom 13 = .ok (.aload_n 0, 1) := by decide +kernel
theorem dX0_copyFrom_14 : decode cX0_copyFrom 14 = .ok (.getfield 9, 3) := by decide +kernel
theorem dX0_copyFrom_17 : decode cX0_copyFrom 17 = .ok (.iconst 0, 1) := by decide +kernel
theorem dX0_copyFrom_18 : decode cX0_copyFrom 18 = .ok (.bipush 8, 2) := by decide +kernel
theorem dX0_copyFrom_20 : decode cX0_copyFrom 20 = .ok (.invokestatic 55, 3) := by decide +kernel
theorem dX0_copyFrom_23 : decode cX0_copyFrom 23 = .ok (.aload_n 1, 1) := by decide +kernel
theorem dX0_copyFrom_24 : decode cX0_copyFrom 24 = .ok (.getfield 15, 3) := by decide +kernel
theorem dX0_copyFrom_27 : decode cX0_copyFrom 27 = .ok (.iconst 0, 1) := by decide +kernel
theorem dX0_copyFrom_28 : decode cX0_copyFrom 28 = .ok (.aload_n 0, 1) := by decide +kernel
theorem dX0_copyFrom_29 : decode cX0_copyFrom 29 = .ok (.getfield 15, 3) := by decide +kernel
theorem dX0_copyFrom_32 : decode cX0_copyFrom 32 = .ok (.iconst 0, 1) := by decide +kernel
theorem dX0_copyFrom_33 : decode cX0_copyFrom 33 = .ok (.bipush 8, 2) := by decide +kernel
theorem dX0_copyFrom_35 : decode cX0_copyFrom 35 = .ok (.invokestatic 55, 3) := by decide +kernel
theorem dX0_copyFrom_38 : decode cX0_copyFrom 38 = .ok (.aload_n 1, 1) := by decide +kernel
theorem dX0_copyFrom_39 : decode cX0_copyFrom 39 = .ok (.getfield 18, 3) := by decide +kernel
theorem dX0_copyFrom_42 : decode cX0_copyFrom 42 = .ok (.iconst 0, 1) := by decide +kernel
theorem dX0_copyFrom_43 : decode cX0_copyFrom 43 = .ok (.aload_n 0, 1) := by decide +kernel
theorem dX0_copyFrom_44 : decode cX0_copyFrom 44 = .ok (.getfield 18, 3) := by decide +kernel
theorem dX0_copyFrom_47 : decode cX0_copyFrom 47 = .ok (.iconst 0, 1) := by decide +kernel
theorem dX0_copyFrom_48 : decode cX0_copyFrom 48 = .ok (.bipush 8, 2) := by decide +kernel
theorem dX0_copyFrom_50 : decode cX0_copyFrom 50 = .ok (.invokestatic 55, 3) := by decide +kernel
theorem dX0_copyFrom_53 : decode cX0_copyFrom 53 = .ok (.aload_n 0, 1) := by decide +kernel
theorem dX0_copyFrom_54 : decode cX0_copyFrom 54 = .ok (.aload_n 1, 1) := by decide +kernel
theorem dX0_copyFrom_55 : decode cX0_copyFrom 55 = .ok (.getfield 37, 3) := by decide +kernel
theorem dX0_copyFrom_58 : decode cX0_copyFrom 58 = .ok (.putfield 37, 3) := by decide +kernel
theorem dX0_copyFrom_61 : decode cX0_copyFrom 61 = .ok (.aload_n 1, 1) := by decide +kernel
theorem dX0_copyFrom_62 : decode cX0_copyFrom 62 = .ok (.getfield 21, 3) := by decide +kernel
theorem dX0_copyFrom_65 : decode cX0_copyFrom 65 = .ok (.iconst 0, 1) := by decide +kernel
theorem dX0_copyFrom_66 : decode cX0_copyFrom 66 = .ok (.aload_n 0, 1) := by decide +kernel
theorem dX0_copyFrom_67 : decode cX0_copyFrom 67 = .ok (.getfield 21, 3) := by decide +kernel
theorem dX0_copyFrom_70 : decode cX0_copyFrom 70 = .ok (.iconst 0, 1) := by decide +kernel
theorem dX0_copyFrom_71 : decode cX0_copyFrom 71 = .ok (.iconst 4, 1) := by decide +kernel
theorem dX0_copyFrom_72 : decode cX0_copyFrom 72 = .ok (.invokestatic 55, 3) := by decide +kernel
theorem dX0_copyFrom_75 : decode cX0_copyFrom 75 = .ok (.aload_n 1, 1) := by decide +kernel
theorem dX0_copyFrom_76 : decode cX0_copyFrom 76 = .ok (.getfield 24, 3) := by decide +kernel
theorem dX0_copyFrom_79 : decode cX0_copyFrom 79 = .ok (.iconst 0, 1) := by decide +kernel
theorem dX0_copyFrom_80 : decode cX0_copyFrom 80 = .ok (.aload_n 0, 1) := by decide +kernel
theorem dX0_copyFrom_81 : decode cX0_copyFrom 81 = .ok (.getfield 24, 3) := by decide +kernel
theorem dX0_copyFrom_84 : decode cX0_copyFrom 84 = .ok (.iconst 0, 1) := by decide +kernel
theorem dX0_copyFrom_85 : decode cX0_copyFrom 85 = .ok (.iconst 4, 1) := by decide +kernel
theorem dX0_copyFrom_86 : decode cX0_copyFrom 86 = .ok (.invokestatic 55, 3) := by decide +kernel
theorem dX0_copyFrom_89 : decode cX0_copyFrom 89 = .ok (.aload_n 1, 1) := by decide +kernel
theorem dX0_copyFrom_90 : decode cX0_copyFrom 90 = .ok (.getfield 27, 3) := by decide +kernel
theorem dX0_copyFrom_93 : decode cX0_copyFrom 93 = .ok (.iconst 0, 1) := by decide +kernel
theorem dX0_copyFrom_94 : decode cX0_copyFrom 94 = .ok (.aload_n 0, 1) := by decide +kernel
theorem dX0_copyFrom_95 : decode cX0_copyFrom 95 = .ok (.getfield 27, 3) := by decide +kernel
theorem dX0_copyFrom_98 : decode cX0_copyFrom 98 = .ok (.iconst 0, 1) := by decide +kernel
theorem dX0_copyFrom_99 : decode cX0_copyFrom 99 = .ok (.iconst 4, 1) := by decide +kernel
theorem dX0_copyFrom_100 : decode cX0_copyFrom 100 = .ok (.invokestatic 55, 3) := by decide +kernel
theorem dX0_copyFrom_103 : decode cX0_copyFrom 103 = .ok (.aload_n 1, 1) := by decide +kernel
theorem dX0_copyFrom_104 : decode cX0_copyFrom 104 = .ok (.getfield 30, 3) := by decide +kernel
theorem dX0_copyFrom_107 : decode cX0_copyFrom 107 = .ok (.iconst 0, 1) := by decide +kernel
theorem dX0_copyFrom_108 : decode cX0_copyFrom 108 = .ok (.aload_n 0, 1) := by decide +kernel
theorem dX0_copyFrom_109 : decode cX0_copyFrom 109 = .ok (.getfield 30, 3) := by decide +kernel
theorem dX0_copyFrom_112 : decode cX0_copyFrom 112 = .ok (.iconst 0, 1) := by decide +kernel
theorem dX0_copyFrom_113 : decode cX0_copyFrom 113 = .ok (.iconst 4, 1) := by decide +kernel
theorem dX0_copyFrom_114 : decode cX0_copyFrom 114 = .ok (.invokestatic 55, 3) := by decide +kernel
theorem dX0_copyFrom_117 : decode cX0_copyFrom 117 = .ok (.aload_n 0, 1) := by decide +kernel
theorem dX0_copyFrom_118 : decode cX0_copyFrom 118 = .ok (.aload_n 1, 1) := by decide +kernel
theorem dX0_copyFrom_119 : decode cX0_copyFrom 119 = .ok (.getfield 40, 3) := by decide +kernel
theorem dX0_copyFrom_122 : decode cX0_copyFrom 122 = .ok (.putfield 40, 3) := by decide +kernel
theorem dX0_copyFrom_125 : decode cX0_copyFrom 125 = .ok (.aload_n 0, 1) := by decide +kernel
theorem dX0_copyFrom_126 : decode cX0_copyFrom 126 = .ok (.aload_n 1, 1) := by decide +kernel
theorem dX0_copyFrom_127 : decode cX0_copyFrom 127 = .ok (.getfield 43, 3) := by decide +kernel
theorem dX0_copyFrom_130 : decode cX0_copyFrom 130 = .ok (.putfield 43, 3) := by decide +kernel
theorem dX0_copyFrom_133 : decode cX0_copyFrom 133 = .ok (.aload_n 0, 1) := by decide +kernel
theorem dX0_copyFrom_134 : decode cX0_copyFrom 134 = .ok (.aload_n 1, 1) := by decide +kernel
theorem dX0_copyFrom_135 : decode cX0_copyFrom 135 = .ok (.getfield 46, 3) := by decide +kernel
theorem dX0_copyFrom_138 : decode cX0_copyFrom 138 = .ok (.putfield 46, 3) := by decide +kernel
theorem dX0_copyFrom_141 : decode cX0_copyFrom 141 = .ok (.aload_n 0, 1) := by decide +kernel
theorem dX0_copyFrom_142 : decode cX0_copyFrom 142 = .ok (.iconst 0, 1) := by decide +kernel
theorem dX0_copyFrom_143 : decode cX0_copyFrom 143 = .ok (.putfield 49, 3) := by decide +kernel
theorem dX0_copyFrom_146 : decode cX0_copyFrom 146 = .ok (.aload_n 0, 1) := by decide +kernel
theorem dX0_copyFrom_147 : decode cX0_copyFrom 147 = .ok (.iconst 0, 1) := by decide +kernel
theorem dX0_copyFrom_148 : decode cX0_copyFrom 148 = .ok (.putfield 52, 3) := by decide +kernel
theorem dX0_copyFrom_151 : decode cX0_copyFrom 151 = .ok (.return_, 1) := by decide +kernel
theorem dX0_addBook_0 : decode cX0_addBook 0 = .ok (.aload_n 0, 1) := by decide +kernel
theorem dX0_addBook_1 : decode cX0_addBook 1 = .ok (.getfield 33, 3) := by decide +kernel
theorem dX0_addBook_4 : decode cX0_addBook 4 = .ok (.bipush 8, 2) := by decide +kernel
theorem dX0_addBook_6 : decode cX0_addBook 6 = .ok (.if_icmp .ge 43, 3) := by decide +kernel
theorem dX0_addBook_9 : decode cX0_addBook 9 = .ok (.aload_n 0, 1) := by decide +kernel
theorem dX0_addBook_10 : decode cX0_addBook 10 = .ok (.getfield 9, 3) := by decide +kernel
theorem dX0_addBook_13 : decode cX0_addBook 13 = .ok (.aload_n 0, 1) := by decide +kernel
theorem dX0_addBook_14 : decode cX0_addBook 14 = .ok (.getfield 33, 3) := by decide +kernel
theorem dX0_addBook_17 : decode cX0_addBook 17 = .ok (.iload_n 1, 1) := by decide +kernel
theorem dX0_addBook_18 : decode cX0_addBook 18 = .ok (.iastore, 1) := by decide +kernel
theorem dX0_addBook_19 : decode cX0_addBook 19 = .ok (.aload_n 0, 1) := by decide +kernel
theorem dX0_addBook_20 : decode cX0_addBook 20 = .ok (.getfield 15, 3) := by decide +kernel
theorem dX0_addBook_23 : decode cX0_addBook 23 = .ok (.aload_n 0, 1) := by decide +kernel
theorem dX0_addBook_24 : decode cX0_addBook 24 = .ok (.getfield 33, 3) := by decide +kernel
theorem dX0_addBook_27 : decode cX0_addBook 27 = .ok (.iload_n 2, 1) := by decide +kernel
theorem dX0_addBook_28 : decode cX0_addBook 28 = .ok (.iastore, 1) := by decide +kernel
theorem dX0_addBook_29 : decode cX0_addBook 29 = .ok (.aload_n 0, 1) := by decide +kernel
theorem dX0_addBook_30 : decode cX0_addBook 30 = .ok (.getfield 18, 3) := by decide +kernel
theorem dX0_addBook_33 : decode cX0_addBook 33 = .ok (.aload_n 0, 1) := by decide +kernel
theorem dX0_addBook_34 : decode cX0_addBook 34 = .ok (.getfield 33, 3) := by decide +kernel
theorem dX0_addBook_37 : decode cX0_addBook 37 = .ok (.iload_n 3, 1) := by decide +kernel
theorem dX0_addBook_38 : decode cX0_addBook 38 = .ok (.iastore, 1) := by decide +kernel
theorem dX0_addBook_39 : decode cX0_addBook 39 = .ok (.aload_n 0, 1) := by decide +kernel
theorem dX0_addBook_40 : decode cX0_addBook 40 = .ok (.dup, 1) := by decide +kernel
theorem dX0_addBook_41 : decode cX0_addBook 41 = .ok (.getfield 33, 3) := by decide +kernel
theorem dX0_addBook_44 : decode cX0_addBook 44 = .ok (.iconst 1, 1) := by decide +kernel
theorem dX0_addBook_45 : decode cX0_addBook 45 = .ok (.iadd, 1) := by decide +kernel
theorem dX0_addBook_46 : decode cX0_addBook 46 = .ok (.putfield 33, 3) := by decide +kernel
theorem dX0_addBook_49 : decode cX0_addBook 49 = .ok (.return_, 1) := by decide +kernel
theorem dX0_addReader_0 : decode cX0_addReader 0 = .ok (.aload_n 0, 1) := by decide +kernel
theorem dX0_addReader_1 : decode cX0_addReader 1 = .ok (.getfield 37, 3) := by decide +kernel
theorem dX0_addReader_4 : decode cX0_addReader 4 = .ok (.iconst 4, 1) := by decide +kernel
theorem dX0_addReader_5 : decode cX0_addReader 5 = .ok (.if_icmp .ge 53, 3) := by decide +kernel
theorem dX0_addReader_8 : decode cX0_addReader 8 = .ok (.aload_n 0, 1) := by decide +kernel
theorem dX0_addReader_9 : decode cX0_addReader 9 = .ok (.getfield 21, 3) := by decide +kernel
theorem dX0_addReader_12 : decode cX0_addReader 12 = .ok (.aload_n 0, 1) := by decide +kernel
theorem dX0_addReader_13 : decode cX0_addReader 13 = .ok (.getfield 37, 3) := by decide +kernel
theorem dX0_addReader_16 : decode cX0_addReader 16 = .ok (.iload_n 1, 1) := by decide +kernel
theorem dX0_addReader_17 : decode cX0_addReader 17 = .ok (.iastore, 1) := by decide +kernel
theorem dX0_addReader_18 : decode cX0_addReader 18 = .ok (.aload_n 0, 1) := by decide +kernel
theorem dX0_addReader_19 : decode cX0_addReader 19 = .ok (.getfield 24, 3) := by decide +kernel
theorem dX0_addReader_22 : decode cX0_addReader 22 = .ok (.aload_n 0, 1) := by decide +kernel
theorem dX0_addReader_23 : decode cX0_addReader 23 = .ok (.getfield 37, 3) := by decide +kernel
theorem dX0_addReader_26 : decode cX0_addReader 26 = .ok (.iload_n 2, 1) := by decide +kernel
theorem dX0_addReader_27 : decode cX0_addReader 27 = .ok (.iastore, 1) := by decide +kernel
theorem dX0_addReader_28 : decode cX0_addReader 28 = .ok (.aload_n 0, 1) := by decide +kernel
theorem dX0_addReader_29 : decode cX0_addReader 29 = .ok (.getfield 27, 3) := by decide +kernel
theorem dX0_addReader_32 : decode cX0_addReader 32 = .ok (.aload_n 0, 1) := by decide +kernel
theorem dX0_addReader_33 : decode cX0_addReader 33 = .ok (.getfield 37, 3) := by decide +kernel
theorem dX0_addReader_36 : decode cX0_addReader 36 = .ok (.iload_n 3, 1) := by decide +kernel
theorem dX0_addReader_37 : decode cX0_addReader 37 = .ok (.iastore, 1) := by decide +kernel
theorem dX0_addReader_38 : decode cX0_addReader 38 = .ok (.aload_n 0, 1) := by decide +kernel
theorem dX0_addReader_39 : decode cX0_addReader 39 = .ok (.getfield 30, 3) := by decide +kernel
theorem dX0_addReader_42 : decode cX0_addReader 42 = .ok (.aload_n 0, 1) := by decide +kernel
theorem dX0_addReader_43 : decode cX0_addReader 43 = .ok (.getfield 37, 3) := by decide +kernel
theorem dX0_addReader_46 : decode cX0_addReader 46 = .ok (.iconst 0, 1) := by decide +kernel
theorem dX0_addReader_47 : decode cX0_addReader 47 = .ok (.iastore, 1) := by decide +kernel
theorem dX0_addReader_48 : decode cX0_addReader 48 = .ok (.aload_n 0, 1) := by decide +kernel
theorem dX0_addReader_49 : decode cX0_addReader 49 = .ok (.dup, 1) := by decide +kernel
theorem dX0_addReader_50 : decode cX0_addReader 50 = .ok (.getfield 37, 3) := by decide +kernel
theorem dX0_addReader_53 : decode cX0_addReader 53 = .ok (.iconst 1, 1) := by decide +kernel
theorem dX0_addReader_54 : decode cX0_addReader 54 = .ok (.iadd, 1) := by decide +kernel
theorem dX0_addReader_55 : decode cX0_addReader 55 = .ok (.putfield 37, 3) := by decide +kernel
theorem dX0_addReader_58 : decode cX0_addReader 58 = .ok (.return_, 1) := by decide +kernel
theorem dX0_hasBook_0 : decode cX0_hasBook 0 = .ok (.iconst 0, 1) := by decide +kernel
theorem dX0_hasBook_1 : decode cX0_hasBook 1 = .ok (.iload_n 1, 1) := by decide +kernel
theorem dX0_hasBook_2 : decode cX0_hasBook 2 = .ok (.if_icmp .gt 15, 3) := by decide +kernel
theorem dX0_hasBook_5 : decode cX0_hasBook 5 = .ok (.iload_n 1, 1) := by decide +kernel
theorem dX0_hasBook_6 : decode cX0_hasBook 6 = .ok (.aload_n 0, 1) := by decide +kernel
theorem dX0_hasBook_7 : decode cX0_hasBook 7 = .ok (.getfield 33, 3) := by decide +kernel
theorem dX0_hasBook_10 : decode cX0_hasBook 10 = .ok (.if_icmp .ge 7, 3) := by decide +kernel
theorem dX0_hasBook_13 : decode cX0_hasBook 13 = .ok (.iconst 1, 1) := by decide +kernel
theorem dX0_hasBook_14 : decode cX0_hasBook 14 = .ok (.goto 4, 3) := by decide +kernel
theorem dX0_hasBook_17 : decode cX0_hasBook 17 = .ok (.iconst 0, 1) := by decide +kernel
theorem dX0_hasBook_18 : decode cX0_hasBook 18 = .ok (.ireturn, 1) := by decide +kernel
theorem dX0_hasReader_0 : decode cX0_hasReader 0 = .ok (.iconst 0, 1) := by decide +kernel
theorem dX0_hasReader_1 : decode cX0_hasReader 1 = .ok (.iload_n 1, 1) := by decide +kernel
theorem dX0_hasReader_2 : decode cX0_hasReader 2 = .ok (.if_icmp .gt 15, 3) := by decide +kernel
theorem dX0_hasReader_5 : decode cX0_hasReader 5 = .ok (.iload_n 1, 1) := by decide +kernel
theorem dX0_hasReader_6 : decode cX0_hasReader 6 = .ok (.aload_n 0, 1) := by decide +kernel
theorem dX0_hasReader_7 : decode cX0_hasReader 7 = .ok (.getfield 37, 3) := by decide +kernel
theorem dX0_hasReader_10 : decode cX0_hasReader 10 = .ok (.if_icmp .ge 7, 3) := by decide +kernel
theorem dX0_hasReader_13 : decode cX0_hasReader 13 = .ok (.iconst 1, 1) := by decide +kernel
theorem dX0_hasReader_14 : decode cX0_hasReader 14 = .ok (.goto 4, 3) := by decide +kernel
theorem dX0_hasReader_17 : decode cX0_hasReader 17 = .ok (.iconst 0, 1) := by decide +kernel
theorem dX0_hasReader_18 : decode cX0_hasReader 18 = .ok (.ireturn, 1) := by decide +kernel
theorem dX0_isBookOrNone_0 : decode cX0_isBookOrNone 0 = .ok (.iload_n 1, 1) := by decide +kernel
theorem dX0_isBookOrNone_1 : decode cX0_isBookOrNone 1 = .ok (.bipush 9, 2) := by decide +kernel
theorem dX0_isBookOrNone_3 : decode cX0_isBookOrNone 3 = .ok (.if_icmp .eq 11, 3) := by decide +kernel
theorem dX0_isBookOrNone_6 : decode cX0_isBookOrNone 6 = .ok (.aload_n 0, 1) := by decide +kernel
theorem dX0_isBookOrNone_7 : decode cX0_isBookOrNone 7 = .ok (.iload_n 1, 1) := by decide +kernel
theorem dX0_isBookOrNone_8 : decode cX0_isBookOrNone 8 = .ok (.invokevirtual 61, 3) := by decide +kernel
theorem dX0_isBookOrNone_11 : decode cX0_isBookOrNone 11 = .ok (.ifCond .eq 7, 3) := by decide +kernel
theorem dX0_isBookOrNone_14 : decode cX0_isBookOrNone 14 = .ok (.iconst 1, 1) := by decide +kernel
theorem dX0_isBookOrNone_15 : decode cX0_isBookOrNone 15 = .ok (.goto 4, 3) := by decide +kernel
theorem dX0_isBookOrNone_18 : decode cX0_isBookOrNone 18 = .ok (.iconst 0, 1) := by decide +kernel
theorem dX0_isBookOrNone_19 : decode cX0_isBookOrNone 19 = .ok (.ireturn, 1) := by decide +kernel
theorem dX0_isDone_0 : decode cX0_isDone 0 = .ok (.aload_n 0, 1) := by decide +kernel
theorem dX0_isDone_1 : decode cX0_isDone 1 = .ok (.aload_n 0, 1) := by decide +kernel
theorem dX0_isDone_2 : decode cX0_isDone 2 = .ok (.getfield 24, 3) := by decide +kernel
theorem dX0_isDone_5 : decode cX0_isDone 5 = .ok (.iload_n 1, 1) := by decide +kernel
theorem dX0_isDone_6 : decode cX0_isDone 6 = .ok (.iaload, 1) := by decide +kernel
theorem dX0_isDone_7 : decode cX0_isDone 7 = .ok (.invokevirtual 61, 3) := by decide +kernel
theorem dX0_isDone_10 : decode cX0_isDone 10 = .ok (.ifCond .ne 7, 3) := by decide +kernel
theorem dX0_isDone_13 : decode cX0_isDone 13 = .ok (.iconst 1, 1) := by decide +kernel
theorem dX0_isDone_14 : decode cX0_isDone 14 = .ok (.goto 4, 3) := by decide +kernel
theorem dX0_isDone_17 : decode cX0_isDone 17 = .ok (.iconst 0, 1) := by decide +kernel
theorem dX0_isDone_18 : decode cX0_isDone 18 = .ok (.ireturn, 1) := by decide +kernel
theorem dX0_hasHad_0 : decode cX0_hasHad 0 = .ok (.aload_n 0, 1) := by decide +kernel
theorem dX0_hasHad_1 : decode cX0_hasHad 1 = .ok (.getfield 30, 3) := by decide +kernel
theorem dX0_hasHad_4 : decode cX0_hasHad 4 = .ok (.iload_n 1, 1) := by decide +kernel
theorem dX0_hasHad_5 : decode cX0_hasHad 5 = .ok (.iaload, 1) := by decide +kernel
theorem dX0_hasHad_6 : decode cX0_hasHad 6 = .ok (.iload_n 2, 1) := by decide +kernel
theorem dX0_hasHad_7 : decode cX0_hasHad 7 = .ok (.ishr, 1) := by decide +kernel
theorem dX0_hasHad_8 : decode cX0_hasHad 8 = .ok (.iconst 1, 1) := by decide +kernel
theorem dX0_hasHad_9 : decode cX0_hasHad 9 = .ok (.iand, 1) := by decide +kernel
theorem dX0_hasHad_10 : decode cX0_hasHad 10 = .ok (.ifCond .eq 7, 3) := by decide +kernel
theorem dX0_hasHad_13 : decode cX0_hasHad 13 = .ok (.iconst 1, 1) := by decide +kernel
theorem dX0_hasHad_14 : decode cX0_hasHad 14 = .ok (.goto 4, 3) := by decide +kernel
theorem dX0_hasHad_17 : decode cX0_hasHad 17 = .ok (.iconst 0, 1) := by decide +kernel
theorem dX0_hasHad_18 : decode cX0_hasHad 18 = .ok (.ireturn, 1) := by decide +kernel
theorem dX0_whoAreDone_0 : decode cX0_whoAreDone 0 = .ok (.iconst 0, 1) := by decide +kernel
theorem dX0_whoAreDone_1 : decode cX0_whoAreDone 1 = .ok (.istore_n 1, 1) := by decide +kernel
theorem dX0_whoAreDone_2 : decode cX0_whoAreDone 2 = .ok (.iconst 0, 1) := by decide +kernel
theorem dX0_whoAreDone_3 : decode cX0_whoAreDone 3 = .ok (.istore_n 2, 1) := by decide +kernel
theorem dX0_whoAreDone_4 : decode cX0_whoAreDone 4 = .ok (.iload_n 2, 1) := by decide +kernel
theorem dX0_whoAreDone_5 : decode cX0_whoAreDone 5 = .ok (.aload_n 0, 1) := by decide +kernel
theorem dX0_whoAreDone_6 : decode cX0_whoAreDone 6 = .ok (.getfield 37, 3) := by decide +kernel
theorem dX0_whoAreDone_9 : decode cX0_whoAreDone 9 = .ok (.if_icmp .ge 23, 3) := by decide +kernel
theorem dX0_whoAreDone_12 : decode cX0_whoAreDone 12 = .ok (.aload_n 0, 1) := by decide +kernel
theorem dX0_whoAreDone_13 : decode cX0_whoAreDone 13 = .ok (.iload_n 2, 1) := by decide +kernel
theorem dX0_whoAreDone_14 : decode cX0_whoAreDone 14 = .ok (.invokevirtual 65, 3) := by decide +kernel
theorem dX0_whoAreDone_17 : decode cX0_whoAreDone 17 = .ok (.ifCond .eq 9, 3) := by decide +kernel
theorem dX0_whoAreDone_20 : decode cX0_whoAreDone 20 = .ok (.iload_n 1, 1) := by decide +kernel
theorem dX0_whoAreDone_21 : decode cX0_whoAreDone 21 = .ok (.iconst 1, 1) := by decide +kernel
theorem dX0_whoAreDone_22 : decode cX0_whoAreDone 22 = .ok (.iload_n 2, 1) := by decide +kernel
theorem dX0_whoAreDone_23 : decode cX0_whoAreDone 23 = .ok (.ishl, 1) := by decide +kernel
theorem dX0_whoAreDone_24 : decode cX0_whoAreDone 24 = .ok (.ior, 1) := by decide +kernel
theorem dX0_whoAreDone_25 : decode cX0_whoAreDone 25 = .ok (.istore_n 1, 1) := by decide +kernel
theorem dX0_whoAreDone_26 : decode cX0_whoAreDone 26 = .ok (.iinc 2 1, 3) := by decide +kernel
theorem dX0_whoAreDone_29 : decode cX0_whoAreDone 29 = .ok (.goto (-25), 3) := by decide +kernel
theorem dX0_whoAreDone_32 : decode cX0_whoAreDone 32 = .ok (.iload_n 1, 1) := by decide +kernel
theorem dX0_whoAreDone_33 : decode cX0_whoAreDone 33 = .ok (.ireturn, 1) := by decide +kernel
theorem dX0_whoHad_0 : decode cX0_whoHad 0 = .ok (.iconst 0, 1) := by decide +kernel
theorem dX0_whoHad_1 : decode cX0_whoHad 1 = .ok (.istore_n 2, 1) := by decide +kernel
theorem dX0_whoHad_2 : decode cX0_whoHad 2 = .ok (.iconst 0, 1) := by decide +kernel
theorem dX0_whoHad_3 : decode cX0_whoHad 3 = .ok (.istore_n 3, 1) := by decide +kernel
theorem dX0_whoHad_4 : decode cX0_whoHad 4 = .ok (.iload_n 3, 1) := by decide +kernel
theorem dX0_whoHad_5 : decode cX0_whoHad 5 = .ok (.aload_n 0, 1) := by decide +kernel
theorem dX0_whoHad_6 : decode cX0_whoHad 6 = .ok (.getfield 37, 3) := by decide +kernel
theorem dX0_whoHad_9 : decode cX0_whoHad 9 = .ok (.if_icmp .ge 24, 3) := by decide +kernel
theorem dX0_whoHad_12 : decode cX0_whoHad 12 = .ok (.aload_n 0, 1) := by decide +kernel
theorem dX0_whoHad_13 : decode cX0_whoHad 13 = .ok (.iload_n 3, 1) := by decide +kernel
theorem dX0_whoHad_14 : decode cX0_whoHad 14 = .ok (.iload_n 1, 1) := by decide +kernel
theorem dX0_whoHad_15 : decode cX0_whoHad 15 = .ok (.invokevirtual 68, 3) := by decide +kernel
theorem dX0_whoHad_18 : decode cX0_whoHad 18 = .ok (.ifCond .eq 9, 3) := by decide +kernel
theorem dX0_whoHad_21 : decode cX0_whoHad 21 = .ok (.iload_n 2, 1) := by decide +kernel
theorem dX0_whoHad_22 : decode cX0_whoHad 22 = .ok (.iconst 1, 1) := by decide +kernel
theorem dX0_whoHad_23 : decode cX0_whoHad 23 = .ok (.iload_n 3, 1) := by decide +kernel
theorem dX0_whoHad_24 : decode cX0_whoHad 24 = .ok (.ishl, 1) := by decide +kernel
theorem dX0_whoHad_25 : decode cX0_whoHad 25 = .ok (.ior, 1) := by decide +kernel
theorem dX0_whoHad_26 : decode cX0_whoHad 26 = .ok (.istore_n 2, 1) := by decide +kernel
theorem dX0_whoHad_27 : decode cX0_whoHad 27 = .ok (.iinc 3 1, 3) := by decide +kernel
theorem dX0_whoHad_30 : decode cX0_whoHad 30 = .ok (.goto (-26), 3) := by decide +kernel
theorem dX0_whoHad_33 : decode cX0_whoHad 33 = .ok (.iload_n 2, 1) := by decide +kernel
theorem dX0_whoHad_34 : decode cX0_whoHad 34 = .ok (.ireturn, 1) := by decide +kernel
theorem dX0_minutesFor_0 : decode cX0_minutesFor 0 = .ok (.aload_n 0, 1) := by decide +kernel
theorem dX0_minutesFor_1 : decode cX0_minutesFor 1 = .ok (.getfield 15, 3) := by decide +kernel
theorem dX0_minutesFor_4 : decode cX0_minutesFor 4 = .ok (.iload_n 2, 1) := by decide +kernel
theorem dX0_minutesFor_5 : decode cX0_minutesFor 5 = .ok (.iaload, 1) := by decide +kernel
theorem dX0_minutesFor_6 : decode cX0_minutesFor 6 = .ok (.istore_n 3, 1) := by decide +kernel
theorem dX0_minutesFor_7 : decode cX0_minutesFor 7 = .ok (.iconst 2, 1) := by decide +kernel
theorem dX0_minutesFor_8 : decode cX0_minutesFor 8 = .ok (.iload_n 3, 1) := by decide +kernel
theorem dX0_minutesFor_9 : decode cX0_minutesFor 9 = .ok (.imul, 1) := by decide +kernel
theorem dX0_minutesFor_10 : decode cX0_minutesFor 10 = .ok (.istore 4, 2) := by decide +kernel
theorem dX0_minutesFor_12 : decode cX0_minutesFor 12 = .ok (.aload_n 0, 1) := by decide +kernel
theorem dX0_minutesFor_13 : decode cX0_minutesFor 13 = .ok (.getfield 9, 3) := by decide +kernel
theorem dX0_minutesFor_16 : decode cX0_minutesFor 16 = .ok (.iload_n 2, 1) := by decide +kernel
theorem dX0_minutesFor_17 : decode cX0_minutesFor 17 = .ok (.iaload, 1) := by decide +kernel
theorem dX0_minutesFor_18 : decode cX0_minutesFor 18 = .ok (.aload_n 0, 1) := by decide +kernel
theorem dX0_minutesFor_19 : decode cX0_minutesFor 19 = .ok (.getfield 40, 3) := by decide +kernel
theorem dX0_minutesFor_22 : decode cX0_minutesFor 22 = .ok (.isub, 1) := by decide +kernel
theorem dX0_minutesFor_23 : decode cX0_minutesFor 23 = .ok (.invokestatic 72, 3) := by decide +kernel
theorem dX0_minutesFor_26 : decode cX0_minutesFor 26 = .ok (.istore 5, 2) := by decide +kernel
theorem dX0_minutesFor_28 : decode cX0_minutesFor 28 = .ok (.aload_n 0, 1) := by decide +kernel
theorem dX0_minutesFor_29 : decode cX0_minutesFor 29 = .ok (.getfield 21, 3) := by decide +kernel
theorem dX0_minutesFor_32 : decode cX0_minutesFor 32 = .ok (.iload_n 1, 1) := by decide +kernel
theorem dX0_minutesFor_33 : decode cX0_minutesFor 33 = .ok (.iaload, 1) := by decide +kernel
theorem dX0_minutesFor_34 : decode cX0_minutesFor 34 = .ok (.tableswitch 57 1 3 #[26, 34, 45], 26) := by decide +kernel
theorem dX0_minutesFor_60 : decode cX0_minutesFor 60 = .ok (.iload 5, 2) := by decide +kernel
theorem dX0_minutesFor_62 : decode cX0_minutesFor 62 = .ok (.iconst 2, 1) := by decide +kernel
theorem dX0_minutesFor_63 : decode cX0_minutesFor 63 = .ok (.iload 4, 2) := by decide +kernel
theorem dX0_minutesFor_65 : decode cX0_minutesFor 65 = .ok (.imul, 1) := by decide +kernel
theorem dX0_minutesFor_66 : decode cX0_minutesFor 66 = .ok (.iadd, 1) := by decide +kernel
theorem dX0_minutesFor_67 : decode cX0_minutesFor 67 = .ok (.ireturn, 1) := by decide +kernel
theorem dX0_minutesFor_68 : decode cX0_minutesFor 68 = .ok (.iload 5, 2) := by decide +kernel
theorem dX0_minutesFor_70 : decode cX0_minutesFor 70 = .ok (.iconst 2, 1) := by decide +kernel
theorem dX0_minutesFor_71 : decode cX0_minutesFor 71 = .ok (.iload_n 3, 1) := by decide +kernel
theorem dX0_minutesFor_72 : decode cX0_minutesFor 72 = .ok (.iconst 1, 1) := by decide +kernel
theorem dX0_minutesFor_73 : decode cX0_minutesFor 73 = .ok (.iadd, 1) := by decide +kernel
theorem dX0_minutesFor_74 : decode cX0_minutesFor 74 = .ok (.iconst 2, 1) := by decide +kernel
theorem dX0_minutesFor_75 : decode cX0_minutesFor 75 = .ok (.idiv, 1) := by decide +kernel
theorem dX0_minutesFor_76 : decode cX0_minutesFor 76 = .ok (.imul, 1) := by decide +kernel
theorem dX0_minutesFor_77 : decode cX0_minutesFor 77 = .ok (.iadd, 1) := by decide +kernel
theorem dX0_minutesFor_78 : decode cX0_minutesFor 78 = .ok (.ireturn, 1) := by decide +kernel
theorem dX0_minutesFor_79 : decode cX0_minutesFor 79 = .ok (.iload 5, 2) := by decide +kernel
theorem dX0_minutesFor_81 : decode cX0_minutesFor 81 = .ok (.iconst 2, 1) := by decide +kernel
theorem dX0_minutesFor_82 : decode cX0_minutesFor 82 = .ok (.iload 4, 2) := by decide +kernel
theorem dX0_minutesFor_84 : decode cX0_minutesFor 84 = .ok (.iconst 2, 1) := by decide +kernel
theorem dX0_minutesFor_85 : decode cX0_minutesFor 85 = .ok (.idiv, 1) := by decide +kernel
theorem dX0_minutesFor_86 : decode cX0_minutesFor 86 = .ok (.iconst 1, 1) := by decide +kernel
theorem dX0_minutesFor_87 : decode cX0_minutesFor 87 = .ok (.iadd, 1) := by decide +kernel
theorem dX0_minutesFor_88 : decode cX0_minutesFor 88 = .ok (.imul, 1) := by decide +kernel
theorem dX0_minutesFor_89 : decode cX0_minutesFor 89 = .ok (.iadd, 1) := by decide +kernel
theorem dX0_minutesFor_90 : decode cX0_minutesFor 90 = .ok (.ireturn, 1) := by decide +kernel
theorem dX0_minutesFor_91 : decode cX0_minutesFor 91 = .ok (.iload 5, 2) := by decide +kernel
theorem dX0_minutesFor_93 : decode cX0_minutesFor 93 = .ok (.iconst 2, 1) := by decide +kernel
theorem dX0_minutesFor_94 : decode cX0_minutesFor 94 = .ok (.iload_n 3, 1) := by decide +kernel
theorem dX0_minutesFor_95 : decode cX0_minutesFor 95 = .ok (.imul, 1) := by decide +kernel
theorem dX0_minutesFor_96 : decode cX0_minutesFor 96 = .ok (.iadd, 1) := by decide +kernel
theorem dX0_minutesFor_97 : decode cX0_minutesFor 97 = .ok (.ireturn, 1) := by decide +kernel
theorem dX0_dizzyBy_0 : decode cX0_dizzyBy 0 = .ok (.aload_n 0, 1) := by decide +kernel
theorem dX0_dizzyBy_1 : decode cX0_dizzyBy 1 = .ok (.getfield 15, 3) := by decide +kernel
theorem dX0_dizzyBy_4 : decode cX0_dizzyBy 4 = .ok (.iload_n 2, 1) := by decide +kernel
theorem dX0_dizzyBy_5 : decode cX0_dizzyBy 5 = .ok (.iaload, 1) := by decide +kernel
theorem dX0_dizzyBy_6 : decode cX0_dizzyBy 6 = .ok (.istore_n 3, 1) := by decide +kernel
theorem dX0_dizzyBy_7 : decode cX0_dizzyBy 7 = .ok (.iload_n 3, 1) := by decide +kernel
theorem dX0_dizzyBy_8 : decode cX0_dizzyBy 8 = .ok (.iconst 0, 1) := by decide +kernel
theorem dX0_dizzyBy_9 : decode cX0_dizzyBy 9 = .ok (.iload_n 3, 1) := by decide +kernel
theorem dX0_dizzyBy_10 : decode cX0_dizzyBy 10 = .ok (.iconst 5, 1) := by decide +kernel
theorem dX0_dizzyBy_11 : decode cX0_dizzyBy 11 = .ok (.isub, 1) := by decide +kernel
theorem dX0_dizzyBy_12 : decode cX0_dizzyBy 12 = .ok (.invokestatic 78, 3) := by decide +kernel
theorem dX0_dizzyBy_15 : decode cX0_dizzyBy 15 = .ok (.iadd, 1) := by decide +kernel
theorem dX0_dizzyBy_16 : decode cX0_dizzyBy 16 = .ok (.istore 4, 2) := by decide +kernel
theorem dX0_dizzyBy_18 : decode cX0_dizzyBy 18 = .ok (.aload_n 0, 1) := by decide +kernel
theorem dX0_dizzyBy_19 : decode cX0_dizzyBy 19 = .ok (.getfield 21, 3) := by decide +kernel
theorem dX0_dizzyBy_22 : decode cX0_dizzyBy 22 = .ok (.iload_n 1, 1) := by decide +kernel
theorem dX0_dizzyBy_23 : decode cX0_dizzyBy 23 = .ok (.iaload, 1) := by decide +kernel
theorem dX0_dizzyBy_24 : decode cX0_dizzyBy 24 = .ok (.tableswitch 40 1 3 #[28, 31, 35], 28) := by decide +kernel
theorem dX0_dizzyBy_52 : decode cX0_dizzyBy 52 = .ok (.iload 4, 2) := by decide +kernel
theorem dX0_dizzyBy_54 : decode cX0_dizzyBy 54 = .ok (.ireturn, 1) := by decide +kernel
theorem dX0_dizzyBy_55 : decode cX0_dizzyBy 55 = .ok (.iconst 2, 1) := by decide +kernel
theorem dX0_dizzyBy_56 : decode cX0_dizzyBy 56 = .ok (.iload_n 3, 1) := by decide +kernel
theorem dX0_dizzyBy_57 : decode cX0_dizzyBy 57 = .ok (.imul, 1) := by decide +kernel
theorem dX0_dizzyBy_58 : decode cX0_dizzyBy 58 = .ok (.ireturn, 1) := by decide +kernel
theorem dX0_dizzyBy_59 : decode cX0_dizzyBy 59 = .ok (.iload 4, 2) := by decide +kernel
theorem dX0_dizzyBy_61 : decode cX0_dizzyBy 61 = .ok (.iconst 3, 1) := by decide +kernel
theorem dX0_dizzyBy_62 : decode cX0_dizzyBy 62 = .ok (.idiv, 1) := by decide +kernel
theorem dX0_dizzyBy_63 : decode cX0_dizzyBy 63 = .ok (.ireturn, 1) := by decide +kernel
theorem dX0_dizzyBy_64 : decode cX0_dizzyBy 64 = .ok (.iload_n 3, 1) := by decide +kernel
theorem dX0_dizzyBy_65 : decode cX0_dizzyBy 65 = .ok (.ireturn, 1) := by decide +kernel
theorem dX0_refusalOf_0 : decode cX0_refusalOf 0 = .ok (.aload_n 0, 1) := by decide +kernel
theorem dX0_refusalOf_1 : decode cX0_refusalOf 1 = .ok (.iload_n 1, 1) := by decide +kernel
theorem dX0_refusalOf_2 : decode cX0_refusalOf 2 = .ok (.invokevirtual 82, 3) := by decide +kernel
theorem dX0_refusalOf_5 : decode cX0_refusalOf 5 = .ok (.ifCond .eq 11, 3) := by decide +kernel
theorem dX0_refusalOf_8 : decode cX0_refusalOf 8 = .ok (.aload_n 0, 1) := by decide +kernel
theorem dX0_refusalOf_9 : decode cX0_refusalOf 9 = .ok (.iload_n 2, 1) := by decide +kernel
theorem dX0_refusalOf_10 : decode cX0_refusalOf 10 = .ok (.invokevirtual 61, 3) := by decide +kernel
theorem dX0_refusalOf_13 : decode cX0_refusalOf 13 = .ok (.ifCond .ne 5, 3) := by decide +kernel
theorem dX0_refusalOf_16 : decode cX0_refusalOf 16 = .ok (.iconst (-1), 1) := by decide +kernel
theorem dX0_refusalOf_17 : decode cX0_refusalOf 17 = .ok (.ireturn, 1) := by decide +kernel
theorem dX0_refusalOf_18 : decode cX0_refusalOf 18 = .ok (.aload_n 0, 1) := by decide +kernel
theorem dX0_refusalOf_19 : decode cX0_refusalOf 19 = .ok (.iload_n 1, 1) := by decide +kernel
theorem dX0_refusalOf_20 : decode cX0_refusalOf 20 = .ok (.iload_n 2, 1) := by decide +kernel
theorem dX0_refusalOf_21 : decode cX0_refusalOf 21 = .ok (.invokevirtual 68, 3) := by decide +kernel
theorem dX0_refusalOf_24 : decode cX0_refusalOf 24 = .ok (.ifCond .eq 6, 3) := by decide +kernel
theorem dX0_refusalOf_27 : decode cX0_refusalOf 27 = .ok (.bipush (-2), 2) := by decide +kernel
theorem dX0_refusalOf_29 : decode cX0_refusalOf 29 = .ok (.ireturn, 1) := by decide +kernel
theorem dX0_refusalOf_30 : decode cX0_refusalOf 30 = .ok (.aload_n 0, 1) := by decide +kernel
theorem dX0_refusalOf_31 : decode cX0_refusalOf 31 = .ok (.getfield 43, 3) := by decide +kernel
theorem dX0_refusalOf_34 : decode cX0_refusalOf 34 = .ok (.aload_n 0, 1) := by decide +kernel
theorem dX0_refusalOf_35 : decode cX0_refusalOf 35 = .ok (.iload_n 1, 1) := by decide +kernel
theorem dX0_refusalOf_36 : decode cX0_refusalOf 36 = .ok (.iload_n 2, 1) := by decide +kernel
theorem dX0_refusalOf_37 : decode cX0_refusalOf 37 = .ok (.invokevirtual 85, 3) := by decide +kernel
theorem dX0_refusalOf_40 : decode cX0_refusalOf 40 = .ok (.iadd, 1) := by decide +kernel
theorem dX0_refusalOf_41 : decode cX0_refusalOf 41 = .ok (.sipush 9999, 3) := by decide +kernel
theorem dX0_refusalOf_44 : decode cX0_refusalOf 44 = .ok (.if_icmp .le 8, 3) := by decide +kernel
theorem dX0_refusalOf_47 : decode cX0_refusalOf 47 = .ok (.bipush (-3), 2) := by decide +kernel
theorem dX0_refusalOf_49 : decode cX0_refusalOf 49 = .ok (.goto 4, 3) := by decide +kernel
theorem dX0_refusalOf_52 : decode cX0_refusalOf 52 = .ok (.iconst 0, 1) := by decide +kernel
theorem dX0_refusalOf_53 : decode cX0_refusalOf 53 = .ok (.ireturn, 1) := by decide +kernel
theorem dX0_bring_0 : decode cX0_bring 0 = .ok (.aload_n 0, 1) := by decide +kernel
theorem dX0_bring_1 : decode cX0_bring 1 = .ok (.iload_n 1, 1) := by decide +kernel
theorem dX0_bring_2 : decode cX0_bring 2 = .ok (.iload_n 2, 1) := by decide +kernel
theorem dX0_bring_3 : decode cX0_bring 3 = .ok (.invokevirtual 85, 3) := by decide +kernel
theorem dX0_bring_6 : decode cX0_bring 6 = .ok (.istore_n 3, 1) := by decide +kernel
theorem dX0_bring_7 : decode cX0_bring 7 = .ok (.aload_n 0, 1) := by decide +kernel
theorem dX0_bring_8 : decode cX0_bring 8 = .ok (.dup, 1) := by decide +kernel
theorem dX0_bring_9 : decode cX0_bring 9 = .ok (.getfield 43, 3) := by decide +kernel
theorem dX0_bring_12 : decode cX0_bring 12 = .ok (.iload_n 3, 1) := by decide +kernel
theorem dX0_bring_13 : decode cX0_bring 13 = .ok (.iadd, 1) := by decide +kernel
theorem dX0_bring_14 : decode cX0_bring 14 = .ok (.putfield 43, 3) := by decide +kernel
theorem dX0_bring_17 : decode cX0_bring 17 = .ok (.aload_n 0, 1) := by decide +kernel
theorem dX0_bring_18 : decode cX0_bring 18 = .ok (.aload_n 0, 1) := by decide +kernel
theorem dX0_bring_19 : decode cX0_bring 19 = .ok (.getfield 9, 3) := by decide +kernel
theorem dX0_bring_22 : decode cX0_bring 22 = .ok (.iload_n 2, 1) := by decide +kernel
theorem dX0_bring_23 : decode cX0_bring 23 = .ok (.iaload, 1) := by decide +kernel
theorem dX0_bring_24 : decode cX0_bring 24 = .ok (.putfield 40, 3) := by decide +kernel
theorem dX0_bring_27 : decode cX0_bring 27 = .ok (.aload_n 0, 1) := by decide +kernel
theorem dX0_bring_28 : decode cX0_bring 28 = .ok (.getfield 30, 3) := by decide +kernel
theorem dX0_bring_31 : decode cX0_bring 31 = .ok (.iload_n 1, 1) := by decide +kernel
theorem dX0_bring_32 : decode cX0_bring 32 = .ok (.dup2, 1) := by decide +kernel
theorem dX0_bring_33 : decode cX0_bring 33 = .ok (.iaload, 1) := by decide +kernel
theorem dX0_bring_34 : decode cX0_bring 34 = .ok (.iconst 1, 1) := by decide +kernel
theorem dX0_bring_35 : decode cX0_bring 35 = .ok (.iload_n 2, 1) := by decide +kernel
theorem dX0_bring_36 : decode cX0_bring 36 = .ok (.ishl, 1) := by decide +kernel
theorem dX0_bring_37 : decode cX0_bring 37 = .ok (.ior, 1) := by decide +kernel
theorem dX0_bring_38 : decode cX0_bring 38 = .ok (.iastore, 1) := by decide +kernel
theorem dX0_bring_39 : decode cX0_bring 39 = .ok (.aload_n 0, 1) := by decide +kernel
theorem dX0_bring_40 : decode cX0_bring 40 = .ok (.dup, 1) := by decide +kernel
theorem dX0_bring_41 : decode cX0_bring 41 = .ok (.getfield 49, 3) := by decide +kernel
theorem dX0_bring_44 : decode cX0_bring 44 = .ok (.iconst 1, 1) := by decide +kernel
theorem dX0_bring_45 : decode cX0_bring 45 = .ok (.iadd, 1) := by decide +kernel
theorem dX0_bring_46 : decode cX0_bring 46 = .ok (.putfield 49, 3) := by decide +kernel
theorem dX0_bring_49 : decode cX0_bring 49 = .ok (.iload_n 3, 1) := by decide +kernel
theorem dX0_bring_50 : decode cX0_bring 50 = .ok (.ireturn, 1) := by decide +kernel
theorem dX0_spendDay_0 : decode cX0_spendDay 0 = .ok (.iconst 0, 1) := by decide +kernel
theorem dX0_spendDay_1 : decode cX0_spendDay 1 = .ok (.istore_n 2, 1) := by decide +kernel
theorem dX0_spendDay_2 : decode cX0_spendDay 2 = .ok (.iconst 0, 1) := by decide +kernel
theorem dX0_spendDay_3 : decode cX0_spendDay 3 = .ok (.istore_n 3, 1) := by decide +kernel
theorem dX0_spendDay_4 : decode cX0_spendDay 4 = .ok (.iload_n 3, 1) := by decide +kernel
theorem dX0_spendDay_5 : decode cX0_spendDay 5 = .ok (.bipush 8, 2) := by decide +kernel
theorem dX0_spendDay_7 : decode cX0_spendDay 7 = .ok (.if_icmp .gt 107, 3) := by decide +kernel
theorem dX0_spendDay_10 : decode cX0_spendDay 10 = .ok (.aload_n 0, 1) := by decide +kernel
theorem dX0_spendDay_11 : decode cX0_spendDay 11 = .ok (.iload_n 1, 1) := by decide +kernel
theorem dX0_spendDay_12 : decode cX0_spendDay 12 = .ok (.invokevirtual 65, 3) := by decide +kernel
theorem dX0_spendDay_15 : decode cX0_spendDay 15 = .ok (.ifCond .ne 99, 3) := by decide +kernel
theorem dX0_spendDay_18 : decode cX0_spendDay 18 = .ok (.aload_n 0, 1) := by decide +kernel
theorem dX0_spendDay_19 : decode cX0_spendDay 19 = .ok (.getfield 24, 3) := by decide +kernel
theorem dX0_spendDay_22 : decode cX0_spendDay 22 = .ok (.iload_n 1, 1) := by decide +kernel
theorem dX0_spendDay_23 : decode cX0_spendDay 23 = .ok (.iaload, 1) := by decide +kernel
theorem dX0_spendDay_24 : decode cX0_spendDay 24 = .ok (.istore 4, 2) := by decide +kernel
theorem dX0_spendDay_26 : decode cX0_spendDay 26 = .ok (.aload_n 0, 1) := by decide +kernel
theorem dX0_spendDay_27 : decode cX0_spendDay 27 = .ok (.iload_n 1, 1) := by decide +kernel
theorem dX0_spendDay_28 : decode cX0_spendDay 28 = .ok (.iload 4, 2) := by decide +kernel
theorem dX0_spendDay_30 : decode cX0_spendDay 30 = .ok (.invokevirtual 88, 3) := by decide +kernel
theorem dX0_spendDay_33 : decode cX0_spendDay 33 = .ok (.istore 5, 2) := by decide +kernel
theorem dX0_spendDay_35 : decode cX0_spendDay 35 = .ok (.aload_n 0, 1) := by decide +kernel
theorem dX0_spendDay_36 : decode cX0_spendDay 36 = .ok (.iload_n 1, 1) := by decide +kernel
theorem dX0_spendDay_37 : decode cX0_spendDay 37 = .ok (.iload 4, 2) := by decide +kernel
theorem dX0_spendDay_39 : decode cX0_spendDay 39 = .ok (.invokevirtual 68, 3) := by decide +kernel
theorem dX0_spendDay_42 : decode cX0_spendDay 42 = .ok (.ifCond .eq 14, 3) := by decide +kernel
theorem dX0_spendDay_45 : decode cX0_spendDay 45 = .ok (.aload_n 0, 1) := by decide +kernel
theorem dX0_spendDay_46 : decode cX0_spendDay 46 = .ok (.getfield 24, 3) := by decide +kernel
theorem dX0_spendDay_49 : decode cX0_spendDay 49 = .ok (.iload_n 1, 1) := by decide +kernel
theorem dX0_spendDay_50 : decode cX0_spendDay 50 = .ok (.bipush (-4), 2) := by decide +kernel
theorem dX0_spendDay_52 : decode cX0_spendDay 52 = .ok (.iastore, 1) := by decide +kernel
theorem dX0_spendDay_53 : decode cX0_spendDay 53 = .ok (.goto 55, 3) := by decide +kernel
theorem dX0_spendDay_56 : decode cX0_spendDay 56 = .ok (.iload_n 2, 1) := by decide +kernel
theorem dX0_spendDay_57 : decode cX0_spendDay 57 = .ok (.iload 5, 2) := by decide +kernel
theorem dX0_spendDay_59 : decode cX0_spendDay 59 = .ok (.iadd, 1) := by decide +kernel
theorem dX0_spendDay_60 : decode cX0_spendDay 60 = .ok (.aload_n 0, 1) := by decide +kernel
theorem dX0_spendDay_61 : decode cX0_spendDay 61 = .ok (.getfield 27, 3) := by decide +kernel
theorem dX0_spendDay_64 : decode cX0_spendDay 64 = .ok (.iload_n 1, 1) := by decide +kernel
theorem dX0_spendDay_65 : decode cX0_spendDay 65 = .ok (.iaload, 1) := by decide +kernel
theorem dX0_spendDay_66 : decode cX0_spendDay 66 = .ok (.if_icmp .le 16, 3) := by decide +kernel
theorem dX0_spendDay_69 : decode cX0_spendDay 69 = .ok (.aload_n 0, 1) := by decide +kernel
theorem dX0_spendDay_70 : decode cX0_spendDay 70 = .ok (.dup, 1) := by decide +kernel
theorem dX0_spendDay_71 : decode cX0_spendDay 71 = .ok (.getfield 52, 3) := by decide +kernel
theorem dX0_spendDay_74 : decode cX0_spendDay 74 = .ok (.iconst 1, 1) := by decide +kernel
theorem dX0_spendDay_75 : decode cX0_spendDay 75 = .ok (.iadd, 1) := by decide +kernel
theorem dX0_spendDay_76 : decode cX0_spendDay 76 = .ok (.putfield 52, 3) := by decide +kernel
theorem dX0_spendDay_79 : decode cX0_spendDay 79 = .ok (.iload 4, 2) := by decide +kernel
theorem dX0_spendDay_81 : decode cX0_spendDay 81 = .ok (.ireturn, 1) := by decide +kernel
theorem dX0_spendDay_82 : decode cX0_spendDay 82 = .ok (.aload_n 0, 1) := by decide +kernel
theorem dX0_spendDay_83 : decode cX0_spendDay 83 = .ok (.iload_n 1, 1) := by decide +kernel
theorem dX0_spendDay_84 : decode cX0_spendDay 84 = .ok (.iload 4, 2) := by decide +kernel
theorem dX0_spendDay_86 : decode cX0_spendDay 86 = .ok (.invokevirtual 91, 3) := by decide +kernel
theorem dX0_spendDay_89 : decode cX0_spendDay 89 = .ok (.pop, 1) := by decide +kernel
theorem dX0_spendDay_90 : decode cX0_spendDay 90 = .ok (.iload_n 2, 1) := by decide +kernel
theorem dX0_spendDay_91 : decode cX0_spendDay 91 = .ok (.iload 5, 2) := by decide +kernel
theorem dX0_spendDay_93 : decode cX0_spendDay 93 = .ok (.iadd, 1) := by decide +kernel
theorem dX0_spendDay_94 : decode cX0_spendDay 94 = .ok (.istore_n 2, 1) := by decide +kernel
theorem dX0_spendDay_95 : decode cX0_spendDay 95 = .ok (.aload_n 0, 1) := by decide +kernel
theorem dX0_spendDay_96 : decode cX0_spendDay 96 = .ok (.getfield 24, 3) := by decide +kernel
theorem dX0_spendDay_99 : decode cX0_spendDay 99 = .ok (.iload_n 1, 1) := by decide +kernel
theorem dX0_spendDay_100 : decode cX0_spendDay 100 = .ok (.aload_n 0, 1) := by decide +kernel
theorem dX0_spendDay_101 : decode cX0_spendDay 101 = .ok (.getfield 18, 3) := by decide +kernel
theorem dX0_spendDay_104 : decode cX0_spendDay 104 = .ok (.iload 4, 2) := by decide +kernel
theorem dX0_spendDay_106 : decode cX0_spendDay 106 = .ok (.iaload, 1) := by decide +kernel
theorem dX0_spendDay_107 : decode cX0_spendDay 107 = .ok (.iastore, 1) := by decide +kernel
theorem dX0_spendDay_108 : decode cX0_spendDay 108 = .ok (.iinc 3 1, 3) := by decide +kernel
theorem dX0_spendDay_111 : decode cX0_spendDay 111 = .ok (.goto (-107), 3) := by decide +kernel
theorem dX0_spendDay_114 : decode cX0_spendDay 114 = .ok (.bipush (-4), 2) := by decide +kernel
theorem dX0_spendDay_116 : decode cX0_spendDay 116 = .ok (.ireturn, 1) := by decide +kernel
theorem dX0_passDay_0 : decode cX0_passDay 0 = .ok (.iconst 0, 1) := by decide +kernel
theorem dX0_passDay_1 : decode cX0_passDay 1 = .ok (.istore_n 1, 1) := by decide +kernel
theorem dX0_passDay_2 : decode cX0_passDay 2 = .ok (.iload_n 1, 1) := by decide +kernel
theorem dX0_passDay_3 : decode cX0_passDay 3 = .ok (.aload_n 0, 1) := by decide +kernel
theorem dX0_passDay_4 : decode cX0_passDay 4 = .ok (.getfield 37, 3) := by decide +kernel
theorem dX0_passDay_7 : decode cX0_passDay 7 = .ok (.if_icmp .ge 15, 3) := by decide +kernel
theorem dX0_passDay_10 : decode cX0_passDay 10 = .ok (.aload_n 0, 1) := by decide +kernel
theorem dX0_passDay_11 : decode cX0_passDay 11 = .ok (.iload_n 1, 1) := by decide +kernel
theorem dX0_passDay_12 : decode cX0_passDay 12 = .ok (.invokevirtual 94, 3) := by decide +kernel
theorem dX0_passDay_15 : decode cX0_passDay 15 = .ok (.pop, 1) := by decide +kernel
theorem dX0_passDay_16 : decode cX0_passDay 16 = .ok (.iinc 1 1, 3) := by decide +kernel
theorem dX0_passDay_19 : decode cX0_passDay 19 = .ok (.goto (-17), 3) := by decide +kernel
theorem dX0_passDay_22 : decode cX0_passDay 22 = .ok (.aload_n 0, 1) := by decide +kernel
theorem dX0_passDay_23 : decode cX0_passDay 23 = .ok (.dup, 1) := by decide +kernel
theorem dX0_passDay_24 : decode cX0_passDay 24 = .ok (.getfield 46, 3) := by decide +kernel
theorem dX0_passDay_27 : decode cX0_passDay 27 = .ok (.iconst 1, 1) := by decide +kernel
theorem dX0_passDay_28 : decode cX0_passDay 28 = .ok (.iadd, 1) := by decide +kernel
theorem dX0_passDay_29 : decode cX0_passDay 29 = .ok (.putfield 46, 3) := by decide +kernel
theorem dX0_passDay_32 : decode cX0_passDay 32 = .ok (.return_, 1) := by decide +kernel
theorem dX0_passDays_0 : decode cX0_passDays 0 = .ok (.iconst 0, 1) := by decide +kernel
theorem dX0_passDays_1 : decode cX0_passDays 1 = .ok (.istore_n 2, 1) := by decide +kernel
theorem dX0_passDays_2 : decode cX0_passDays 2 = .ok (.iload_n 2, 1) := by decide +kernel
theorem dX0_passDays_3 : decode cX0_passDays 3 = .ok (.iload_n 1, 1) := by decide +kernel
theorem dX0_passDays_4 : decode cX0_passDays 4 = .ok (.if_icmp .ge 13, 3) := by decide +kernel
theorem dX0_passDays_7 : decode cX0_passDays 7 = .ok (.aload_n 0, 1) := by decide +kernel
theorem dX0_passDays_8 : decode cX0_passDays 8 = .ok (.invokevirtual 97, 3) := by decide +kernel
theorem dX0_passDays_11 : decode cX0_passDays 11 = .ok (.iinc 2 1, 3) := by decide +kernel
theorem dX0_passDays_14 : decode cX0_passDays 14 = .ok (.goto (-12), 3) := by decide +kernel
theorem dX0_passDays_17 : decode cX0_passDays 17 = .ok (.return_, 1) := by decide +kernel
theorem dX0_passDaysTillStill_0 : decode cX0_passDaysTillStill 0 = .ok (.iconst (-1), 1) := by decide +kernel
theorem dX0_passDaysTillStill_1 : decode cX0_passDaysTillStill 1 = .ok (.istore_n 2, 1) := by decide +kernel
theorem dX0_passDaysTillStill_2 : decode cX0_passDaysTillStill 2 = .ok (.iconst 0, 1) := by decide +kernel
theorem dX0_passDaysTillStill_3 : decode cX0_passDaysTillStill 3 = .ok (.istore_n 3, 1) := by decide +kernel
theorem dX0_passDaysTillStill_4 : decode cX0_passDaysTillStill 4 = .ok (.iload_n 3, 1) := by decide +kernel
theorem dX0_passDaysTillStill_5 : decode cX0_passDaysTillStill 5 = .ok (.iload_n 1, 1) := by decide +kernel
theorem dX0_passDaysTillStill_6 : decode cX0_passDaysTillStill 6 = .ok (.if_icmp .ge 26, 3) := by decide +kernel
theorem dX0_passDaysTillStill_9 : decode cX0_passDaysTillStill 9 = .ok (.aload_n 0, 1) := by decide +kernel
theorem dX0_passDaysTillStill_10 : decode cX0_passDaysTillStill 10 = .ok (.getfield 49, 3) := by decide +kernel
theorem dX0_passDaysTillStill_13 : decode cX0_passDaysTillStill 13 = .ok (.iload_n 2, 1) := by decide +kernel
theorem dX0_passDaysTillStill_14 : decode cX0_passDaysTillStill 14 = .ok (.if_icmp .le 18, 3) := by decide +kernel
theorem dX0_passDaysTillStill_17 : decode cX0_passDaysTillStill 17 = .ok (.aload_n 0, 1) := by decide +kernel
theorem dX0_passDaysTillStill_18 : decode cX0_passDaysTillStill 18 = .ok (.getfield 49, 3) := by decide +kernel
theorem dX0_passDaysTillStill_21 : decode cX0_passDaysTillStill 21 = .ok (.istore_n 2, 1) := by decide +kernel
theorem dX0_passDaysTillStill_22 : decode cX0_passDaysTillStill 22 = .ok (.aload_n 0, 1) := by decide +kernel
theorem dX0_passDaysTillStill_23 : decode cX0_passDaysTillStill 23 = .ok (.invokevirtual 97, 3) := by decide +kernel
theorem dX0_passDaysTillStill_26 : decode cX0_passDaysTillStill 26 = .ok (.iinc 3 1, 3) := by decide +kernel
theorem dX0_passDaysTillStill_29 : decode cX0_passDaysTillStill 29 = .ok (.goto (-25), 3) := by decide +kernel
theorem dX0_passDaysTillStill_32 : decode cX0_passDaysTillStill 32 = .ok (.return_, 1) := by decide +kernel
theorem dX0_passDaysOf_0 : decode cX0_passDaysOf 0 = .ok (.iconst (-1), 1) := by decide +kernel
theorem dX0_passDaysOf_1 : decode cX0_passDaysOf 1 = .ok (.istore_n 3, 1) := by decide +kernel
theorem dX0_passDaysOf_2 : decode cX0_passDaysOf 2 = .ok (.iconst 0, 1) := by decide +kernel
theorem dX0_passDaysOf_3 : decode cX0_passDaysOf 3 = .ok (.istore 4, 2) := by decide +kernel
theorem dX0_passDaysOf_5 : decode cX0_passDaysOf 5 = .ok (.iload 4, 2) := by decide +kernel
theorem dX0_passDaysOf_7 : decode cX0_passDaysOf 7 = .ok (.iload_n 2, 1) := by decide +kernel
theorem dX0_passDaysOf_8 : decode cX0_passDaysOf 8 = .ok (.if_icmp .ge 28, 3) := by decide +kernel
theorem dX0_passDaysOf_11 : decode cX0_passDaysOf 11 = .ok (.aload_n 0, 1) := by decide +kernel
theorem dX0_passDaysOf_12 : decode cX0_passDaysOf 12 = .ok (.getfield 49, 3) := by decide +kernel
theorem dX0_passDaysOf_15 : decode cX0_passDaysOf 15 = .ok (.iload_n 3, 1) := by decide +kernel
theorem dX0_passDaysOf_16 : decode cX0_passDaysOf 16 = .ok (.if_icmp .le 20, 3) := by decide +kernel
theorem dX0_passDaysOf_19 : decode cX0_passDaysOf 19 = .ok (.aload_n 0, 1) := by decide +kernel
theorem dX0_passDaysOf_20 : decode cX0_passDaysOf 20 = .ok (.getfield 49, 3) := by decide +kernel
theorem dX0_passDaysOf_23 : decode cX0_passDaysOf 23 = .ok (.istore_n 3, 1) := by decide +kernel
theorem dX0_passDaysOf_24 : decode cX0_passDaysOf 24 = .ok (.aload_n 0, 1) := by decide +kernel
theorem dX0_passDaysOf_25 : decode cX0_passDaysOf 25 = .ok (.iload_n 1, 1) := by decide +kernel
theorem dX0_passDaysOf_26 : decode cX0_passDaysOf 26 = .ok (.invokevirtual 94, 3) := by decide +kernel
theorem dX0_passDaysOf_29 : decode cX0_passDaysOf 29 = .ok (.pop, 1) := by decide +kernel
theorem dX0_passDaysOf_30 : decode cX0_passDaysOf 30 = .ok (.iinc 4 1, 3) := by decide +kernel
theorem dX0_passDaysOf_33 : decode cX0_passDaysOf 33 = .ok (.goto (-28), 3) := by decide +kernel
theorem dX0_passDaysOf_36 : decode cX0_passDaysOf 36 = .ok (.return_, 1) := by decide +kernel
theorem dX0_daysTillDone_0 : decode cX0_daysTillDone 0 = .ok (.iconst 0, 1) := by decide +kernel
theorem dX0_daysTillDone_1 : decode cX0_daysTillDone 1 = .ok (.istore_n 3, 1) := by decide +kernel
theorem dX0_daysTillDone_2 : decode cX0_daysTillDone 2 = .ok (.iconst 0, 1) := by decide +kernel
theorem dX0_daysTillDone_3 : decode cX0_daysTillDone 3 = .ok (.istore 4, 2) := by decide +kernel
theorem dX0_daysTillDone_5 : decode cX0_daysTillDone 5 = .ok (.iload 4, 2) := by decide +kernel
theorem dX0_daysTillDone_7 : decode cX0_daysTillDone 7 = .ok (.iload_n 2, 1) := by decide +kernel
theorem dX0_daysTillDone_8 : decode cX0_daysTillDone 8 = .ok (.if_icmp .gt 55, 3) := by decide +kernel
theorem dX0_daysTillDone_11 : decode cX0_daysTillDone 11 = .ok (.iload_n 3, 1) := by decide +kernel
theorem dX0_daysTillDone_12 : decode cX0_daysTillDone 12 = .ok (.ifCond .ne 51, 3) := by decide +kernel
theorem dX0_daysTillDone_15 : decode cX0_daysTillDone 15 = .ok (.aload_n 0, 1) := by decide +kernel
theorem dX0_daysTillDone_16 : decode cX0_daysTillDone 16 = .ok (.iload_n 1, 1) := by decide +kernel
theorem dX0_daysTillDone_17 : decode cX0_daysTillDone 17 = .ok (.invokevirtual 65, 3) := by decide +kernel
theorem dX0_daysTillDone_20 : decode cX0_daysTillDone 20 = .ok (.ifCond .eq 6, 3) := by decide +kernel
theorem dX0_daysTillDone_23 : decode cX0_daysTillDone 23 = .ok (.iload 4, 2) := by decide +kernel
theorem dX0_daysTillDone_25 : decode cX0_daysTillDone 25 = .ok (.ireturn, 1) := by decide +kernel
theorem dX0_daysTillDone_26 : decode cX0_daysTillDone 26 = .ok (.aload_n 0, 1) := by decide +kernel
theorem dX0_daysTillDone_27 : decode cX0_daysTillDone 27 = .ok (.getfield 49, 3) := by decide +kernel
theorem dX0_daysTillDone_30 : decode cX0_daysTillDone 30 = .ok (.istore 5, 2) := by decide +kernel
theorem dX0_daysTillDone_32 : decode cX0_daysTillDone 32 = .ok (.aload_n 0, 1) := by decide +kernel
theorem dX0_daysTillDone_33 : decode cX0_daysTillDone 33 = .ok (.iload_n 1, 1) := by decide +kernel
theorem dX0_daysTillDone_34 : decode cX0_daysTillDone 34 = .ok (.invokevirtual 94, 3) := by decide +kernel
theorem dX0_daysTillDone_37 : decode cX0_daysTillDone 37 = .ok (.bipush (-4), 2) := by decide +kernel
theorem dX0_daysTillDone_39 : decode cX0_daysTillDone 39 = .ok (.if_icmp .eq 16, 3) := by decide +kernel
theorem dX0_daysTillDone_42 : decode cX0_daysTillDone 42 = .ok (.aload_n 0, 1) := by decide +kernel
theorem dX0_daysTillDone_43 : decode cX0_daysTillDone 43 = .ok (.getfield 49, 3) := by decide +kernel
theorem dX0_daysTillDone_46 : decode cX0_daysTillDone 46 = .ok (.iload 5, 2) := by decide +kernel
theorem dX0_daysTillDone_48 : decode cX0_daysTillDone 48 = .ok (.if_icmp .ne 7, 3) := by decide +kernel
theorem dX0_daysTillDone_51 : decode cX0_daysTillDone 51 = .ok (.iconst 1, 1) := by decide +kernel
theorem dX0_daysTillDone_52 : decode cX0_daysTillDone 52 = .ok (.goto 4, 3) := by decide +kernel
theorem dX0_daysTillDone_55 : decode cX0_daysTillDone 55 = .ok (.iconst 0, 1) := by decide +kernel
theorem dX0_daysTillDone_56 : decode cX0_daysTillDone 56 = .ok (.istore_n 3, 1) := by decide +kernel
theorem dX0_daysTillDone_57 : decode cX0_daysTillDone 57 = .ok (.iinc 4 1, 3) := by decide +kernel
theorem dX0_daysTillDone_60 : decode cX0_daysTillDone 60 = .ok (.goto (-55), 3) := by decide +kernel
theorem dX0_daysTillDone_63 : decode cX0_daysTillDone 63 = .ok (.bipush (-4), 2) := by decide +kernel
theorem dX0_daysTillDone_65 : decode cX0_daysTillDone 65 = .ok (.ireturn, 1) := by decide +kernel
theorem dX0_changePlaces_0 : decode cX0_changePlaces 0 = .ok (.aload_n 0, 1) := by decide +kernel
theorem dX0_changePlaces_1 : decode cX0_changePlaces 1 = .ok (.getfield 9, 3) := by decide +kernel
theorem dX0_changePlaces_4 : decode cX0_changePlaces 4 = .ok (.iload_n 1, 1) := by decide +kernel
theorem dX0_changePlaces_5 : decode cX0_changePlaces 5 = .ok (.iload_n 2, 1) := by decide +kernel
theorem dX0_changePlaces_6 : decode cX0_changePlaces 6 = .ok (.invokestatic 100, 3) := by decide +kernel
theorem dX0_changePlaces_9 : decode cX0_changePlaces 9 = .ok (.aload_n 0, 1) := by decide +kernel
theorem dX0_changePlaces_10 : decode cX0_changePlaces 10 = .ok (.getfield 15, 3) := by decide +kernel
theorem dX0_changePlaces_13 : decode cX0_changePlaces 13 = .ok (.iload_n 1, 1) := by decide +kernel
theorem dX0_changePlaces_14 : decode cX0_changePlaces 14 = .ok (.iload_n 2, 1) := by decide +kernel
theorem dX0_changePlaces_15 : decode cX0_changePlaces 15 = .ok (.invokestatic 100, 3) := by decide +kernel
theorem dX0_changePlaces_18 : decode cX0_changePlaces 18 = .ok (.return_, 1) := by decide +kernel
theorem dX1_init_0 : decode cX1_init 0 = .ok (.aload_n 0, 1) := by decide +kernel
theorem dX1_init_1 : decode cX1_init 1 = .ok (.invokespecial 1, 3) := by decide +kernel
theorem dX1_init_4 : decode cX1_init 4 = .ok (.aload_n 0, 1) := by decide +kernel
theorem dX1_init_5 : decode cX1_init 5 = .ok (.new 7, 3) := by decide +kernel
theorem dX1_init_8 : decode cX1_init 8 = .ok (.dup, 1) := by decide +kernel
theorem dX1_init_9 : decode cX1_init 9 = .ok (.invokespecial 9, 3) := by decide +kernel
theorem dX1_init_12 : decode cX1_init 12 = .ok (.putfield 10, 3) := by decide +kernel
theorem dX1_init_15 : decode cX1_init 15 = .ok (.aload_n 0, 1) := by decide +kernel
theorem dX1_init_16 : decode cX1_init 16 = .ok (.new 16, 3) := by decide +kernel
theorem dX1_init_19 : decode cX1_init 19 = .ok (.dup, 1) := by decide +kernel
theorem dX1_init_20 : decode cX1_init 20 = .ok (.invokespecial 18, 3) := by decide +kernel
theorem dX1_init_23 : decode cX1_init 23 = .ok (.putfield 19, 3) := by decide +kernel
theorem dX1_init_26 : decode cX1_init 26 = .ok (.return_, 1) := by decide +kernel
theorem dX2_init_0 : decode cX2_init 0 = .ok (.aload_n 0, 1) := by decide +kernel
theorem dX2_init_1 : decode cX2_init 1 = .ok (.invokespecial 3, 3) := by decide +kernel
theorem dX2_init_4 : decode cX2_init 4 = .ok (.aload_n 0, 1) := by decide +kernel
theorem dX2_init_5 : decode cX2_init 5 = .ok (.bipush 10, 2) := by decide +kernel
theorem dX2_init_7 : decode cX2_init 7 = .ok (.bipush 84, 2) := by decide +kernel
theorem dX2_init_9 : decode cX2_init 9 = .ok (.multianewarray 9 2, 4) := by decide +kernel
theorem dX2_init_13 : decode cX2_init 13 = .ok (.putfield 11, 3) := by decide +kernel
theorem dX2_init_16 : decode cX2_init 16 = .ok (.aload_n 0, 1) := by decide +kernel
theorem dX2_init_17 : decode cX2_init 17 = .ok (.bipush 9, 2) := by decide +kernel
theorem dX2_init_19 : decode cX2_init 19 = .ok (.newarray .int, 2) := by decide +kernel
theorem dX2_init_21 : decode cX2_init 21 = .ok (.putfield 16, 3) := by decide +kernel
theorem dX2_init_24 : decode cX2_init 24 = .ok (.return_, 1) := by decide +kernel
theorem dX2_foresee_0 : decode cX2_foresee 0 = .ok (.iconst 0, 1) := by decide +kernel
theorem dX2_foresee_1 : decode cX2_foresee 1 = .ok (.istore 5, 2) := by decide +kernel
theorem dX2_foresee_3 : decode cX2_foresee 3 = .ok (.iload 5, 2) := by decide +kernel
theorem dX2_foresee_5 : decode cX2_foresee 5 = .ok (.bipush 9, 2) := by decide +kernel
theorem dX2_foresee_7 : decode cX2_foresee 7 = .ok (.if_icmp .gt 43, 3) := by decide +kernel
theorem dX2_foresee_10 : decode cX2_foresee 10 = .ok (.iload 4, 2) := by decide +kernel
theorem dX2_foresee_12 : decode cX2_foresee 12 = .ok (.iload 5, 2) := by decide +kernel
theorem dX2_foresee_14 : decode cX2_foresee 14 = .ok (.ishr, 1) := by decide +kernel
theorem dX2_foresee_15 : decode cX2_foresee 15 = .ok (.iconst 1, 1) := by decide +kernel
theorem dX2_foresee_16 : decode cX2_foresee 16 = .ok (.iand, 1) := by decide +kernel
theorem dX2_foresee_17 : decode cX2_foresee 17 = .ok (.ifCond .eq 27, 3) := by decide +kernel
theorem dX2_foresee_20 : decode cX2_foresee 20 = .ok (.aload_n 2, 1) := by decide +kernel
theorem dX2_foresee_21 : decode cX2_foresee 21 = .ok (.aload_n 1, 1) := by decide +kernel
theorem dX2_foresee_22 : decode cX2_foresee 22 = .ok (.invokevirtual 20, 3) := by decide +kernel
theorem dX2_foresee_25 : decode cX2_foresee 25 = .ok (.aload_n 2, 1) := by decide +kernel
theorem dX2_foresee_26 : decode cX2_foresee 26 = .ok (.getfield 26, 3) := by decide +kernel
theorem dX2_foresee_29 : decode cX2_foresee 29 = .ok (.iload_n 3, 1) := by decide +kernel
theorem dX2_foresee_30 : decode cX2_foresee 30 = .ok (.iload 5, 2) := by decide +kernel
theorem dX2_foresee_32 : decode cX2_foresee 32 = .ok (.iastore, 1) := by decide +kernel
theorem dX2_foresee_33 : decode cX2_foresee 33 = .ok (.aload_n 2, 1) := by decide +kernel
theorem dX2_foresee_34 : decode cX2_foresee 34 = .ok (.aload_n 0, 1) := by decide +kernel
theorem dX2_foresee_35 : decode cX2_foresee 35 = .ok (.getfield 11, 3) := by decide +kernel
theorem dX2_foresee_38 : decode cX2_foresee 38 = .ok (.iload 5, 2) := by decide +kernel
theorem dX2_foresee_40 : decode cX2_foresee 40 = .ok (.aaload, 1) := by decide +kernel
theorem dX2_foresee_41 : decode cX2_foresee 41 = .ok (.invokestatic 29, 3) := by decide +kernel
theorem dX2_foresee_44 : decode cX2_foresee 44 = .ok (.iinc 5 1, 3) := by decide +kernel
theorem dX2_foresee_47 : decode cX2_foresee 47 = .ok (.goto (-44), 3) := by decide +kernel
theorem dX2_foresee_50 : decode cX2_foresee 50 = .ok (.return_, 1) := by decide +kernel
theorem dX2_note_0 : decode cX2_note 0 = .ok (.iconst 0, 1) := by decide +kernel
theorem dX2_note_1 : decode cX2_note 1 = .ok (.istore_n 2, 1) := by decide +kernel
theorem dX2_note_2 : decode cX2_note 2 = .ok (.iload_n 2, 1) := by decide +kernel
theorem dX2_note_3 : decode cX2_note 3 = .ok (.bipush 20, 2) := by decide +kernel
theorem dX2_note_5 : decode cX2_note 5 = .ok (.if_icmp .gt 55, 3) := by decide +kernel
theorem dX2_note_8 : decode cX2_note 8 = .ok (.iconst 0, 1) := by decide +kernel
theorem dX2_note_9 : decode cX2_note 9 = .ok (.istore_n 3, 1) := by decide +kernel
theorem dX2_note_10 : decode cX2_note 10 = .ok (.iload_n 3, 1) := by decide +kernel
theorem dX2_note_11 : decode cX2_note 11 = .ok (.aload_n 0, 1) := by decide +kernel
theorem dX2_note_12 : decode cX2_note 12 = .ok (.getfield 33, 3) := by decide +kernel
theorem dX2_note_15 : decode cX2_note 15 = .ok (.if_icmp .ge 35, 3) := by decide +kernel
theorem dX2_note_18 : decode cX2_note 18 = .ok (.aload_n 1, 1) := by decide +kernel
theorem dX2_note_19 : decode cX2_note 19 = .ok (.iload_n 2, 1) := by decide +kernel
theorem dX2_note_20 : decode cX2_note 20 = .ok (.iconst 4, 1) := by decide +kernel
theorem dX2_note_21 : decode cX2_note 21 = .ok (.imul, 1) := by decide +kernel
theorem dX2_note_22 : decode cX2_note 22 = .ok (.iload_n 3, 1) := by decide +kernel
theorem dX2_note_23 : decode cX2_note 23 = .ok (.iadd, 1) := by decide +kernel
theorem dX2_note_24 : decode cX2_note 24 = .ok (.aload_n 0, 1) := by decide +kernel
theorem dX2_note_25 : decode cX2_note 25 = .ok (.iload_n 3, 1) := by decide +kernel
theorem dX2_note_26 : decode cX2_note 26 = .ok (.invokevirtual 37, 3) := by decide +kernel
theorem dX2_note_29 : decode cX2_note 29 = .ok (.ifCond .eq 8, 3) := by decide +kernel
theorem dX2_note_32 : decode cX2_note 32 = .ok (.bipush 8, 2) := by decide +kernel
theorem dX2_note_34 : decode cX2_note 34 = .ok (.goto 9, 3) := by decide +kernel
theorem dX2_note_37 : decode cX2_note 37 = .ok (.aload_n 0, 1) := by decide +kernel
theorem dX2_note_38 : decode cX2_note 38 = .ok (.getfield 41, 3) := by decide +kernel
theorem dX2_note_41 : decode cX2_note 41 = .ok (.iload_n 3, 1) := by decide +kernel
theorem dX2_note_42 : decode cX2_note 42 = .ok (.iaload, 1) := by decide +kernel
theorem dX2_note_43 : decode cX2_note 43 = .ok (.iastore, 1) := by decide +kernel
theorem dX2_note_44 : decode cX2_note 44 = .ok (.iinc 3 1, 3) := by decide +kernel
theorem dX2_note_47 : decode cX2_note 47 = .ok (.goto (-37), 3) := by decide +kernel
theorem dX2_note_50 : decode cX2_note 50 = .ok (.aload_n 0, 1) := by decide +kernel
theorem dX2_note_51 : decode cX2_note 51 = .ok (.invokevirtual 44, 3) := by decide +kernel
theorem dX2_note_54 : decode cX2_note 54 = .ok (.iinc 2 1, 3) := by decide +kernel
theorem dX2_note_57 : decode cX2_note 57 = .ok (.goto (-55), 3) := by decide +kernel
theorem dX2_note_60 : decode cX2_note 60 = .ok (.return_, 1) := by decide +kernel
theorem dX2_mostLeft_0 : decode cX2_mostLeft 0 = .ok (.iconst 0, 1) := by decide +kernel
theorem dX2_mostLeft_1 : decode cX2_mostLeft 1 = .ok (.istore 4, 2) := by decide +kernel
theorem dX2_mostLeft_3 : decode cX2_mostLeft 3 = .ok (.iload 4, 2) := by decide +kernel
theorem dX2_mostLeft_5 : decode cX2_mostLeft 5 = .ok (.bipush 8, 2) := by decide +kernel
theorem dX2_mostLeft_7 : decode cX2_mostLeft 7 = .ok (.if_icmp .gt 17, 3) := by decide +kernel
theorem dX2_mostLeft_10 : decode cX2_mostLeft 10 = .ok (.aload_n 0, 1) := by decide +kernel
theorem dX2_mostLeft_11 : decode cX2_mostLeft 11 = .ok (.getfield 16, 3) := by decide +kernel
theorem dX2_mostLeft_14 : decode cX2_mostLeft 14 = .ok (.iload 4, 2) := by decide +kernel
theorem dX2_mostLeft_16 : decode cX2_mostLeft 16 = .ok (.iconst 0, 1) := by decide +kernel
theorem dX2_mostLeft_17 : decode cX2_mostLeft 17 = .ok (.iastore, 1) := by decide +kernel
theorem dX2_mostLeft_18 : decode cX2_mostLeft 18 = .ok (.iinc 4 1, 3) := by decide +kernel
theorem dX2_mostLeft_21 : decode cX2_mostLeft 21 = .ok (.goto (-18), 3) := by decide +kernel
theorem dX2_mostLeft_24 : decode cX2_mostLeft 24 = .ok (.iconst 0, 1) := by decide +kernel
theorem dX2_mostLeft_25 : decode cX2_mostLeft 25 = .ok (.istore 4, 2) := by decide +kernel
theorem dX2_mostLeft_27 : decode cX2_mostLeft 27 = .ok (.iconst 0, 1) := by decide +kernel
theorem dX2_mostLeft_28 : decode cX2_mostLeft 28 = .ok (.istore 5, 2) := by decide +kernel
theorem dX2_mostLeft_30 : decode cX2_mostLeft 30 = .ok (.iload 5, 2) := by decide +kernel
theorem dX2_mostLeft_32 : decode cX2_mostLeft 32 = .ok (.bipush 9, 2) := by decide +kernel
theorem dX2_mostLeft_34 : decode cX2_mostLeft 34 = .ok (.if_icmp .gt 58, 3) := by decide +kernel
theorem dX2_mostLeft_37 : decode cX2_mostLeft 37 = .ok (.iload_n 1, 1) := by decide +kernel
theorem dX2_mostLeft_38 : decode cX2_mostLeft 38 = .ok (.iload 5, 2) := by decide +kernel
theorem dX2_mostLeft_40 : decode cX2_mostLeft 40 = .ok (.ishr, 1) := by decide +kernel
theorem dX2_mostLeft_41 : decode cX2_mostLeft 41 = .ok (.iconst 1, 1) := by decide +kernel
theorem dX2_mostLeft_42 : decode cX2_mostLeft 42 = .ok (.iand, 1) := by decide +kernel
theorem dX2_mostLeft_43 : decode cX2_mostLeft 43 = .ok (.ifCond .eq 43, 3) := by decide +kernel
theorem dX2_mostLeft_46 : decode cX2_mostLeft 46 = .ok (.aload_n 0, 1) := by decide +kernel
theorem dX2_mostLeft_47 : decode cX2_mostLeft 47 = .ok (.getfield 11, 3) := by decide +kernel
theorem dX2_mostLeft_50 : decode cX2_mostLeft 50 = .ok (.iload 5, 2) := by decide +kernel
theorem dX2_mostLeft_52 : decode cX2_mostLeft 52 = .ok (.aaload, 1) := by decide +kernel
theorem dX2_mostLeft_53 : decode cX2_mostLeft 53 = .ok (.iload_n 2, 1) := by decide +kernel
theorem dX2_mostLeft_54 : decode cX2_mostLeft 54 = .ok (.iconst 4, 1) := by decide +kernel
theorem dX2_mostLeft_55 : decode cX2_mostLeft 55 = .ok (.imul, 1) := by decide +kernel
theorem dX2_mostLeft_56 : decode cX2_mostLeft 56 = .ok (.iload_n 3, 1) := by decide +kernel
theorem dX2_mostLeft_57 : decode cX2_mostLeft 57 = .ok (.iadd, 1) := by decide +kernel
theorem dX2_mostLeft_58 : decode cX2_mostLeft 58 = .ok (.iaload, 1) := by decide +kernel
theorem dX2_mostLeft_59 : decode cX2_mostLeft 59 = .ok (.istore 6, 2) := by decide +kernel
theorem dX2_mostLeft_61 : decode cX2_mostLeft 61 = .ok (.aload_n 0, 1) := by decide +kernel
theorem dX2_mostLeft_62 : decode cX2_mostLeft 62 = .ok (.getfield 16, 3) := by decide +kernel
theorem dX2_mostLeft_65 : decode cX2_mostLeft 65 = .ok (.iload 6, 2) := by decide +kernel
theorem dX2_mostLeft_67 : decode cX2_mostLeft 67 = .ok (.dup2, 1) := by decide +kernel
theorem dX2_mostLeft_68 : decode cX2_mostLeft 68 = .ok (.iaload, 1) := by decide +kernel
theorem dX2_mostLeft_69 : decode cX2_mostLeft 69 = .ok (.iconst 1, 1) := by decide +kernel
theorem dX2_mostLeft_70 : decode cX2_mostLeft 70 = .ok (.iadd, 1) := by decide +kernel
theorem dX2_mostLeft_71 : decode cX2_mostLeft 71 = .ok (.iastore, 1) := by decide +kernel
theorem dX2_mostLeft_72 : decode cX2_mostLeft 72 = .ok (.iload 4, 2) := by decide +kernel
theorem dX2_mostLeft_74 : decode cX2_mostLeft 74 = .ok (.aload_n 0, 1) := by decide +kernel
theorem dX2_mostLeft_75 : decode cX2_mostLeft 75 = .ok (.getfield 16, 3) := by decide +kernel
theorem dX2_mostLeft_78 : decode cX2_mostLeft 78 = .ok (.iload 6, 2) := by decide +kernel
theorem dX2_mostLeft_80 : decode cX2_mostLeft 80 = .ok (.iaload, 1) := by decide +kernel
theorem dX2_mostLeft_81 : decode cX2_mostLeft 81 = .ok (.invokestatic 47, 3) := by decide +kernel
theorem dX2_mostLeft_84 : decode cX2_mostLeft 84 = .ok (.istore 4, 2) := by decide +kernel
theorem dX2_mostLeft_86 : decode cX2_mostLeft 86 = .ok (.iinc 5 1, 3) := by decide +kernel
theorem dX2_mostLeft_89 : decode cX2_mostLeft 89 = .ok (.goto (-59), 3) := by decide +kernel
theorem dX2_mostLeft_92 : decode cX2_mostLeft 92 = .ok (.iload 4, 2) := by decide +kernel
theorem dX2_mostLeft_94 : decode cX2_mostLeft 94 = .ok (.ireturn, 1) := by decide +kernel
theorem dX3_init_0 : decode cX3_init 0 = .ok (.aload_n 0, 1) := by decide +kernel
theorem dX3_init_1 : decode cX3_init 1 = .ok (.invokespecial 3, 3) := by decide +kernel
theorem dX3_init_4 : decode cX3_init 4 = .ok (.aload_n 0, 1) := by decide +kernel
theorem dX3_init_5 : decode cX3_init 5 = .ok (.new 9, 3) := by decide +kernel
theorem dX3_init_8 : decode cX3_init 8 = .ok (.dup, 1) := by decide +kernel
theorem dX3_init_9 : decode cX3_init 9 = .ok (.invokespecial 11, 3) := by decide +kernel
theorem dX3_init_12 : decode cX3_init 12 = .ok (.putfield 12, 3) := by decide +kernel
theorem dX3_init_15 : decode cX3_init 15 = .ok (.aload_n 0, 1) := by decide +kernel
theorem dX3_init_16 : decode cX3_init 16 = .ok (.new 18, 3) := by decide +kernel
theorem dX3_init_19 : decode cX3_init 19 = .ok (.dup, 1) := by decide +kernel
theorem dX3_init_20 : decode cX3_init 20 = .ok (.invokespecial 20, 3) := by decide +kernel
theorem dX3_init_23 : decode cX3_init 23 = .ok (.putfield 21, 3) := by decide +kernel
theorem dX3_init_26 : decode cX3_init 26 = .ok (.return_, 1) := by decide +kernel
theorem dX3_begin_0 : decode cX3_begin 0 = .ok (.aload_n 0, 1) := by decide +kernel
theorem dX3_begin_1 : decode cX3_begin 1 = .ok (.iconst 0, 1) := by decide +kernel
theorem dX3_begin_2 : decode cX3_begin 2 = .ok (.putfield 25, 3) := by decide +kernel
theorem dX3_begin_5 : decode cX3_begin 5 = .ok (.aload_n 0, 1) := by decide +kernel
theorem dX3_begin_6 : decode cX3_begin 6 = .ok (.iconst 0, 1) := by decide +kernel
theorem dX3_begin_7 : decode cX3_begin 7 = .ok (.putfield 29, 3) := by decide +kernel
theorem dX3_begin_10 : decode cX3_begin 10 = .ok (.aload_n 0, 1) := by decide +kernel
theorem dX3_begin_11 : decode cX3_begin 11 = .ok (.iconst 0, 1) := by decide +kernel
theorem dX3_begin_12 : decode cX3_begin 12 = .ok (.putfield 32, 3) := by decide +kernel
theorem dX3_begin_15 : decode cX3_begin 15 = .ok (.aload_n 0, 1) := by decide +kernel
theorem dX3_begin_16 : decode cX3_begin 16 = .ok (.iconst 0, 1) := by decide +kernel
theorem dX3_begin_17 : decode cX3_begin 17 = .ok (.putfield 35, 3) := by decide +kernel
theorem dX3_begin_20 : decode cX3_begin 20 = .ok (.aload_n 0, 1) := by decide +kernel
theorem dX3_begin_21 : decode cX3_begin 21 = .ok (.getfield 12, 3) := by decide +kernel
theorem dX3_begin_24 : decode cX3_begin 24 = .ok (.invokevirtual 39, 3) := by decide +kernel
theorem dX3_begin_27 : decode cX3_begin 27 = .ok (.aload_n 0, 1) := by decide +kernel
theorem dX3_begin_28 : decode cX3_begin 28 = .ok (.getfield 21, 3) := by decide +kernel
theorem dX3_begin_31 : decode cX3_begin 31 = .ok (.invokevirtual 42, 3) := by decide +kernel
theorem dX3_begin_34 : decode cX3_begin 34 = .ok (.aload_n 0, 1) := by decide +kernel
theorem dX3_begin_35 : decode cX3_begin 35 = .ok (.invokevirtual 45, 3) := by decide +kernel
theorem dX3_begin_38 : decode cX3_begin 38 = .ok (.return_, 1) := by decide +kernel
theorem dX3_isAtLine_0 : decode cX3_isAtLine 0 = .ok (.aload_n 0, 1) := by decide +kernel
theorem dX3_isAtLine_1 : decode cX3_isAtLine 1 = .ok (.getfield 25, 3) := by decide +kernel
theorem dX3_isAtLine_4 : decode cX3_isAtLine 4 = .ok (.ifCond .ne 17, 3) := by decide +kernel
theorem dX3_isAtLine_7 : decode cX3_isAtLine 7 = .ok (.aload_n 0, 1) := by decide +kernel
theorem dX3_isAtLine_8 : decode cX3_isAtLine 8 = .ok (.getfield 12, 3) := by decide +kernel
theorem dX3_isAtLine_11 : decode cX3_isAtLine 11 = .ok (.getfield 48, 3) := by decide +kernel
theorem dX3_isAtLine_14 : decode cX3_isAtLine 14 = .ok (.ifCond .eq 7, 3) := by decide +kernel
theorem dX3_isAtLine_17 : decode cX3_isAtLine 17 = .ok (.iconst 1, 1) := by decide +kernel
theorem dX3_isAtLine_18 : decode cX3_isAtLine 18 = .ok (.goto 4, 3) := by decide +kernel
theorem dX3_isAtLine_21 : decode cX3_isAtLine 21 = .ok (.iconst 0, 1) := by decide +kernel
theorem dX3_isAtLine_22 : decode cX3_isAtLine 22 = .ok (.ireturn, 1) := by decide +kernel
theorem dX3_finish_0 : decode cX3_finish 0 = .ok (.aload_n 0, 1) := by decide +kernel
theorem dX3_finish_1 : decode cX3_finish 1 = .ok (.invokevirtual 51, 3) := by decide +kernel
theorem dX3_finish_4 : decode cX3_finish 4 = .ok (.ifCond .eq 16, 3) := by decide +kernel
theorem dX3_finish_7 : decode cX3_finish 7 = .ok (.aload_n 0, 1) := by decide +kernel
theorem dX3_finish_8 : decode cX3_finish 8 = .ok (.bipush 6, 2) := by decide +kernel
theorem dX3_finish_10 : decode cX3_finish 10 = .ok (.aload_n 0, 1) := by decide +kernel
theorem dX3_finish_11 : decode cX3_finish 11 = .ok (.getfield 12, 3) := by decide +kernel
theorem dX3_finish_14 : decode cX3_finish 14 = .ok (.getfield 55, 3) := by decide +kernel
theorem dX3_finish_17 : decode cX3_finish 17 = .ok (.invokevirtual 58, 3) := by decide +kernel
theorem dX3_finish_20 : decode cX3_finish 20 = .ok (.return_, 1) := by decide +kernel
theorem dX3_refuse_0 : decode cX3_refuse 0 = .ok (.aload_n 0, 1) := by decide +kernel
theorem dX3_refuse_1 : decode cX3_refuse 1 = .ok (.getfield 25, 3) := by decide +kernel
theorem dX3_refuse_4 : decode cX3_refuse 4 = .ok (.ifCond .ne 13, 3) := by decide +kernel
theorem dX3_refuse_7 : decode cX3_refuse 7 = .ok (.aload_n 0, 1) := by decide +kernel
theorem dX3_refuse_8 : decode cX3_refuse 8 = .ok (.iload_n 1, 1) := by decide +kernel
theorem dX3_refuse_9 : decode cX3_refuse 9 = .ok (.putfield 25, 3) := by decide +kernel
theorem dX3_refuse_12 : decode cX3_refuse 12 = .ok (.aload_n 0, 1) := by decide +kernel
theorem dX3_refuse_13 : decode cX3_refuse 13 = .ok (.iload_n 2, 1) := by decide +kernel
theorem dX3_refuse_14 : decode cX3_refuse 14 = .ok (.putfield 29, 3) := by decide +kernel
theorem dX3_refuse_17 : decode cX3_refuse 17 = .ok (.return_, 1) := by decide +kernel
theorem dX3_takeToken_0 : decode cX3_takeToken 0 = .ok (.aload_n 0, 1) := by decide +kernel
theorem dX3_takeToken_1 : decode cX3_takeToken 1 = .ok (.getfield 25, 3) := by decide +kernel
theorem dX3_takeToken_4 : decode cX3_takeToken 4 = .ok (.ifCond .ne 33, 3) := by decide +kernel
theorem dX3_takeToken_7 : decode cX3_takeToken 7 = .ok (.aload_n 0, 1) := by decide +kernel
theorem dX3_takeToken_8 : decode cX3_takeToken 8 = .ok (.getfield 12, 3) := by decide +kernel
theorem dX3_takeToken_11 : decode cX3_takeToken 11 = .ok (.invokevirtual 62, 3) := by decide +kernel
theorem dX3_takeToken_14 : decode cX3_takeToken 14 = .ok (.aload_n 0, 1) := by decide +kernel
theorem dX3_takeToken_15 : decode cX3_takeToken 15 = .ok (.getfield 12, 3) := by decide +kernel
theorem dX3_takeToken_18 : decode cX3_takeToken 18 = .ok (.getfield 48, 3) := by decide +kernel
theorem dX3_takeToken_21 : decode cX3_takeToken 21 = .ok (.iconst 4, 1) := by decide +kernel
theorem dX3_takeToken_22 : decode cX3_takeToken 22 = .ok (.if_icmp .ne 15, 3) := by decide +kernel
theorem dX3_takeToken_25 : decode cX3_takeToken 25 = .ok (.aload_n 0, 1) := by decide +kernel
theorem dX3_takeToken_26 : decode cX3_takeToken 26 = .ok (.iconst 1, 1) := by decide +kernel
theorem dX3_takeToken_27 : decode cX3_takeToken 27 = .ok (.aload_n 0, 1) := by decide +kernel
theorem dX3_takeToken_28 : decode cX3_takeToken 28 = .ok (.getfield 12, 3) := by decide +kernel
theorem dX3_takeToken_31 : decode cX3_takeToken 31 = .ok (.getfield 65, 3) := by decide +kernel
theorem dX3_takeToken_34 : decode cX3_takeToken 34 = .ok (.invokevirtual 58, 3) := by decide +kernel
theorem dX3_takeToken_37 : decode cX3_takeToken 37 = .ok (.return_, 1) := by decide +kernel
theorem dX3_parseLine_0 : decode cX3_parseLine 0 = .ok (.aload_n 0, 1) := by decide +kernel
theorem dX3_parseLine_1 : decode cX3_parseLine 1 = .ok (.getfield 12, 3) := by decide +kernel
theorem dX3_parseLine_4 : decode cX3_parseLine 4 = .ok (.ldc 68, 2) := by decide +kernel
theorem dX3_parseLine_6 : decode cX3_parseLine 6 = .ok (.invokevirtual 70, 3) := by decide +kernel
theorem dX3_parseLine_9 : decode cX3_parseLine 9 = .ok (.ifCond .eq 10, 3) := by decide +kernel
theorem dX3_parseLine_12 : decode cX3_parseLine 12 = .ok (.aload_n 0, 1) := by decide +kernel
theorem dX3_parseLine_13 : decode cX3_parseLine 13 = .ok (.invokevirtual 74, 3) := by decide +kernel
theorem dX3_parseLine_16 : decode cX3_parseLine 16 = .ok (.goto 114, 3) := by decide +kernel
theorem dX3_parseLine_19 : decode cX3_parseLine 19 = .ok (.aload_n 0, 1) := by decide +kernel
theorem dX3_parseLine_20 : decode cX3_parseLine 20 = .ok (.getfield 12, 3) := by decide +kernel
theorem dX3_parseLine_23 : decode cX3_parseLine 23 = .ok (.ldc 77, 2) := by decide +kernel
theorem dX3_parseLine_25 : decode cX3_parseLine 25 = .ok (.invokevirtual 70, 3) := by decide +kernel
theorem dX3_parseLine_28 : decode cX3_parseLine 28 = .ok (.ifCond .eq 11, 3) := by decide +kernel
theorem dX3_parseLine_31 : decode cX3_parseLine 31 = .ok (.aload_n 0, 1) := by decide +kernel
theorem dX3_parseLine_32 : decode cX3_parseLine 32 = .ok (.iconst 0, 1) := by decide +kernel
theorem dX3_parseLine_33 : decode cX3_parseLine 33 = .ok (.invokevirtual 79, 3) := by decide +kernel
theorem dX3_parseLine_36 : decode cX3_parseLine 36 = .ok (.goto 94, 3) := by decide +kernel
theorem dX3_parseLine_39 : decode cX3_parseLine 39 = .ok (.aload_n 0, 1) := by decide +kernel
theorem dX3_parseLine_40 : decode cX3_parseLine 40 = .ok (.getfield 12, 3) := by decide +kernel
theorem dX3_parseLine_43 : decode cX3_parseLine 43 = .ok (.ldc 83, 2) := by decide +kernel
theorem dX3_parseLine_45 : decode cX3_parseLine 45 = .ok (.invokevirtual 70, 3) := by decide +kernel
theorem dX3_parseLine_48 : decode cX3_parseLine 48 = .ok (.ifCond .eq 11, 3) := by decide +kernel
theorem dX3_parseLine_51 : decode cX3_parseLine 51 = .ok (.aload_n 0, 1) := by decide +kernel
theorem dX3_parseLine_52 : decode cX3_parseLine 52 = .ok (.iconst 1, 1) := by decide +kernel
theorem dX3_parseLine_53 : decode cX3_parseLine 53 = .ok (.invokevirtual 79, 3) := by decide +kernel
theorem dX3_parseLine_56 : decode cX3_parseLine 56 = .ok (.goto 74, 3) := by decide +kernel
theorem dX3_parseLine_59 : decode cX3_parseLine 59 = .ok (.aload_n 0, 1) := by decide +kernel
theorem dX3_parseLine_60 : decode cX3_parseLine 60 = .ok (.getfield 12, 3) := by decide +kernel
theorem dX3_parseLine_63 : decode cX3_parseLine 63 = .ok (.ldc 85, 2) := by decide +kernel
theorem dX3_parseLine_65 : decode cX3_parseLine 65 = .ok (.invokevirtual 70, 3) := by decide +kernel
theorem dX3_parseLine_68 : decode cX3_parseLine 68 = .ok (.ifCond .eq 11, 3) := by decide +kernel
theorem dX3_parseLine_71 : decode cX3_parseLine 71 = .ok (.aload_n 0, 1) := by decide +kernel
theorem dX3_parseLine_72 : decode cX3_parseLine 72 = .ok (.iconst 2, 1) := by decide +kernel
theorem dX3_parseLine_73 : decode cX3_parseLine 73 = .ok (.invokevirtual 79, 3) := by decide +kernel
theorem dX3_parseLine_76 : decode cX3_parseLine 76 = .ok (.goto 54, 3) := by decide +kernel
theorem dX3_parseLine_79 : decode cX3_parseLine 79 = .ok (.aload_n 0, 1) := by decide +kernel
theorem dX3_parseLine_80 : decode cX3_parseLine 80 = .ok (.getfield 12, 3) := by decide +kernel
theorem dX3_parseLine_83 : decode cX3_parseLine 83 = .ok (.ldc 87, 2) := by decide +kernel
theorem dX3_parseLine_85 : decode cX3_parseLine 85 = .ok (.invokevirtual 70, 3) := by decide +kernel
theorem dX3_parseLine_88 : decode cX3_parseLine 88 = .ok (.ifCond .eq 11, 3) := by decide +kernel
theorem dX3_parseLine_91 : decode cX3_parseLine 91 = .ok (.aload_n 0, 1) := by decide +kernel
theorem dX3_parseLine_92 : decode cX3_parseLine 92 = .ok (.iconst 3, 1) := by decide +kernel
theorem dX3_parseLine_93 : decode cX3_parseLine 93 = .ok (.invokevirtual 79, 3) := by decide +kernel
theorem dX3_parseLine_96 : decode cX3_parseLine 96 = .ok (.goto 34, 3) := by decide +kernel
theorem dX3_parseLine_99 : decode cX3_parseLine 99 = .ok (.aload_n 0, 1) := by decide +kernel
theorem dX3_parseLine_100 : decode cX3_parseLine 100 = .ok (.getfield 12, 3) := by decide +kernel
theorem dX3_parseLine_103 : decode cX3_parseLine 103 = .ok (.ldc 89, 2) := by decide +kernel
theorem dX3_parseLine_105 : decode cX3_parseLine 105 = .ok (.invokevirtual 70, 3) := by decide +kernel
theorem dX3_parseLine_108 : decode cX3_parseLine 108 = .ok (.ifCond .eq 10, 3) := by decide +kernel
theorem dX3_parseLine_111 : decode cX3_parseLine 111 = .ok (.aload_n 0, 1) := by decide +kernel
theorem dX3_parseLine_112 : decode cX3_parseLine 112 = .ok (.invokevirtual 91, 3) := by decide +kernel
theorem dX3_parseLine_115 : decode cX3_parseLine 115 = .ok (.goto 15, 3) := by decide +kernel
theorem dX3_parseLine_118 : decode cX3_parseLine 118 = .ok (.aload_n 0, 1) := by decide +kernel
theorem dX3_parseLine_119 : decode cX3_parseLine 119 = .ok (.iconst 2, 1) := by decide +kernel
theorem dX3_parseLine_120 : decode cX3_parseLine 120 = .ok (.aload_n 0, 1) := by decide +kernel
theorem dX3_parseLine_121 : decode cX3_parseLine 121 = .ok (.getfield 12, 3) := by decide +kernel
theorem dX3_parseLine_124 : decode cX3_parseLine 124 = .ok (.getfield 65, 3) := by decide +kernel
theorem dX3_parseLine_127 : decode cX3_parseLine 127 = .ok (.invokevirtual 58, 3) := by decide +kernel
theorem dX3_parseLine_130 : decode cX3_parseLine 130 = .ok (.aload_n 0, 1) := by decide +kernel
theorem dX3_parseLine_131 : decode cX3_parseLine 131 = .ok (.dup, 1) := by decide +kernel
theorem dX3_parseLine_132 : decode cX3_parseLine 132 = .ok (.getfield 32, 3) := by decide +kernel
theorem dX3_parseLine_135 : decode cX3_parseLine 135 = .ok (.iconst 1, 1) := by decide +kernel
theorem dX3_parseLine_136 : decode cX3_parseLine 136 = .ok (.iadd, 1) := by decide +kernel
theorem dX3_parseLine_137 : decode cX3_parseLine 137 = .ok (.putfield 32, 3) := by decide +kernel
theorem dX3_parseLine_140 : decode cX3_parseLine 140 = .ok (.aload_n 0, 1) := by decide +kernel
theorem dX3_parseLine_141 : decode cX3_parseLine 141 = .ok (.invokevirtual 45, 3) := by decide +kernel
theorem dX3_parseLine_144 : decode cX3_parseLine 144 = .ok (.return_, 1) := by decide +kernel
theorem dX3_parseBook_0 : decode cX3_parseBook 0 = .ok (.aload_n 0, 1) := by decide +kernel
theorem dX3_parseBook_1 : decode cX3_parseBook 1 = .ok (.getfield 21, 3) := by decide +kernel
theorem dX3_parseBook_4 : decode cX3_parseBook 4 = .ok (.getfield 94, 3) := by decide +kernel
theorem dX3_parseBook_7 : decode cX3_parseBook 7 = .ok (.bipush 8, 2) := by decide +kernel
theorem dX3_parseBook_9 : decode cX3_parseBook 9 = .ok (.if_icmp .lt 15, 3) := by decide +kernel
theorem dX3_parseBook_12 : decode cX3_parseBook 12 = .ok (.aload_n 0, 1) := by decide +kernel
theorem dX3_parseBook_13 : decode cX3_parseBook 13 = .ok (.iconst 5, 1) := by decide +kernel
theorem dX3_parseBook_14 : decode cX3_parseBook 14 = .ok (.aload_n 0, 1) := by decide +kernel
theorem dX3_parseBook_15 : decode cX3_parseBook 15 = .ok (.getfield 12, 3) := by decide +kernel
theorem dX3_parseBook_18 : decode cX3_parseBook 18 = .ok (.getfield 65, 3) := by decide +kernel
theorem dX3_parseBook_21 : decode cX3_parseBook 21 = .ok (.invokevirtual 58, 3) := by decide +kernel
theorem dX3_parseBook_24 : decode cX3_parseBook 24 = .ok (.aload_n 0, 1) := by decide +kernel
theorem dX3_parseBook_25 : decode cX3_parseBook 25 = .ok (.iconst 0, 1) := by decide +kernel
theorem dX3_parseBook_26 : decode cX3_parseBook 26 = .ok (.bipush 7, 2) := by decide +kernel
theorem dX3_parseBook_28 : decode cX3_parseBook 28 = .ok (.invokevirtual 97, 3) := by decide +kernel
theorem dX3_parseBook_31 : decode cX3_parseBook 31 = .ok (.istore_n 1, 1) := by decide +kernel
theorem dX3_parseBook_32 : decode cX3_parseBook 32 = .ok (.aload_n 0, 1) := by decide +kernel
theorem dX3_parseBook_33 : decode cX3_parseBook 33 = .ok (.iconst 0, 1) := by decide +kernel
theorem dX3_parseBook_34 : decode cX3_parseBook 34 = .ok (.bipush 9, 2) := by decide +kernel
theorem dX3_parseBook_36 : decode cX3_parseBook 36 = .ok (.invokevirtual 97, 3) := by decide +kernel
theorem dX3_parseBook_39 : decode cX3_parseBook 39 = .ok (.istore_n 2, 1) := by decide +kernel
theorem dX3_parseBook_40 : decode cX3_parseBook 40 = .ok (.aload_n 0, 1) := by decide +kernel
theorem dX3_parseBook_41 : decode cX3_parseBook 41 = .ok (.aload_n 0, 1) := by decide +kernel
theorem dX3_parseBook_42 : decode cX3_parseBook 42 = .ok (.iconst 0, 1) := by decide +kernel
theorem dX3_parseBook_43 : decode cX3_parseBook 43 = .ok (.bipush 9, 2) := by decide +kernel
theorem dX3_parseBook_45 : decode cX3_parseBook 45 = .ok (.invokevirtual 97, 3) := by decide +kernel
theorem dX3_parseBook_48 : decode cX3_parseBook 48 = .ok (.invokevirtual 101, 3) := by decide +kernel
theorem dX3_parseBook_51 : decode cX3_parseBook 51 = .ok (.istore_n 3, 1) := by decide +kernel
theorem dX3_parseBook_52 : decode cX3_parseBook 52 = .ok (.aload_n 0, 1) := by decide +kernel
theorem dX3_parseBook_53 : decode cX3_parseBook 53 = .ok (.invokevirtual 105, 3) := by decide +kernel
theorem dX3_parseBook_56 : decode cX3_parseBook 56 = .ok (.aload_n 0, 1) := by decide +kernel
theorem dX3_parseBook_57 : decode cX3_parseBook 57 = .ok (.getfield 21, 3) := by decide +kernel
theorem dX3_parseBook_60 : decode cX3_parseBook 60 = .ok (.iload_n 1, 1) := by decide +kernel
theorem dX3_parseBook_61 : decode cX3_parseBook 61 = .ok (.iload_n 2, 1) := by decide +kernel
theorem dX3_parseBook_62 : decode cX3_parseBook 62 = .ok (.iload_n 3, 1) := by decide +kernel
theorem dX3_parseBook_63 : decode cX3_parseBook 63 = .ok (.invokevirtual 108, 3) := by decide +kernel
theorem dX3_parseBook_66 : decode cX3_parseBook 66 = .ok (.return_, 1) := by decide +kernel
theorem dX3_parseReader_0 : decode cX3_parseReader 0 = .ok (.aload_n 0, 1) := by decide +kernel
theorem dX3_parseReader_1 : decode cX3_parseReader 1 = .ok (.getfield 21, 3) := by decide +kernel
theorem dX3_parseReader_4 : decode cX3_parseReader 4 = .ok (.getfield 112, 3) := by decide +kernel
theorem dX3_parseReader_7 : decode cX3_parseReader 7 = .ok (.iconst 4, 1) := by decide +kernel
theorem dX3_parseReader_8 : decode cX3_parseReader 8 = .ok (.if_icmp .lt 15, 3) := by decide +kernel
theorem dX3_parseReader_11 : decode cX3_parseReader 11 = .ok (.aload_n 0, 1) := by decide +kernel
theorem dX3_parseReader_12 : decode cX3_parseReader 12 = .ok (.iconst 5, 1) := by decide +kernel
theorem dX3_parseReader_13 : decode cX3_parseReader 13 = .ok (.aload_n 0, 1) := by decide +kernel
theorem dX3_parseReader_14 : decode cX3_parseReader 14 = .ok (.getfield 12, 3) := by decide +kernel
theorem dX3_parseReader_17 : decode cX3_parseReader 17 = .ok (.getfield 65, 3) := by decide +kernel
theorem dX3_parseReader_20 : decode cX3_parseReader 20 = .ok (.invokevirtual 58, 3) := by decide +kernel
theorem dX3_parseReader_23 : decode cX3_parseReader 23 = .ok (.aload_n 0, 1) := by decide +kernel
theorem dX3_parseReader_24 : decode cX3_parseReader 24 = .ok (.aload_n 0, 1) := by decide +kernel
theorem dX3_parseReader_25 : decode cX3_parseReader 25 = .ok (.iconst 0, 1) := by decide +kernel
theorem dX3_parseReader_26 : decode cX3_parseReader 26 = .ok (.bipush 9, 2) := by decide +kernel
theorem dX3_parseReader_28 : decode cX3_parseReader 28 = .ok (.invokevirtual 97, 3) := by decide +kernel
theorem dX3_parseReader_31 : decode cX3_parseReader 31 = .ok (.invokevirtual 101, 3) := by decide +kernel
theorem dX3_parseReader_34 : decode cX3_parseReader 34 = .ok (.istore_n 2, 1) := by decide +kernel
theorem dX3_parseReader_35 : decode cX3_parseReader 35 = .ok (.aload_n 0, 1) := by decide +kernel
theorem dX3_parseReader_36 : decode cX3_parseReader 36 = .ok (.iconst 1, 1) := by decide +kernel
theorem dX3_parseReader_37 : decode cX3_parseReader 37 = .ok (.bipush 99, 2) := by decide +kernel
theorem dX3_parseReader_39 : decode cX3_parseReader 39 = .ok (.invokevirtual 97, 3) := by decide +kernel
theorem dX3_parseReader_42 : decode cX3_parseReader 42 = .ok (.istore_n 3, 1) := by decide +kernel
theorem dX3_parseReader_43 : decode cX3_parseReader 43 = .ok (.aload_n 0, 1) := by decide +kernel
theorem dX3_parseReader_44 : decode cX3_parseReader 44 = .ok (.invokevirtual 105, 3) := by decide +kernel
theorem dX3_parseReader_47 : decode cX3_parseReader 47 = .ok (.aload_n 0, 1) := by decide +kernel
theorem dX3_parseReader_48 : decode cX3_parseReader 48 = .ok (.getfield 21, 3) := by decide +kernel
theorem dX3_parseReader_51 : decode cX3_parseReader 51 = .ok (.iload_n 1, 1) := by decide +kernel
theorem dX3_parseReader_52 : decode cX3_parseReader 52 = .ok (.iload_n 2, 1) := by decide +kernel
theorem dX3_parseReader_53 : decode cX3_parseReader 53 = .ok (.iload_n 3, 1) := by decide +kernel
theorem dX3_parseReader_54 : decode cX3_parseReader 54 = .ok (.invokevirtual 115, 3) := by decide +kernel
theorem dX3_parseReader_57 : decode cX3_parseReader 57 = .ok (.return_, 1) := by decide +kernel
theorem dX3_parseSteps_0 : decode cX3_parseSteps 0 = .ok (.aload_n 0, 1) := by decide +kernel
theorem dX3_parseSteps_1 : decode cX3_parseSteps 1 = .ok (.getfield 35, 3) := by decide +kernel
theorem dX3_parseSteps_4 : decode cX3_parseSteps 4 = .ok (.ifCond .eq 15, 3) := by decide +kernel
theorem dX3_parseSteps_7 : decode cX3_parseSteps 7 = .ok (.aload_n 0, 1) := by decide +kernel
theorem dX3_parseSteps_8 : decode cX3_parseSteps 8 = .ok (.iconst 4, 1) := by decide +kernel
theorem dX3_parseSteps_9 : decode cX3_parseSteps 9 = .ok (.aload_n 0, 1) := by decide +kernel
theorem dX3_parseSteps_10 : decode cX3_parseSteps 10 = .ok (.getfield 12, 3) := by decide +kernel
theorem dX3_parseSteps_13 : decode cX3_parseSteps 13 = .ok (.getfield 65, 3) := by decide +kernel
theorem dX3_parseSteps_16 : decode cX3_parseSteps 16 = .ok (.invokevirtual 58, 3) := by decide +kernel
theorem dX3_parseSteps_19 : decode cX3_parseSteps 19 = .ok (.aload_n 0, 1) := by decide +kernel
theorem dX3_parseSteps_20 : decode cX3_parseSteps 20 = .ok (.iconst 1, 1) := by decide +kernel
theorem dX3_parseSteps_21 : decode cX3_parseSteps 21 = .ok (.putfield 35, 3) := by decide +kernel
theorem dX3_parseSteps_24 : decode cX3_parseSteps 24 = .ok (.aload_n 0, 1) := by decide +kernel
theorem dX3_parseSteps_25 : decode cX3_parseSteps 25 = .ok (.getfield 21, 3) := by decide +kernel
theorem dX3_parseSteps_28 : decode cX3_parseSteps 28 = .ok (.aload_n 0, 1) := by decide +kernel
theorem dX3_parseSteps_29 : decode cX3_parseSteps 29 = .ok (.iconst 0, 1) := by decide +kernel
theorem dX3_parseSteps_30 : decode cX3_parseSteps 30 = .ok (.bipush 7, 2) := by decide +kernel
theorem dX3_parseSteps_32 : decode cX3_parseSteps 32 = .ok (.invokevirtual 97, 3) := by decide +kernel
theorem dX3_parseSteps_35 : decode cX3_parseSteps 35 = .ok (.putfield 118, 3) := by decide +kernel
theorem dX3_parseSteps_38 : decode cX3_parseSteps 38 = .ok (.aload_n 0, 1) := by decide +kernel
theorem dX3_parseSteps_39 : decode cX3_parseSteps 39 = .ok (.invokevirtual 105, 3) := by decide +kernel
theorem dX3_parseSteps_42 : decode cX3_parseSteps 42 = .ok (.return_, 1) := by decide +kernel
theorem dX3_takeNumber_0 : decode cX3_takeNumber 0 = .ok (.aload_n 0, 1) := by decide +kernel
theorem dX3_takeNumber_1 : decode cX3_takeNumber 1 = .ok (.invokevirtual 45, 3) := by decide +kernel
theorem dX3_takeNumber_4 : decode cX3_takeNumber 4 = .ok (.aload_n 0, 1) := by decide +kernel
theorem dX3_takeNumber_5 : decode cX3_takeNumber 5 = .ok (.getfield 25, 3) := by decide +kernel
theorem dX3_takeNumber_8 : decode cX3_takeNumber 8 = .ok (.ifCond .eq 5, 3) := by decide +kernel
theorem dX3_takeNumber_11 : decode cX3_takeNumber 11 = .ok (.iload_n 1, 1) := by decide +kernel
theorem dX3_takeNumber_12 : decode cX3_takeNumber 12 = .ok (.ireturn, 1) := by decide +kernel
theorem dX3_takeNumber_13 : decode cX3_takeNumber 13 = .ok (.aload_n 0, 1) := by decide +kernel
theorem dX3_takeNumber_14 : decode cX3_takeNumber 14 = .ok (.getfield 12, 3) := by decide +kernel
theorem dX3_takeNumber_17 : decode cX3_takeNumber 17 = .ok (.getfield 48, 3) := by decide +kernel
theorem dX3_takeNumber_20 : decode cX3_takeNumber 20 = .ok (.iconst 2, 1) := by decide +kernel
theorem dX3_takeNumber_21 : decode cX3_takeNumber 21 = .ok (.if_icmp .eq 17, 3) := by decide +kernel
theorem dX3_takeNumber_24 : decode cX3_takeNumber 24 = .ok (.aload_n 0, 1) := by decide +kernel
theorem dX3_takeNumber_25 : decode cX3_takeNumber 25 = .ok (.iconst 2, 1) := by decide +kernel
theorem dX3_takeNumber_26 : decode cX3_takeNumber 26 = .ok (.aload_n 0, 1) := by decide +kernel
theorem dX3_takeNumber_27 : decode cX3_takeNumber 27 = .ok (.getfield 12, 3) := by decide +kernel
theorem dX3_takeNumber_30 : decode cX3_takeNumber 30 = .ok (.getfield 65, 3) := by decide +kernel
theorem dX3_takeNumber_33 : decode cX3_takeNumber 33 = .ok (.invokevirtual 58, 3) := by decide +kernel
theorem dX3_takeNumber_36 : decode cX3_takeNumber 36 = .ok (.iload_n 1, 1) := by decide +kernel
theorem dX3_takeNumber_37 : decode cX3_takeNumber 37 = .ok (.ireturn, 1) := by decide +kernel
theorem dX3_takeNumber_38 : decode cX3_takeNumber 38 = .ok (.aload_n 0, 1) := by decide +kernel
theorem dX3_takeNumber_39 : decode cX3_takeNumber 39 = .ok (.getfield 12, 3) := by decide +kernel
theorem dX3_takeNumber_42 : decode cX3_takeNumber 42 = .ok (.invokevirtual 121, 3) := by decide +kernel
theorem dX3_takeNumber_45 : decode cX3_takeNumber 45 = .ok (.istore_n 3, 1) := by decide +kernel
theorem dX3_takeNumber_46 : decode cX3_takeNumber 46 = .ok (.iload_n 3, 1) := by decide +kernel
theorem dX3_takeNumber_47 : decode cX3_takeNumber 47 = .ok (.iload_n 1, 1) := by decide +kernel
theorem dX3_takeNumber_48 : decode cX3_takeNumber 48 = .ok (.iload_n 2, 1) := by decide +kernel
theorem dX3_takeNumber_49 : decode cX3_takeNumber 49 = .ok (.invokestatic 125, 3) := by decide +kernel
theorem dX3_takeNumber_52 : decode cX3_takeNumber 52 = .ok (.ifCond .eq 17, 3) := by decide +kernel
theorem dX3_takeNumber_55 : decode cX3_takeNumber 55 = .ok (.aload_n 0, 1) := by decide +kernel
theorem dX3_takeNumber_56 : decode cX3_takeNumber 56 = .ok (.iconst 3, 1) := by decide +kernel
theorem dX3_takeNumber_57 : decode cX3_takeNumber 57 = .ok (.aload_n 0, 1) := by decide +kernel
theorem dX3_takeNumber_58 : decode cX3_takeNumber 58 = .ok (.getfield 12, 3) := by decide +kernel
theorem dX3_takeNumber_61 : decode cX3_takeNumber 61 = .ok (.getfield 65, 3) := by decide +kernel
theorem dX3_takeNumber_64 : decode cX3_takeNumber 64 = .ok (.invokevirtual 58, 3) := by decide +kernel
theorem dX3_takeNumber_67 : decode cX3_takeNumber 67 = .ok (.iload_n 1, 1) := by decide +kernel
theorem dX3_takeNumber_68 : decode cX3_takeNumber 68 = .ok (.ireturn, 1) := by decide +kernel
theorem dX3_takeNumber_69 : decode cX3_takeNumber 69 = .ok (.iload_n 3, 1) := by decide +kernel
theorem dX3_takeNumber_70 : decode cX3_takeNumber 70 = .ok (.ireturn, 1) := by decide +kernel
theorem dX3_bookTold_0 : decode cX3_bookTold 0 = .ok (.iload_n 1, 1) := by decide +kernel
theorem dX3_bookTold_1 : decode cX3_bookTold 1 = .ok (.bipush 9, 2) := by decide +kernel
theorem dX3_bookTold_3 : decode cX3_bookTold 3 = .ok (.if_icmp .ne 6, 3) := by decide +kernel
theorem dX3_bookTold_6 : decode cX3_bookTold 6 = .ok (.bipush (-4), 2) := by decide +kernel
theorem dX3_bookTold_8 : decode cX3_bookTold 8 = .ok (.ireturn, 1) := by decide +kernel
theorem dX3_bookTold_9 : decode cX3_bookTold 9 = .ok (.iload_n 1, 1) := by decide +kernel
theorem dX3_bookTold_10 : decode cX3_bookTold 10 = .ok (.bipush 8, 2) := by decide +kernel
theorem dX3_bookTold_12 : decode cX3_bookTold 12 = .ok (.if_icmp .lt 15, 3) := by decide +kernel
theorem dX3_bookTold_15 : decode cX3_bookTold 15 = .ok (.aload_n 0, 1) := by decide +kernel
theorem dX3_bookTold_16 : decode cX3_bookTold 16 = .ok (.iconst 3, 1) := by decide +kernel
theorem dX3_bookTold_17 : decode cX3_bookTold 17 = .ok (.aload_n 0, 1) := by decide +kernel
theorem dX3_bookTold_18 : decode cX3_bookTold 18 = .ok (.getfield 12, 3) := by decide +kernel
theorem dX3_bookTold_21 : decode cX3_bookTold 21 = .ok (.getfield 65, 3) := by decide +kernel
theorem dX3_bookTold_24 : decode cX3_bookTold 24 = .ok (.invokevirtual 58, 3) := by decide +kernel
theorem dX3_bookTold_27 : decode cX3_bookTold 27 = .ok (.iload_n 1, 1) := by decide +kernel
theorem dX3_bookTold_28 : decode cX3_bookTold 28 = .ok (.ireturn, 1) := by decide +kernel
theorem dX3_takeStop_0 : decode cX3_takeStop 0 = .ok (.aload_n 0, 1) := by decide +kernel
theorem dX3_takeStop_1 : decode cX3_takeStop 1 = .ok (.invokevirtual 45, 3) := by decide +kernel
theorem dX3_takeStop_4 : decode cX3_takeStop 4 = .ok (.aload_n 0, 1) := by decide +kernel
theorem dX3_takeStop_5 : decode cX3_takeStop 5 = .ok (.getfield 25, 3) := by decide +kernel
theorem dX3_takeStop_8 : decode cX3_takeStop 8 = .ok (.ifCond .ne 26, 3) := by decide +kernel
theorem dX3_takeStop_11 : decode cX3_takeStop 11 = .ok (.aload_n 0, 1) := by decide +kernel
theorem dX3_takeStop_12 : decode cX3_takeStop 12 = .ok (.getfield 12, 3) := by decide +kernel
theorem dX3_takeStop_15 : decode cX3_takeStop 15 = .ok (.getfield 48, 3) := by decide +kernel
theorem dX3_takeStop_18 : decode cX3_takeStop 18 = .ok (.iconst 3, 1) := by decide +kernel
theorem dX3_takeStop_19 : decode cX3_takeStop 19 = .ok (.if_icmp .eq 15, 3) := by decide +kernel
theorem dX3_takeStop_22 : decode cX3_takeStop 22 = .ok (.aload_n 0, 1) := by decide +kernel
theorem dX3_takeStop_23 : decode cX3_takeStop 23 = .ok (.iconst 2, 1) := by decide +kernel
theorem dX3_takeStop_24 : decode cX3_takeStop 24 = .ok (.aload_n 0, 1) := by decide +kernel
theorem dX3_takeStop_25 : decode cX3_takeStop 25 = .ok (.getfield 12, 3) := by decide +kernel
theorem dX3_takeStop_28 : decode cX3_takeStop 28 = .ok (.getfield 65, 3) := by decide +kernel
theorem dX3_takeStop_31 : decode cX3_takeStop 31 = .ok (.invokevirtual 58, 3) := by decide +kernel
theorem dX3_takeStop_34 : decode cX3_takeStop 34 = .ok (.return_, 1) := by decide +kernel
theorem dX3_namesMissingBook_0 : decode cX3_namesMissingBook 0 = .ok (.iconst 0, 1) := by decide +kernel
theorem dX3_namesMissingBook_1 : decode cX3_namesMissingBook 1 = .ok (.istore_n 1, 1) := by decide +kernel
theorem dX3_namesMissingBook_2 : decode cX3_namesMissingBook 2 = .ok (.iload_n 1, 1) := by decide +kernel
theorem dX3_namesMissingBook_3 : decode cX3_namesMissingBook 3 = .ok (.aload_n 0, 1) := by decide +kernel
theorem dX3_namesMissingBook_4 : decode cX3_namesMissingBook 4 = .ok (.getfield 21, 3) := by decide +kernel
theorem dX3_namesMissingBook_7 : decode cX3_namesMissingBook 7 = .ok (.getfield 94, 3) := by decide +kernel
theorem dX3_namesMissingBook_10 : decode cX3_namesMissingBook 10 = .ok (.if_icmp .ge 30, 3) := by decide +kernel
theorem dX3_namesMissingBook_13 : decode cX3_namesMissingBook 13 = .ok (.aload_n 0, 1) := by decide +kernel
theorem dX3_namesMissingBook_14 : decode cX3_namesMissingBook 14 = .ok (.getfield 21, 3) := by decide +kernel
theorem dX3_namesMissingBook_17 : decode cX3_namesMissingBook 17 = .ok (.getfield 129, 3) := by decide +kernel
theorem dX3_namesMissingBook_20 : decode cX3_namesMissingBook 20 = .ok (.iload_n 1, 1) := by decide +kernel
theorem dX3_namesMissingBook_21 : decode cX3_namesMissingBook 21 = .ok (.iaload, 1) := by decide +kernel
theorem dX3_namesMissingBook_22 : decode cX3_namesMissingBook 22 = .ok (.aload_n 0, 1) := by decide +kernel
theorem dX3_namesMissingBook_23 : decode cX3_namesMissingBook 23 = .ok (.getfield 21, 3) := by decide +kernel
theorem dX3_namesMissingBook_26 : decode cX3_namesMissingBook 26 = .ok (.getfield 94, 3) := by decide +kernel
theorem dX3_namesMissingBook_29 : decode cX3_namesMissingBook 29 = .ok (.if_icmp .lt 5, 3) := by decide +kernel
theorem dX3_namesMissingBook_32 : decode cX3_namesMissingBook 32 = .ok (.iconst 1, 1) := by decide +kernel
theorem dX3_namesMissingBook_33 : decode cX3_namesMissingBook 33 = .ok (.ireturn, 1) := by decide +kernel
theorem dX3_namesMissingBook_34 : decode cX3_namesMissingBook 34 = .ok (.iinc 1 1, 3) := by decide +kernel
theorem dX3_namesMissingBook_37 : decode cX3_namesMissingBook 37 = .ok (.goto (-35), 3) := by decide +kernel
theorem dX3_namesMissingBook_40 : decode cX3_namesMissingBook 40 = .ok (.iconst 0, 1) := by decide +kernel
theorem dX3_namesMissingBook_41 : decode cX3_namesMissingBook 41 = .ok (.istore_n 1, 1) := by decide +kernel
theorem dX3_namesMissingBook_42 : decode cX3_namesMissingBook 42 = .ok (.iload_n 1, 1) := by decide +kernel
theorem dX3_namesMissingBook_43 : decode cX3_namesMissingBook 43 = .ok (.aload_n 0, 1) := by decide +kernel
theorem dX3_namesMissingBook_44 : decode cX3_namesMissingBook 44 = .ok (.getfield 21, 3) := by decide +kernel
theorem dX3_namesMissingBook_47 : decode cX3_namesMissingBook 47 = .ok (.getfield 112, 3) := by decide +kernel
theorem dX3_namesMissingBook_50 : decode cX3_namesMissingBook 50 = .ok (.if_icmp .ge 30, 3) := by decide +kernel
theorem dX3_namesMissingBook_53 : decode cX3_namesMissingBook 53 = .ok (.aload_n 0, 1) := by decide +kernel
theorem dX3_namesMissingBook_54 : decode cX3_namesMissingBook 54 = .ok (.getfield 21, 3) := by decide +kernel
theorem dX3_namesMissingBook_57 : decode cX3_namesMissingBook 57 = .ok (.getfield 133, 3) := by decide +kernel
theorem dX3_namesMissingBook_60 : decode cX3_namesMissingBook 60 = .ok (.iload_n 1, 1) := by decide +kernel
theorem dX3_namesMissingBook_61 : decode cX3_namesMissingBook 61 = .ok (.iaload, 1) := by decide +kernel
theorem dX3_namesMissingBook_62 : decode cX3_namesMissingBook 62 = .ok (.aload_n 0, 1) := by decide +kernel
theorem dX3_namesMissingBook_63 : decode cX3_namesMissingBook 63 = .ok (.getfield 21, 3) := by decide +kernel
theorem dX3_namesMissingBook_66 : decode cX3_namesMissingBook 66 = .ok (.getfield 94, 3) := by decide +kernel
theorem dX3_namesMissingBook_69 : decode cX3_namesMissingBook 69 = .ok (.if_icmp .lt 5, 3) := by decide +kernel
theorem dX3_namesMissingBook_72 : decode cX3_namesMissingBook 72 = .ok (.iconst 1, 1) := by decide +kernel
theorem dX3_namesMissingBook_73 : decode cX3_namesMissingBook 73 = .ok (.ireturn, 1) := by decide +kernel
theorem dX3_namesMissingBook_74 : decode cX3_namesMissingBook 74 = .ok (.iinc 1 1, 3) := by decide +kernel
theorem dX3_namesMissingBook_77 : decode cX3_namesMissingBook 77 = .ok (.goto (-35), 3) := by decide +kernel
theorem dX3_namesMissingBook_80 : decode cX3_namesMissingBook 80 = .ok (.iconst 0, 1) := by decide +kernel
theorem dX3_namesMissingBook_81 : decode cX3_namesMissingBook 81 = .ok (.ireturn, 1) := by decide +kernel
theorem dX4_init_0 : decode cX4_init 0 = .ok (.aload_n 0, 1) := by decide +kernel
theorem dX4_init_1 : decode cX4_init 1 = .ok (.invokespecial 3, 3) := by decide +kernel
theorem dX4_init_4 : decode cX4_init 4 = .ok (.aload_n 0, 1) := by decide +kernel
theorem dX4_init_5 : decode cX4_init 5 = .ok (.bipush 8, 2) := by decide +kernel
theorem dX4_init_7 : decode cX4_init 7 = .ok (.newarray .int, 2) := by decide +kernel
theorem dX4_init_9 : decode cX4_init 9 = .ok (.putfield 9, 3) := by decide +kernel
theorem dX4_init_12 : decode cX4_init 12 = .ok (.aload_n 0, 1) := by decide +kernel
theorem dX4_init_13 : decode cX4_init 13 = .ok (.bipush 8, 2) := by decide +kernel
theorem dX4_init_15 : decode cX4_init 15 = .ok (.newarray .int, 2) := by decide +kernel
theorem dX4_init_17 : decode cX4_init 17 = .ok (.putfield 15, 3) := by decide +kernel
theorem dX4_init_20 : decode cX4_init 20 = .ok (.aload_n 0, 1) := by decide +kernel
theorem dX4_init_21 : decode cX4_init 21 = .ok (.new 18, 3) := by decide +kernel
theorem dX4_init_24 : decode cX4_init 24 = .ok (.dup, 1) := by decide +kernel
theorem dX4_init_25 : decode cX4_init 25 = .ok (.invokespecial 20, 3) := by decide +kernel
theorem dX4_init_28 : decode cX4_init 28 = .ok (.putfield 21, 3) := by decide +kernel
theorem dX4_init_31 : decode cX4_init 31 = .ok (.return_, 1) := by decide +kernel
theorem dX4_foresee_0 : decode cX4_foresee 0 = .ok (.aload_n 0, 1) := by decide +kernel
theorem dX4_foresee_1 : decode cX4_foresee 1 = .ok (.iload_n 3, 1) := by decide +kernel
theorem dX4_foresee_2 : decode cX4_foresee 2 = .ok (.bipush 8, 2) := by decide +kernel
theorem dX4_foresee_4 : decode cX4_foresee 4 = .ok (.invokestatic 25, 3) := by decide +kernel
theorem dX4_foresee_7 : decode cX4_foresee 7 = .ok (.putfield 31, 3) := by decide +kernel
theorem dX4_foresee_10 : decode cX4_foresee 10 = .ok (.aload_n 2, 1) := by decide +kernel
theorem dX4_foresee_11 : decode cX4_foresee 11 = .ok (.aload_n 1, 1) := by decide +kernel
theorem dX4_foresee_12 : decode cX4_foresee 12 = .ok (.invokevirtual 35, 3) := by decide +kernel
theorem dX4_foresee_15 : decode cX4_foresee 15 = .ok (.iconst 0, 1) := by decide +kernel
theorem dX4_foresee_16 : decode cX4_foresee 16 = .ok (.istore 4, 2) := by decide +kernel
theorem dX4_foresee_18 : decode cX4_foresee 18 = .ok (.iload 4, 2) := by decide +kernel
theorem dX4_foresee_20 : decode cX4_foresee 20 = .ok (.aload_n 0, 1) := by decide +kernel
theorem dX4_foresee_21 : decode cX4_foresee 21 = .ok (.getfield 31, 3) := by decide +kernel
theorem dX4_foresee_24 : decode cX4_foresee 24 = .ok (.if_icmp .ge 74, 3) := by decide +kernel
theorem dX4_foresee_27 : decode cX4_foresee 27 = .ok (.aload_n 2, 1) := by decide +kernel
theorem dX4_foresee_28 : decode cX4_foresee 28 = .ok (.getfield 39, 3) := by decide +kernel
theorem dX4_foresee_31 : decode cX4_foresee 31 = .ok (.istore 5, 2) := by decide +kernel
theorem dX4_foresee_33 : decode cX4_foresee 33 = .ok (.aload_n 0, 1) := by decide +kernel
theorem dX4_foresee_34 : decode cX4_foresee 34 = .ok (.getfield 21, 3) := by decide +kernel
theorem dX4_foresee_37 : decode cX4_foresee 37 = .ok (.aload_n 2, 1) := by decide +kernel
theorem dX4_foresee_38 : decode cX4_foresee 38 = .ok (.invokevirtual 35, 3) := by decide +kernel
theorem dX4_foresee_41 : decode cX4_foresee 41 = .ok (.aload_n 0, 1) := by decide +kernel
theorem dX4_foresee_42 : decode cX4_foresee 42 = .ok (.getfield 21, 3) := by decide +kernel
theorem dX4_foresee_45 : decode cX4_foresee 45 = .ok (.bipush 7, 2) := by decide +kernel
theorem dX4_foresee_47 : decode cX4_foresee 47 = .ok (.putfield 42, 3) := by decide +kernel
theorem dX4_foresee_50 : decode cX4_foresee 50 = .ok (.aload_n 0, 1) := by decide +kernel
theorem dX4_foresee_51 : decode cX4_foresee 51 = .ok (.getfield 21, 3) := by decide +kernel
theorem dX4_foresee_54 : decode cX4_foresee 54 = .ok (.invokevirtual 45, 3) := by decide +kernel
theorem dX4_foresee_57 : decode cX4_foresee 57 = .ok (.aload_n 0, 1) := by decide +kernel
theorem dX4_foresee_58 : decode cX4_foresee 58 = .ok (.getfield 15, 3) := by decide +kernel
theorem dX4_foresee_61 : decode cX4_foresee 61 = .ok (.iload 4, 2) := by decide +kernel
theorem dX4_foresee_63 : decode cX4_foresee 63 = .ok (.aload_n 0, 1) := by decide +kernel
theorem dX4_foresee_64 : decode cX4_foresee 64 = .ok (.getfield 21, 3) := by decide +kernel
theorem dX4_foresee_67 : decode cX4_foresee 67 = .ok (.getfield 39, 3) := by decide +kernel
theorem dX4_foresee_70 : decode cX4_foresee 70 = .ok (.iload 5, 2) := by decide +kernel
theorem dX4_foresee_72 : decode cX4_foresee 72 = .ok (.isub, 1) := by decide +kernel
theorem dX4_foresee_73 : decode cX4_foresee 73 = .ok (.iastore, 1) := by decide +kernel
theorem dX4_foresee_74 : decode cX4_foresee 74 = .ok (.aload_n 2, 1) := by decide +kernel
theorem dX4_foresee_75 : decode cX4_foresee 75 = .ok (.invokevirtual 45, 3) := by decide +kernel
theorem dX4_foresee_78 : decode cX4_foresee 78 = .ok (.aload_n 0, 1) := by decide +kernel
theorem dX4_foresee_79 : decode cX4_foresee 79 = .ok (.getfield 9, 3) := by decide +kernel
theorem dX4_foresee_82 : decode cX4_foresee 82 = .ok (.iload 4, 2) := by decide +kernel
theorem dX4_foresee_84 : decode cX4_foresee 84 = .ok (.aload_n 2, 1) := by decide +kernel
theorem dX4_foresee_85 : decode cX4_foresee 85 = .ok (.getfield 39, 3) := by decide +kernel
theorem dX4_foresee_88 : decode cX4_foresee 88 = .ok (.iload 5, 2) := by decide +kernel
theorem dX4_foresee_90 : decode cX4_foresee 90 = .ok (.isub, 1) := by decide +kernel
theorem dX4_foresee_91 : decode cX4_foresee 91 = .ok (.iastore, 1) := by decide +kernel
theorem dX4_foresee_92 : decode cX4_foresee 92 = .ok (.iinc 4 1, 3) := by decide +kernel
theorem dX4_foresee_95 : decode cX4_foresee 95 = .ok (.goto (-77), 3) := by decide +kernel
theorem dX4_foresee_98 : decode cX4_foresee 98 = .ok (.return_, 1) := by decide +kernel
theorem dX4_weightWithin_0 : decode cX4_weightWithin 0 = .ok (.lconst 0, 1) := by decide +kernel
theorem dX4_weightWithin_1 : decode cX4_weightWithin 1 = .ok (.lstore_n 3, 1) := by decide +kernel
theorem dX4_weightWithin_2 : decode cX4_weightWithin 2 = .ok (.iconst 0, 1) := by decide +kernel
theorem dX4_weightWithin_3 : decode cX4_weightWithin 3 = .ok (.istore 5, 2) := by decide +kernel
theorem dX4_weightWithin_5 : decode cX4_weightWithin 5 = .ok (.iload 5, 2) := by decide +kernel
theorem dX4_weightWithin_7 : decode cX4_weightWithin 7 = .ok (.iconst 1, 1) := by decide +kernel
theorem dX4_weightWithin_8 : decode cX4_weightWithin 8 = .ok (.aload_n 0, 1) := by decide +kernel
theorem dX4_weightWithin_9 : decode cX4_weightWithin 9 = .ok (.getfield 31, 3) := by decide +kernel
theorem dX4_weightWithin_12 : decode cX4_weightWithin 12 = .ok (.ishl, 1) := by decide +kernel
theorem dX4_weightWithin_13 : decode cX4_weightWithin 13 = .ok (.if_icmp .ge 108, 3) := by decide +kernel
theorem dX4_weightWithin_16 : decode cX4_weightWithin 16 = .ok (.iconst 0, 1) := by decide +kernel
theorem dX4_weightWithin_17 : decode cX4_weightWithin 17 = .ok (.istore 6, 2) := by decide +kernel
theorem dX4_weightWithin_19 : decode cX4_weightWithin 19 = .ok (.lconst 1, 1) := by decide +kernel
theorem dX4_weightWithin_20 : decode cX4_weightWithin 20 = .ok (.lstore 7, 2) := by decide +kernel
theorem dX4_weightWithin_22 : decode cX4_weightWithin 22 = .ok (.iconst 0, 1) := by decide +kernel
theorem dX4_weightWithin_23 : decode cX4_weightWithin 23 = .ok (.istore 9, 2) := by decide +kernel
theorem dX4_weightWithin_25 : decode cX4_weightWithin 25 = .ok (.iload 9, 2) := by decide +kernel
theorem dX4_weightWithin_27 : decode cX4_weightWithin 27 = .ok (.aload_n 0, 1) := by decide +kernel
theorem dX4_weightWithin_28 : decode cX4_weightWithin 28 = .ok (.getfield 31, 3) := by decide +kernel
theorem dX4_weightWithin_31 : decode cX4_weightWithin 31 = .ok (.if_icmp .ge 73, 3) := by decide +kernel
theorem dX4_weightWithin_34 : decode cX4_weightWithin 34 = .ok (.iload 5, 2) := by decide +kernel
theorem dX4_weightWithin_36 : decode cX4_weightWithin 36 = .ok (.iload 9, 2) := by decide +kernel
theorem dX4_weightWithin_38 : decode cX4_weightWithin 38 = .ok (.ishr, 1) := by decide +kernel
theorem dX4_weightWithin_39 : decode cX4_weightWithin 39 = .ok (.iconst 1, 1) := by decide +kernel
theorem dX4_weightWithin_40 : decode cX4_weightWithin 40 = .ok (.iand, 1) := by decide +kernel
theorem dX4_weightWithin_41 : decode cX4_weightWithin 41 = .ok (.ifCond .eq 7, 3) := by decide +kernel
theorem dX4_weightWithin_44 : decode cX4_weightWithin 44 = .ok (.iconst 1, 1) := by decide +kernel
theorem dX4_weightWithin_45 : decode cX4_weightWithin 45 = .ok (.goto 4, 3) := by decide +kernel
theorem dX4_weightWithin_48 : decode cX4_weightWithin 48 = .ok (.iconst 0, 1) := by decide +kernel
theorem dX4_weightWithin_49 : decode cX4_weightWithin 49 = .ok (.istore 10, 2) := by decide +kernel
theorem dX4_weightWithin_51 : decode cX4_weightWithin 51 = .ok (.iload 6, 2) := by decide +kernel
theorem dX4_weightWithin_53 : decode cX4_weightWithin 53 = .ok (.iload 10, 2) := by decide +kernel
theorem dX4_weightWithin_55 : decode cX4_weightWithin 55 = .ok (.ifCond .eq 13, 3) := by decide +kernel
theorem dX4_weightWithin_58 : decode cX4_weightWithin 58 = .ok (.aload_n 0, 1) := by decide +kernel
theorem dX4_weightWithin_59 : decode cX4_weightWithin 59 = .ok (.getfield 15, 3) := by decide +kernel
theorem dX4_weightWithin_62 : decode cX4_weightWithin 62 = .ok (.iload 9, 2) := by decide +kernel
theorem dX4_weightWithin_64 : decode cX4_weightWithin 64 = .ok (.iaload, 1) := by decide +kernel
theorem dX4_weightWithin_65 : decode cX4_weightWithin 65 = .ok (.goto 10, 3) := by decide +kernel
theorem dX4_weightWithin_68 : decode cX4_weightWithin 68 = .ok (.aload_n 0, 1) := by decide +kernel
theorem dX4_weightWithin_69 : decode cX4_weightWithin 69 = .ok (.getfield 9, 3) := by decide +kernel
theorem dX4_weightWithin_72 : decode cX4_weightWithin 72 = .ok (.iload 9, 2) := by decide +kernel
theorem dX4_weightWithin_74 : decode cX4_weightWithin 74 = .ok (.iaload, 1) := by decide +kernel
theorem dX4_weightWithin_75 : decode cX4_weightWithin 75 = .ok (.iadd, 1) := by decide +kernel
theorem dX4_weightWithin_76 : decode cX4_weightWithin 76 = .ok (.istore 6, 2) := by decide +kernel
theorem dX4_weightWithin_78 : decode cX4_weightWithin 78 = .ok (.lload 7, 2) := by decide +kernel
theorem dX4_weightWithin_80 : decode cX4_weightWithin 80 = .ok (.iload 10, 2) := by decide +kernel
theorem dX4_weightWithin_82 : decode cX4_weightWithin 82 = .ok (.ifCond .eq 8, 3) := by decide +kernel
theorem dX4_weightWithin_85 : decode cX4_weightWithin 85 = .ok (.iload_n 1, 1) := by decide +kernel
theorem dX4_weightWithin_86 : decode cX4_weightWithin 86 = .ok (.i2l, 1) := by decide +kernel
theorem dX4_weightWithin_87 : decode cX4_weightWithin 87 = .ok (.goto 8, 3) := by decide +kernel
theorem dX4_weightWithin_90 : decode cX4_weightWithin 90 = .ok (.bipush 10, 2) := by decide +kernel
theorem dX4_weightWithin_92 : decode cX4_weightWithin 92 = .ok (.iload_n 1, 1) := by decide +kernel
theorem dX4_weightWithin_93 : decode cX4_weightWithin 93 = .ok (.isub, 1) := by decide +kernel
theorem dX4_weightWithin_94 : decode cX4_weightWithin 94 = .ok (.i2l, 1) := by decide +kernel
theorem dX4_weightWithin_95 : decode cX4_weightWithin 95 = .ok (.lmul, 1) := by decide +kernel
theorem dX4_weightWithin_96 : decode cX4_weightWithin 96 = .ok (.lstore 7, 2) := by decide +kernel
theorem dX4_weightWithin_98 : decode cX4_weightWithin 98 = .ok (.iinc 9 1, 3) := by decide +kernel
theorem dX4_weightWithin_101 : decode cX4_weightWithin 101 = .ok (.goto (-76), 3) := by decide +kernel
theorem dX4_weightWithin_104 : decode cX4_weightWithin 104 = .ok (.iload 6, 2) := by decide +kernel
theorem dX4_weightWithin_106 : decode cX4_weightWithin 106 = .ok (.iload_n 2, 1) := by decide +kernel
theorem dX4_weightWithin_107 : decode cX4_weightWithin 107 = .ok (.if_icmp .gt 8, 3) := by decide +kernel
theorem dX4_weightWithin_110 : decode cX4_weightWithin 110 = .ok (.lload_n 3, 1) := by decide +kernel
theorem dX4_weightWithin_111 : decode cX4_weightWithin 111 = .ok (.lload 7, 2) := by decide +kernel
theorem dX4_weightWithin_113 : decode cX4_weightWithin 113 = .ok (.ladd, 1) := by decide +kernel
theorem dX4_weightWithin_114 : decode cX4_weightWithin 114 = .ok (.lstore_n 3, 1) := by decide +kernel
theorem dX4_weightWithin_115 : decode cX4_weightWithin 115 = .ok (.iinc 5 1, 3) := by decide +kernel
theorem dX4_weightWithin_118 : decode cX4_weightWithin 118 = .ok (.goto (-113), 3) := by decide +kernel
theorem dX4_weightWithin_121 : decode cX4_weightWithin 121 = .ok (.lload_n 3, 1) := by decide +kernel
theorem dX4_weightWithin_122 : decode cX4_weightWithin 122 = .ok (.lreturn, 1) := by decide +kernel
theorem dX4_tenTimesMean_0 : decode cX4_tenTimesMean 0 = .ok (.lconst 0, 1) := by decide +kernel
theorem dX4_tenTimesMean_1 : decode cX4_tenTimesMean 1 = .ok (.lstore_n 2, 1) := by decide +kernel
theorem dX4_tenTimesMean_2 : decode cX4_tenTimesMean 2 = .ok (.iconst 0, 1) := by decide +kernel
theorem dX4_tenTimesMean_3 : decode cX4_tenTimesMean 3 = .ok (.istore 4, 2) := by decide +kernel
theorem dX4_tenTimesMean_5 : decode cX4_tenTimesMean 5 = .ok (.iload 4, 2) := by decide +kernel
theorem dX4_tenTimesMean_7 : decode cX4_tenTimesMean 7 = .ok (.aload_n 0, 1) := by decide +kernel
theorem dX4_tenTimesMean_8 : decode cX4_tenTimesMean 8 = .ok (.getfield 31, 3) := by decide +kernel
theorem dX4_tenTimesMean_11 : decode cX4_tenTimesMean 11 = .ok (.if_icmp .ge 38, 3) := by decide +kernel
theorem dX4_tenTimesMean_14 : decode cX4_tenTimesMean 14 = .ok (.lload_n 2, 1) := by decide +kernel
theorem dX4_tenTimesMean_15 : decode cX4_tenTimesMean 15 = .ok (.iload_n 1, 1) := by decide +kernel
theorem dX4_tenTimesMean_16 : decode cX4_tenTimesMean 16 = .ok (.i2l, 1) := by decide +kernel
theorem dX4_tenTimesMean_17 : decode cX4_tenTimesMean 17 = .ok (.aload_n 0, 1) := by decide +kernel
theorem dX4_tenTimesMean_18 : decode cX4_tenTimesMean 18 = .ok (.getfield 15, 3) := by decide +kernel
theorem dX4_tenTimesMean_21 : decode cX4_tenTimesMean 21 = .ok (.iload 4, 2) := by decide +kernel
theorem dX4_tenTimesMean_23 : decode cX4_tenTimesMean 23 = .ok (.iaload, 1) := by decide +kernel
theorem dX4_tenTimesMean_24 : decode cX4_tenTimesMean 24 = .ok (.i2l, 1) := by decide +kernel
theorem dX4_tenTimesMean_25 : decode cX4_tenTimesMean 25 = .ok (.lmul, 1) := by decide +kernel
theorem dX4_tenTimesMean_26 : decode cX4_tenTimesMean 26 = .ok (.bipush 10, 2) := by decide +kernel
theorem dX4_tenTimesMean_28 : decode cX4_tenTimesMean 28 = .ok (.iload_n 1, 1) := by decide +kernel
theorem dX4_tenTimesMean_29 : decode cX4_tenTimesMean 29 = .ok (.isub, 1) := by decide +kernel
theorem dX4_tenTimesMean_30 : decode cX4_tenTimesMean 30 = .ok (.i2l, 1) := by decide +kernel
theorem dX4_tenTimesMean_31 : decode cX4_tenTimesMean 31 = .ok (.aload_n 0, 1) := by decide +kernel
theorem dX4_tenTimesMean_32 : decode cX4_tenTimesMean 32 = .ok (.getfield 9, 3) := by decide +kernel
theorem dX4_tenTimesMean_35 : decode cX4_tenTimesMean 35 = .ok (.iload 4, 2) := by decide +kernel
theorem dX4_tenTimesMean_37 : decode cX4_tenTimesMean 37 = .ok (.iaload, 1) := by decide +kernel
theorem dX4_tenTimesMean_38 : decode cX4_tenTimesMean 38 = .ok (.i2l, 1) := by decide +kernel
theorem dX4_tenTimesMean_39 : decode cX4_tenTimesMean 39 = .ok (.lmul, 1) := by decide +kernel
theorem dX4_tenTimesMean_40 : decode cX4_tenTimesMean 40 = .ok (.ladd, 1) := by decide +kernel
theorem dX4_tenTimesMean_41 : decode cX4_tenTimesMean 41 = .ok (.ladd, 1) := by decide +kernel
theorem dX4_tenTimesMean_42 : decode cX4_tenTimesMean 42 = .ok (.lstore_n 2, 1) := by decide +kernel
theorem dX4_tenTimesMean_43 : decode cX4_tenTimesMean 43 = .ok (.iinc 4 1, 3) := by decide +kernel
theorem dX4_tenTimesMean_46 : decode cX4_tenTimesMean 46 = .ok (.goto (-41), 3) := by decide +kernel
theorem dX4_tenTimesMean_49 : decode cX4_tenTimesMean 49 = .ok (.lload_n 2, 1) := by decide +kernel
theorem dX4_tenTimesMean_50 : decode cX4_tenTimesMean 50 = .ok (.lreturn, 1) := by decide +kernel
theorem dX5_init_0 : decode cX5_init 0 = .ok (.aload_n 0, 1) := by decide +kernel
theorem dX5_init_1 : decode cX5_init 1 = .ok (.invokespecial 3, 3) := by decide +kernel
theorem dX5_init_4 : decode cX5_init 4 = .ok (.aload_n 0, 1) := by decide +kernel
theorem dX5_init_5 : decode cX5_init 5 = .ok (.bipush (-4), 2) := by decide +kernel
theorem dX5_init_7 : decode cX5_init 7 = .ok (.putfield 9, 3) := by decide +kernel
theorem dX5_init_10 : decode cX5_init 10 = .ok (.aload_n 0, 1) := by decide +kernel
theorem dX5_init_11 : decode cX5_init 11 = .ok (.bipush 40, 2) := by decide +kernel
theorem dX5_init_13 : decode cX5_init 13 = .ok (.newarray .int, 2) := by decide +kernel
theorem dX5_init_15 : decode cX5_init 15 = .ok (.putfield 15, 3) := by decide +kernel
theorem dX5_init_18 : decode cX5_init 18 = .ok (.return_, 1) := by decide +kernel
theorem dX5_renew_0 : decode cX5_renew 0 = .ok (.aload_n 0, 1) := by decide +kernel
theorem dX5_renew_1 : decode cX5_renew 1 = .ok (.iload_n 1, 1) := by decide +kernel
theorem dX5_renew_2 : decode cX5_renew 2 = .ok (.putfield 9, 3) := by decide +kernel
theorem dX5_renew_5 : decode cX5_renew 5 = .ok (.aload_n 0, 1) := by decide +kernel
theorem dX5_renew_6 : decode cX5_renew 6 = .ok (.iload_n 2, 1) := by decide +kernel
theorem dX5_renew_7 : decode cX5_renew 7 = .ok (.putfield 19, 3) := by decide +kernel
theorem dX5_renew_10 : decode cX5_renew 10 = .ok (.iconst 0, 1) := by decide +kernel
theorem dX5_renew_11 : decode cX5_renew 11 = .ok (.istore_n 3, 1) := by decide +kernel
theorem dX5_renew_12 : decode cX5_renew 12 = .ok (.iload_n 3, 1) := by decide +kernel
theorem dX5_renew_13 : decode cX5_renew 13 = .ok (.bipush 40, 2) := by decide +kernel
theorem dX5_renew_15 : decode cX5_renew 15 = .ok (.if_icmp .ge 16, 3) := by decide +kernel
theorem dX5_renew_18 : decode cX5_renew 18 = .ok (.aload_n 0, 1) := by decide +kernel
theorem dX5_renew_19 : decode cX5_renew 19 = .ok (.getfield 15, 3) := by decide +kernel
theorem dX5_renew_22 : decode cX5_renew 22 = .ok (.iload_n 3, 1) := by decide +kernel
theorem dX5_renew_23 : decode cX5_renew 23 = .ok (.iconst 0, 1) := by decide +kernel
theorem dX5_renew_24 : decode cX5_renew 24 = .ok (.iastore, 1) := by decide +kernel
theorem dX5_renew_25 : decode cX5_renew 25 = .ok (.iinc 3 1, 3) := by decide +kernel
theorem dX5_renew_28 : decode cX5_renew 28 = .ok (.goto (-16), 3) := by decide +kernel
theorem dX5_renew_31 : decode cX5_renew 31 = .ok (.return_, 1) := by decide +kernel
theorem dX5_faultAt_0 : decode cX5_faultAt 0 = .ok (.aload_n 0, 1) := by decide +kernel
theorem dX5_faultAt_1 : decode cX5_faultAt 1 = .ok (.getfield 9, 3) := by decide +kernel
theorem dX5_faultAt_4 : decode cX5_faultAt 4 = .ok (.bipush (-4), 2) := by decide +kernel
theorem dX5_faultAt_6 : decode cX5_faultAt 6 = .ok (.if_icmp .ne 5, 3) := by decide +kernel
theorem dX5_faultAt_9 : decode cX5_faultAt 9 = .ok (.iconst 1, 1) := by decide +kernel
theorem dX5_faultAt_10 : decode cX5_faultAt 10 = .ok (.ireturn, 1) := by decide +kernel
theorem dX5_faultAt_11 : decode cX5_faultAt 11 = .ok (.aload_n 0, 1) := by decide +kernel
theorem dX5_faultAt_12 : decode cX5_faultAt 12 = .ok (.getfield 9, 3) := by decide +kernel
theorem dX5_faultAt_15 : decode cX5_faultAt 15 = .ok (.iload_n 1, 1) := by decide +kernel
theorem dX5_faultAt_16 : decode cX5_faultAt 16 = .ok (.if_icmp .eq 5, 3) := by decide +kernel
theorem dX5_faultAt_19 : decode cX5_faultAt 19 = .ok (.iconst 3, 1) := by decide +kernel
theorem dX5_faultAt_20 : decode cX5_faultAt 20 = .ok (.ireturn, 1) := by decide +kernel
theorem dX5_faultAt_21 : decode cX5_faultAt 21 = .ok (.iload_n 2, 1) := by decide +kernel
theorem dX5_faultAt_22 : decode cX5_faultAt 22 = .ok (.iconst 0, 1) := by decide +kernel
theorem dX5_faultAt_23 : decode cX5_faultAt 23 = .ok (.aload_n 0, 1) := by decide +kernel
theorem dX5_faultAt_24 : decode cX5_faultAt 24 = .ok (.getfield 19, 3) := by decide +kernel
theorem dX5_faultAt_27 : decode cX5_faultAt 27 = .ok (.iconst 1, 1) := by decide +kernel
theorem dX5_faultAt_28 : decode cX5_faultAt 28 = .ok (.isub, 1) := by decide +kernel
theorem dX5_faultAt_29 : decode cX5_faultAt 29 = .ok (.invokestatic 22, 3) := by decide +kernel
theorem dX5_faultAt_32 : decode cX5_faultAt 32 = .ok (.ifCond .eq 7, 3) := by decide +kernel
theorem dX5_faultAt_35 : decode cX5_faultAt 35 = .ok (.iconst 2, 1) := by decide +kernel
theorem dX5_faultAt_36 : decode cX5_faultAt 36 = .ok (.goto 4, 3) := by decide +kernel
theorem dX5_faultAt_39 : decode cX5_faultAt 39 = .ok (.iconst 0, 1) := by decide +kernel
theorem dX5_faultAt_40 : decode cX5_faultAt 40 = .ok (.ireturn, 1) := by decide +kernel
theorem dX5_faultOfPair_0 : decode cX5_faultOfPair 0 = .ok (.aload_n 0, 1) := by decide +kernel
theorem dX5_faultOfPair_1 : decode cX5_faultOfPair 1 = .ok (.iload_n 1, 1) := by decide +kernel
theorem dX5_faultOfPair_2 : decode cX5_faultOfPair 2 = .ok (.iload_n 2, 1) := by decide +kernel
theorem dX5_faultOfPair_3 : decode cX5_faultOfPair 3 = .ok (.invokevirtual 26, 3) := by decide +kernel
theorem dX5_faultOfPair_6 : decode cX5_faultOfPair 6 = .ok (.istore_n 3, 1) := by decide +kernel
theorem dX5_faultOfPair_7 : decode cX5_faultOfPair 7 = .ok (.iload_n 3, 1) := by decide +kernel
theorem dX5_faultOfPair_8 : decode cX5_faultOfPair 8 = .ok (.ifCond .eq 7, 3) := by decide +kernel
theorem dX5_faultOfPair_11 : decode cX5_faultOfPair 11 = .ok (.iload_n 3, 1) := by decide +kernel
theorem dX5_faultOfPair_12 : decode cX5_faultOfPair 12 = .ok (.goto 11, 3) := by decide +kernel
theorem dX5_faultOfPair_15 : decode cX5_faultOfPair 15 = .ok (.aload_n 0, 1) := by decide +kernel
theorem dX5_faultOfPair_16 : decode cX5_faultOfPair 16 = .ok (.iload_n 1, 1) := by decide +kernel
theorem dX5_faultOfPair_17 : decode cX5_faultOfPair 17 = .ok (.iload_n 2, 1) := by decide +kernel
theorem dX5_faultOfPair_18 : decode cX5_faultOfPair 18 = .ok (.iconst 1, 1) := by decide +kernel
theorem dX5_faultOfPair_19 : decode cX5_faultOfPair 19 = .ok (.iadd, 1) := by decide +kernel
theorem dX5_faultOfPair_20 : decode cX5_faultOfPair 20 = .ok (.invokevirtual 26, 3) := by decide +kernel
theorem dX5_faultOfPair_23 : decode cX5_faultOfPair 23 = .ok (.ireturn, 1) := by decide +kernel
theorem dX5_put_0 : decode cX5_put 0 = .ok (.aload_n 0, 1) := by decide +kernel
theorem dX5_put_1 : decode cX5_put 1 = .ok (.getfield 9, 3) := by decide +kernel
theorem dX5_put_4 : decode cX5_put 4 = .ok (.lookupswitch 50 #[(0, 28), (1, 39)], 28) := by decide +kernel
theorem dX5_put_32 : decode cX5_put 32 = .ok (.aload_n 0, 1) := by decide +kernel
theorem dX5_put_33 : decode cX5_put 33 = .ok (.getfield 15, 3) := by decide +kernel
theorem dX5_put_36 : decode cX5_put 36 = .ok (.iload_n 1, 1) := by decide +kernel
theorem dX5_put_37 : decode cX5_put 37 = .ok (.iload_n 2, 1) := by decide +kernel
theorem dX5_put_38 : decode cX5_put 38 = .ok (.i2b, 1) := by decide +kernel
theorem dX5_put_39 : decode cX5_put 39 = .ok (.iastore, 1) := by decide +kernel
theorem dX5_put_40 : decode cX5_put 40 = .ok (.goto 21, 3) := by decide +kernel
theorem dX5_put_43 : decode cX5_put 43 = .ok (.aload_n 0, 1) := by decide +kernel
theorem dX5_put_44 : decode cX5_put 44 = .ok (.getfield 15, 3) := by decide +kernel
theorem dX5_put_47 : decode cX5_put 47 = .ok (.iload_n 1, 1) := by decide +kernel
theorem dX5_put_48 : decode cX5_put 48 = .ok (.iload_n 2, 1) := by decide +kernel
theorem dX5_put_49 : decode cX5_put 49 = .ok (.i2s, 1) := by decide +kernel
theorem dX5_put_50 : decode cX5_put 50 = .ok (.iastore, 1) := by decide +kernel
theorem dX5_put_51 : decode cX5_put 51 = .ok (.goto 10, 3) := by decide +kernel
theorem dX5_put_54 : decode cX5_put 54 = .ok (.aload_n 0, 1) := by decide +kernel
theorem dX5_put_55 : decode cX5_put 55 = .ok (.getfield 15, 3) := by decide +kernel
theorem dX5_put_58 : decode cX5_put 58 = .ok (.iload_n 1, 1) := by decide +kernel
theorem dX5_put_59 : decode cX5_put 59 = .ok (.iload_n 2, 1) := by decide +kernel
theorem dX5_put_60 : decode cX5_put 60 = .ok (.iastore, 1) := by decide +kernel
theorem dX5_put_61 : decode cX5_put 61 = .ok (.return_, 1) := by decide +kernel
theorem dX6_init_0 : decode cX6_init 0 = .ok (.aload_n 0, 1) := by decide +kernel
theorem dX6_init_1 : decode cX6_init 1 = .ok (.invokespecial 3, 3) := by decide +kernel
theorem dX6_init_4 : decode cX6_init 4 = .ok (.aload_n 0, 1) := by decide +kernel
theorem dX6_init_5 : decode cX6_init 5 = .ok (.bipush 6, 2) := by decide +kernel
theorem dX6_init_7 : decode cX6_init 7 = .ok (.newarray .int, 2) := by decide +kernel
theorem dX6_init_9 : decode cX6_init 9 = .ok (.putfield 9, 3) := by decide +kernel
theorem dX6_init_12 : decode cX6_init 12 = .ok (.aload_n 0, 1) := by decide +kernel
theorem dX6_init_13 : decode cX6_init 13 = .ok (.bipush 6, 2) := by decide +kernel
theorem dX6_init_15 : decode cX6_init 15 = .ok (.newarray .int, 2) := by decide +kernel
theorem dX6_init_17 : decode cX6_init 17 = .ok (.putfield 15, 3) := by decide +kernel
theorem dX6_init_20 : decode cX6_init 20 = .ok (.aload_n 0, 1) := by decide +kernel
theorem dX6_init_21 : decode cX6_init 21 = .ok (.bipush 6, 2) := by decide +kernel
theorem dX6_init_23 : decode cX6_init 23 = .ok (.newarray .int, 2) := by decide +kernel
theorem dX6_init_25 : decode cX6_init 25 = .ok (.putfield 18, 3) := by decide +kernel
theorem dX6_init_28 : decode cX6_init 28 = .ok (.return_, 1) := by decide +kernel
theorem dX6_put_0 : decode cX6_put 0 = .ok (.aload_n 0, 1) := by decide +kernel
theorem dX6_put_1 : decode cX6_put 1 = .ok (.getfield 21, 3) := by decide +kernel
theorem dX6_put_4 : decode cX6_put 4 = .ok (.bipush 6, 2) := by decide +kernel
theorem dX6_put_6 : decode cX6_put 6 = .ok (.if_icmp .ge 43, 3) := by decide +kernel
theorem dX6_put_9 : decode cX6_put 9 = .ok (.aload_n 0, 1) := by decide +kernel
theorem dX6_put_10 : decode cX6_put 10 = .ok (.getfield 9, 3) := by decide +kernel
theorem dX6_put_13 : decode cX6_put 13 = .ok (.aload_n 0, 1) := by decide +kernel
theorem dX6_put_14 : decode cX6_put 14 = .ok (.getfield 21, 3) := by decide +kernel
theorem dX6_put_17 : decode cX6_put 17 = .ok (.iload_n 1, 1) := by decide +kernel
theorem dX6_put_18 : decode cX6_put 18 = .ok (.iastore, 1) := by decide +kernel
theorem dX6_put_19 : decode cX6_put 19 = .ok (.aload_n 0, 1) := by decide +kernel
theorem dX6_put_20 : decode cX6_put 20 = .ok (.getfield 15, 3) := by decide +kernel
theorem dX6_put_23 : decode cX6_put 23 = .ok (.aload_n 0, 1) := by decide +kernel
theorem dX6_put_24 : decode cX6_put 24 = .ok (.getfield 21, 3) := by decide +kernel
theorem dX6_put_27 : decode cX6_put 27 = .ok (.iload_n 2, 1) := by decide +kernel
theorem dX6_put_28 : decode cX6_put 28 = .ok (.iastore, 1) := by decide +kernel
theorem dX6_put_29 : decode cX6_put 29 = .ok (.aload_n 0, 1) := by decide +kernel
theorem dX6_put_30 : decode cX6_put 30 = .ok (.getfield 18, 3) := by decide +kernel
theorem dX6_put_33 : decode cX6_put 33 = .ok (.aload_n 0, 1) := by decide +kernel
theorem dX6_put_34 : decode cX6_put 34 = .ok (.getfield 21, 3) := by decide +kernel
theorem dX6_put_37 : decode cX6_put 37 = .ok (.iload_n 3, 1) := by decide +kernel
theorem dX6_put_38 : decode cX6_put 38 = .ok (.iastore, 1) := by decide +kernel
theorem dX6_put_39 : decode cX6_put 39 = .ok (.aload_n 0, 1) := by decide +kernel
theorem dX6_put_40 : decode cX6_put 40 = .ok (.dup, 1) := by decide +kernel
theorem dX6_put_41 : decode cX6_put 41 = .ok (.getfield 21, 3) := by decide +kernel
theorem dX6_put_44 : decode cX6_put 44 = .ok (.iconst 1, 1) := by decide +kernel
theorem dX6_put_45 : decode cX6_put 45 = .ok (.iadd, 1) := by decide +kernel
theorem dX6_put_46 : decode cX6_put 46 = .ok (.putfield 21, 3) := by decide +kernel
theorem dX6_put_49 : decode cX6_put 49 = .ok (.return_, 1) := by decide +kernel
theorem dX6_copyFrom_0 : decode cX6_copyFrom 0 = .ok (.aload_n 0, 1) := by decide +kernel
theorem dX6_copyFrom_1 : decode cX6_copyFrom 1 = .ok (.aload_n 1, 1) := by decide +kernel
theorem dX6_copyFrom_2 : decode cX6_copyFrom 2 = .ok (.getfield 21, 3) := by decide +kernel
theorem dX6_copyFrom_5 : decode cX6_copyFrom 5 = .ok (.putfield 21, 3) := by decide +kernel
theorem dX6_copyFrom_8 : decode cX6_copyFrom 8 = .ok (.aload_n 1, 1) := by decide +kernel
theorem dX6_copyFrom_9 : decode cX6_copyFrom 9 = .ok (.getfield 9, 3) := by decide +kernel
theorem dX6_copyFrom_12 : decode cX6_copyFrom 12 = .ok (.iconst 0, 1) := by decide +kernel
theorem dX6_copyFrom_13 : decode cX6_copyFrom 13 = .ok (.aload_n 0, 1) := by decide +kernel
theorem dX6_copyFrom_14 : decode cX6_copyFrom 14 = .ok (.getfield 9, 3) := by decide +kernel
theorem dX6_copyFrom_17 : decode cX6_copyFrom 17 = .ok (.iconst 0, 1) := by decide +kernel
theorem dX6_copyFrom_18 : decode cX6_copyFrom 18 = .ok (.bipush 6, 2) := by decide +kernel
theorem dX6_copyFrom_20 : decode cX6_copyFrom 20 = .ok (.invokestatic 25, 3) := by decide +kernel
theorem dX6_copyFrom_23 : decode cX6_copyFrom 23 = .ok (.aload_n 1, 1) := by decide +kernel
theorem dX6_copyFrom_24 : decode cX6_copyFrom 24 = .ok (.getfield 15, 3) := by decide +kernel
theorem dX6_copyFrom_27 : decode cX6_copyFrom 27 = .ok (.iconst 0, 1) := by decide +kernel
theorem dX6_copyFrom_28 : decode cX6_copyFrom 28 = .ok (.aload_n 0, 1) := by decide +kernel
theorem dX6_copyFrom_29 : decode cX6_copyFrom 29 = .ok (.getfield 15, 3) := by decide +kernel
theorem dX6_copyFrom_32 : decode cX6_copyFrom 32 = .ok (.iconst 0, 1) := by decide +kernel
theorem dX6_copyFrom_33 : decode cX6_copyFrom 33 = .ok (.bipush 6, 2) := by decide +kernel
theorem dX6_copyFrom_35 : decode cX6_copyFrom 35 = .ok (.invokestatic 25, 3) := by decide +kernel
theorem dX6_copyFrom_38 : decode cX6_copyFrom 38 = .ok (.aload_n 1, 1) := by decide +kernel
theorem dX6_copyFrom_39 : decode cX6_copyFrom 39 = .ok (.getfield 18, 3) := by decide +kernel
theorem dX6_copyFrom_42 : decode cX6_copyFrom 42 = .ok (.iconst 0, 1) := by decide +kernel
theorem dX6_copyFrom_43 : decode cX6_copyFrom 43 = .ok (.aload_n 0, 1) := by decide +kernel
theorem dX6_copyFrom_44 : decode cX6_copyFrom 44 = .ok (.getfield 18, 3) := by decide +kernel
theorem dX6_copyFrom_47 : decode cX6_copyFrom 47 = .ok (.iconst 0, 1) := by decide +kernel
theorem dX6_copyFrom_48 : decode cX6_copyFrom 48 = .ok (.bipush 6, 2) := by decide +kernel
theorem dX6_copyFrom_50 : decode cX6_copyFrom 50 = .ok (.invokestatic 25, 3) := by decide +kernel
theorem dX6_copyFrom_53 : decode cX6_copyFrom 53 = .ok (.return_, 1) := by decide +kernel
theorem dX6_agreeWith_0 : decode cX6_agreeWith 0 = .ok (.aload_n 0, 1) := by decide +kernel
theorem dX6_agreeWith_1 : decode cX6_agreeWith 1 = .ok (.invokevirtual 31, 3) := by decide +kernel
theorem dX6_agreeWith_4 : decode cX6_agreeWith 4 = .ok (.istore_n 2, 1) := by decide +kernel
theorem dX6_agreeWith_5 : decode cX6_agreeWith 5 = .ok (.iconst 0, 1) := by decide +kernel
theorem dX6_agreeWith_6 : decode cX6_agreeWith 6 = .ok (.istore_n 3, 1) := by decide +kernel
theorem dX6_agreeWith_7 : decode cX6_agreeWith 7 = .ok (.iload_n 3, 1) := by decide +kernel
theorem dX6_agreeWith_8 : decode cX6_agreeWith 8 = .ok (.iload_n 2, 1) := by decide +kernel
theorem dX6_agreeWith_9 : decode cX6_agreeWith 9 = .ok (.if_icmp .gt 66, 3) := by decide +kernel
theorem dX6_agreeWith_12 : decode cX6_agreeWith 12 = .ok (.iconst 0, 1) := by decide +kernel
theorem dX6_agreeWith_13 : decode cX6_agreeWith 13 = .ok (.istore 4, 2) := by decide +kernel
theorem dX6_agreeWith_15 : decode cX6_agreeWith 15 = .ok (.iload 4, 2) := by decide +kernel
theorem dX6_agreeWith_17 : decode cX6_agreeWith 17 = .ok (.aload_n 0, 1) := by decide +kernel
theorem dX6_agreeWith_18 : decode cX6_agreeWith 18 = .ok (.getfield 21, 3) := by decide +kernel
theorem dX6_agreeWith_21 : decode cX6_agreeWith 21 = .ok (.if_icmp .ge 44, 3) := by decide +kernel
theorem dX6_agreeWith_24 : decode cX6_agreeWith 24 = .ok (.aload_n 0, 1) := by decide +kernel
theorem dX6_agreeWith_25 : decode cX6_agreeWith 25 = .ok (.getfield 9, 3) := by decide +kernel
theorem dX6_agreeWith_28 : decode cX6_agreeWith 28 = .ok (.iload 4, 2) := by decide +kernel
theorem dX6_agreeWith_30 : decode cX6_agreeWith 30 = .ok (.iaload, 1) := by decide +kernel
theorem dX6_agreeWith_31 : decode cX6_agreeWith 31 = .ok (.iload_n 3, 1) := by decide +kernel
theorem dX6_agreeWith_32 : decode cX6_agreeWith 32 = .ok (.if_icmp .ne 27, 3) := by decide +kernel
theorem dX6_agreeWith_35 : decode cX6_agreeWith 35 = .ok (.aload_n 1, 1) := by decide +kernel
theorem dX6_agreeWith_36 : decode cX6_agreeWith 36 = .ok (.getfield 35, 3) := by decide +kernel
theorem dX6_agreeWith_39 : decode cX6_agreeWith 39 = .ok (.aload_n 0, 1) := by decide +kernel
theorem dX6_agreeWith_40 : decode cX6_agreeWith 40 = .ok (.getfield 15, 3) := by decide +kernel
theorem dX6_agreeWith_43 : decode cX6_agreeWith 43 = .ok (.iload 4, 2) := by decide +kernel
theorem dX6_agreeWith_45 : decode cX6_agreeWith 45 = .ok (.iaload, 1) := by decide +kernel
theorem dX6_agreeWith_46 : decode cX6_agreeWith 46 = .ok (.iaload, 1) := by decide +kernel
theorem dX6_agreeWith_47 : decode cX6_agreeWith 47 = .ok (.aload_n 0, 1) := by decide +kernel
theorem dX6_agreeWith_48 : decode cX6_agreeWith 48 = .ok (.getfield 18, 3) := by decide +kernel
theorem dX6_agreeWith_51 : decode cX6_agreeWith 51 = .ok (.iload 4, 2) := by decide +kernel
theorem dX6_agreeWith_53 : decode cX6_agreeWith 53 = .ok (.iaload, 1) := by decide +kernel
theorem dX6_agreeWith_54 : decode cX6_agreeWith 54 = .ok (.if_icmp .eq 5, 3) := by decide +kernel
theorem dX6_agreeWith_57 : decode cX6_agreeWith 57 = .ok (.iconst 0, 1) := by decide +kernel
theorem dX6_agreeWith_58 : decode cX6_agreeWith 58 = .ok (.ireturn, 1) := by decide +kernel
theorem dX6_agreeWith_59 : decode cX6_agreeWith 59 = .ok (.iinc 4 1, 3) := by decide +kernel
theorem dX6_agreeWith_62 : decode cX6_agreeWith 62 = .ok (.goto (-47), 3) := by decide +kernel
theorem dX6_agreeWith_65 : decode cX6_agreeWith 65 = .ok (.aload_n 1, 1) := by decide +kernel
theorem dX6_agreeWith_66 : decode cX6_agreeWith 66 = .ok (.invokevirtual 40, 3) := by decide +kernel
theorem dX6_agreeWith_69 : decode cX6_agreeWith 69 = .ok (.iinc 3 1, 3) := by decide +kernel
theorem dX6_agreeWith_72 : decode cX6_agreeWith 72 = .ok (.goto (-65), 3) := by decide +kernel
theorem dX6_agreeWith_75 : decode cX6_agreeWith 75 = .ok (.iconst 1, 1) := by decide +kernel
theorem dX6_agreeWith_76 : decode cX6_agreeWith 76 = .ok (.ireturn, 1) := by decide +kernel
theorem dX6_lastBehind_0 : decode cX6_lastBehind 0 = .ok (.iconst (-1), 1) := by decide +kernel
theorem dX6_lastBehind_1 : decode cX6_lastBehind 1 = .ok (.istore_n 1, 1) := by decide +kernel
theorem dX6_lastBehind_2 : decode cX6_lastBehind 2 = .ok (.iconst 0, 1) := by decide +kernel
theorem dX6_lastBehind_3 : decode cX6_lastBehind 3 = .ok (.istore_n 2, 1) := by decide +kernel
theorem dX6_lastBehind_4 : decode cX6_lastBehind 4 = .ok (.iload_n 2, 1) := by decide +kernel
theorem dX6_lastBehind_5 : decode cX6_lastBehind 5 = .ok (.aload_n 0, 1) := by decide +kernel
theorem dX6_lastBehind_6 : decode cX6_lastBehind 6 = .ok (.getfield 21, 3) := by decide +kernel
theorem dX6_lastBehind_9 : decode cX6_lastBehind 9 = .ok (.if_icmp .ge 20, 3) := by decide +kernel
theorem dX6_lastBehind_12 : decode cX6_lastBehind 12 = .ok (.iload_n 1, 1) := by decide +kernel
theorem dX6_lastBehind_13 : decode cX6_lastBehind 13 = .ok (.aload_n 0, 1) := by decide +kernel
theorem dX6_lastBehind_14 : decode cX6_lastBehind 14 = .ok (.getfield 9, 3) := by decide +kernel
theorem dX6_lastBehind_17 : decode cX6_lastBehind 17 = .ok (.iload_n 2, 1) := by decide +kernel
theorem dX6_lastBehind_18 : decode cX6_lastBehind 18 = .ok (.iaload, 1) := by decide +kernel
theorem dX6_lastBehind_19 : decode cX6_lastBehind 19 = .ok (.invokestatic 43, 3) := by decide +kernel
theorem dX6_lastBehind_22 : decode cX6_lastBehind 22 = .ok (.istore_n 1, 1) := by decide +kernel
theorem dX6_lastBehind_23 : decode cX6_lastBehind 23 = .ok (.iinc 2 1, 3) := by decide +kernel
theorem dX6_lastBehind_26 : decode cX6_lastBehind 26 = .ok (.goto (-22), 3) := by decide +kernel
theorem dX6_lastBehind_29 : decode cX6_lastBehind 29 = .ok (.iload_n 1, 1) := by decide +kernel
theorem dX6_lastBehind_30 : decode cX6_lastBehind 30 = .ok (.ireturn, 1) := by decide +kernel
theorem dX7_init_0 : decode cX7_init 0 = .ok (.aload_n 0, 1) := by decide +kernel
theorem dX7_init_1 : decode cX7_init 1 = .ok (.invokespecial 3, 3) := by decide +kernel
theorem dX7_init_4 : decode cX7_init 4 = .ok (.aload_n 0, 1) := by decide +kernel
theorem dX7_init_5 : decode cX7_init 5 = .ok (.sipush 160, 3) := by decide +kernel
theorem dX7_init_8 : decode cX7_init 8 = .ok (.newarray .byte, 2) := by decide +kernel
theorem dX7_init_10 : decode cX7_init 10 = .ok (.putfield 9, 3) := by decide +kernel
theorem dX7_init_13 : decode cX7_init 13 = .ok (.return_, 1) := by decide +kernel
theorem dX7_rewind_0 : decode cX7_rewind 0 = .ok (.aload_n 0, 1) := by decide +kernel
theorem dX7_rewind_1 : decode cX7_rewind 1 = .ok (.iconst 0, 1) := by decide +kernel
theorem dX7_rewind_2 : decode cX7_rewind 2 = .ok (.putfield 15, 3) := by decide +kernel
theorem dX7_rewind_5 : decode cX7_rewind 5 = .ok (.aload_n 0, 1) := by decide +kernel
theorem dX7_rewind_6 : decode cX7_rewind 6 = .ok (.iconst 0, 1) := by decide +kernel
theorem dX7_rewind_7 : decode cX7_rewind 7 = .ok (.putfield 19, 3) := by decide +kernel
theorem dX7_rewind_10 : decode cX7_rewind 10 = .ok (.aload_n 0, 1) := by decide +kernel
theorem dX7_rewind_11 : decode cX7_rewind 11 = .ok (.iconst 0, 1) := by decide +kernel
theorem dX7_rewind_12 : decode cX7_rewind 12 = .ok (.putfield 22, 3) := by decide +kernel
theorem dX7_rewind_15 : decode cX7_rewind 15 = .ok (.return_, 1) := by decide +kernel
theorem dX7_advance_0 : decode cX7_advance 0 = .ok (.aload_n 0, 1) := by decide +kernel
theorem dX7_advance_1 : decode cX7_advance 1 = .ok (.aload_n 0, 1) := by decide +kernel
theorem dX7_advance_2 : decode cX7_advance 2 = .ok (.getfield 22, 3) := by decide +kernel
theorem dX7_advance_5 : decode cX7_advance 5 = .ok (.putfield 19, 3) := by decide +kernel
theorem dX7_advance_8 : decode cX7_advance 8 = .ok (.aload_n 0, 1) := by decide +kernel
theorem dX7_advance_9 : decode cX7_advance 9 = .ok (.getfield 19, 3) := by decide +kernel
theorem dX7_advance_12 : decode cX7_advance 12 = .ok (.aload_n 0, 1) := by decide +kernel
theorem dX7_advance_13 : decode cX7_advance 13 = .ok (.getfield 25, 3) := by decide +kernel
theorem dX7_advance_16 : decode cX7_advance 16 = .ok (.if_icmp .ge 30, 3) := by decide +kernel
theorem dX7_advance_19 : decode cX7_advance 19 = .ok (.aload_n 0, 1) := by decide +kernel
theorem dX7_advance_20 : decode cX7_advance 20 = .ok (.getfield 9, 3) := by decide +kernel
theorem dX7_advance_23 : decode cX7_advance 23 = .ok (.aload_n 0, 1) := by decide +kernel
theorem dX7_advance_24 : decode cX7_advance 24 = .ok (.getfield 19, 3) := by decide +kernel
theorem dX7_advance_27 : decode cX7_advance 27 = .ok (.baload, 1) := by decide +kernel
theorem dX7_advance_28 : decode cX7_advance 28 = .ok (.bipush 32, 2) := by decide +kernel
theorem dX7_advance_30 : decode cX7_advance 30 = .ok (.if_icmp .ne 16, 3) := by decide +kernel
theorem dX7_advance_33 : decode cX7_advance 33 = .ok (.aload_n 0, 1) := by decide +kernel
theorem dX7_advance_34 : decode cX7_advance 34 = .ok (.dup, 1) := by decide +kernel
theorem dX7_advance_35 : decode cX7_advance 35 = .ok (.getfield 19, 3) := by decide +kernel
theorem dX7_advance_38 : decode cX7_advance 38 = .ok (.iconst 1, 1) := by decide +kernel
theorem dX7_advance_39 : decode cX7_advance 39 = .ok (.iadd, 1) := by decide +kernel
theorem dX7_advance_40 : decode cX7_advance 40 = .ok (.putfield 19, 3) := by decide +kernel
theorem dX7_advance_43 : decode cX7_advance 43 = .ok (.goto (-35), 3) := by decide +kernel
theorem dX7_advance_46 : decode cX7_advance 46 = .ok (.aload_n 0, 1) := by decide +kernel
theorem dX7_advance_47 : decode cX7_advance 47 = .ok (.aload_n 0, 1) := by decide +kernel
theorem dX7_advance_48 : decode cX7_advance 48 = .ok (.getfield 19, 3) := by decide +kernel
theorem dX7_advance_51 : decode cX7_advance 51 = .ok (.aload_n 0, 1) := by decide +kernel
theorem dX7_advance_52 : decode cX7_advance 52 = .ok (.getfield 25, 3) := by decide +kernel
theorem dX7_advance_55 : decode cX7_advance 55 = .ok (.if_icmp .ge 18, 3) := by decide +kernel
theorem dX7_advance_58 : decode cX7_advance 58 = .ok (.aload_n 0, 1) := by decide +kernel
theorem dX7_advance_59 : decode cX7_advance 59 = .ok (.getfield 9, 3) := by decide +kernel
theorem dX7_advance_62 : decode cX7_advance 62 = .ok (.aload_n 0, 1) := by decide +kernel
theorem dX7_advance_63 : decode cX7_advance 63 = .ok (.getfield 19, 3) := by decide +kernel
theorem dX7_advance_66 : decode cX7_advance 66 = .ok (.baload, 1) := by decide +kernel
theorem dX7_advance_67 : decode cX7_advance 67 = .ok (.invokestatic 28, 3) := by decide +kernel
theorem dX7_advance_70 : decode cX7_advance 70 = .ok (.goto 4, 3) := by decide +kernel
theorem dX7_advance_73 : decode cX7_advance 73 = .ok (.iconst 0, 1) := by decide +kernel
theorem dX7_advance_74 : decode cX7_advance 74 = .ok (.putfield 15, 3) := by decide +kernel
theorem dX7_advance_77 : decode cX7_advance 77 = .ok (.aload_n 0, 1) := by decide +kernel
theorem dX7_advance_78 : decode cX7_advance 78 = .ok (.aload_n 0, 1) := by decide +kernel
theorem dX7_advance_79 : decode cX7_advance 79 = .ok (.getfield 19, 3) := by decide +kernel
theorem dX7_advance_82 : decode cX7_advance 82 = .ok (.aload_n 0, 1) := by decide +kernel
theorem dX7_advance_83 : decode cX7_advance 83 = .ok (.getfield 25, 3) := by decide +kernel
theorem dX7_advance_86 : decode cX7_advance 86 = .ok (.if_icmp .ge 12, 3) := by decide +kernel
theorem dX7_advance_89 : decode cX7_advance 89 = .ok (.aload_n 0, 1) := by decide +kernel
theorem dX7_advance_90 : decode cX7_advance 90 = .ok (.getfield 19, 3) := by decide +kernel
theorem dX7_advance_93 : decode cX7_advance 93 = .ok (.iconst 1, 1) := by decide +kernel
theorem dX7_advance_94 : decode cX7_advance 94 = .ok (.iadd, 1) := by decide +kernel
theorem dX7_advance_95 : decode cX7_advance 95 = .ok (.goto 7, 3) := by decide +kernel
theorem dX7_advance_98 : decode cX7_advance 98 = .ok (.aload_n 0, 1) := by decide +kernel
theorem dX7_advance_99 : decode cX7_advance 99 = .ok (.getfield 19, 3) := by decide +kernel
theorem dX7_advance_102 : decode cX7_advance 102 = .ok (.putfield 22, 3) := by decide +kernel
theorem dX7_advance_105 : decode cX7_advance 105 = .ok (.aload_n 0, 1) := by decide +kernel
theorem dX7_advance_106 : decode cX7_advance 106 = .ok (.getfield 15, 3) := by decide +kernel
theorem dX7_advance_109 : decode cX7_advance 109 = .ok (.iconst 1, 1) := by decide +kernel
theorem dX7_advance_110 : decode cX7_advance 110 = .ok (.if_icmp .eq 11, 3) := by decide +kernel
theorem dX7_advance_113 : decode cX7_advance 113 = .ok (.aload_n 0, 1) := by decide +kernel
theorem dX7_advance_114 : decode cX7_advance 114 = .ok (.getfield 15, 3) := by decide +kernel
theorem dX7_advance_117 : decode cX7_advance 117 = .ok (.iconst 2, 1) := by decide +kernel
theorem dX7_advance_118 : decode cX7_advance 118 = .ok (.if_icmp .ne 7, 3) := by decide +kernel
theorem dX7_advance_121 : decode cX7_advance 121 = .ok (.iconst 1, 1) := by decide +kernel
theorem dX7_advance_122 : decode cX7_advance 122 = .ok (.goto 4, 3) := by decide +kernel
theorem dX7_advance_125 : decode cX7_advance 125 = .ok (.iconst 0, 1) := by decide +kernel
theorem dX7_advance_126 : decode cX7_advance 126 = .ok (.istore_n 1, 1) := by decide +kernel
theorem dX7_advance_127 : decode cX7_advance 127 = .ok (.iload_n 1, 1) := by decide +kernel
theorem dX7_advance_128 : decode cX7_advance 128 = .ok (.ifCond .eq 46, 3) := by decide +kernel
theorem dX7_advance_131 : decode cX7_advance 131 = .ok (.aload_n 0, 1) := by decide +kernel
theorem dX7_advance_132 : decode cX7_advance 132 = .ok (.getfield 22, 3) := by decide +kernel
theorem dX7_advance_135 : decode cX7_advance 135 = .ok (.aload_n 0, 1) := by decide +kernel
theorem dX7_advance_136 : decode cX7_advance 136 = .ok (.getfield 25, 3) := by decide +kernel
theorem dX7_advance_139 : decode cX7_advance 139 = .ok (.if_icmp .ge 35, 3) := by decide +kernel
theorem dX7_advance_142 : decode cX7_advance 142 = .ok (.aload_n 0, 1) := by decide +kernel
theorem dX7_advance_143 : decode cX7_advance 143 = .ok (.getfield 9, 3) := by decide +kernel
theorem dX7_advance_146 : decode cX7_advance 146 = .ok (.aload_n 0, 1) := by decide +kernel
theorem dX7_advance_147 : decode cX7_advance 147 = .ok (.getfield 22, 3) := by decide +kernel
theorem dX7_advance_150 : decode cX7_advance 150 = .ok (.baload, 1) := by decide +kernel
theorem dX7_advance_151 : decode cX7_advance 151 = .ok (.invokestatic 28, 3) := by decide +kernel
theorem dX7_advance_154 : decode cX7_advance 154 = .ok (.aload_n 0, 1) := by decide +kernel
theorem dX7_advance_155 : decode cX7_advance 155 = .ok (.getfield 15, 3) := by decide +kernel
theorem dX7_advance_158 : decode cX7_advance 158 = .ok (.if_icmp .ne 16, 3) := by decide +kernel
theorem dX7_advance_161 : decode cX7_advance 161 = .ok (.aload_n 0, 1) := by decide +kernel
theorem dX7_advance_162 : decode cX7_advance 162 = .ok (.dup, 1) := by decide +kernel
theorem dX7_advance_163 : decode cX7_advance 163 = .ok (.getfield 22, 3) := by decide +kernel
theorem dX7_advance_166 : decode cX7_advance 166 = .ok (.iconst 1, 1) := by decide +kernel
theorem dX7_advance_167 : decode cX7_advance 167 = .ok (.iadd, 1) := by decide +kernel
theorem dX7_advance_168 : decode cX7_advance 168 = .ok (.putfield 22, 3) := by decide +kernel
theorem dX7_advance_171 : decode cX7_advance 171 = .ok (.goto (-44), 3) := by decide +kernel
theorem dX7_advance_174 : decode cX7_advance 174 = .ok (.aload_n 0, 1) := by decide +kernel
theorem dX7_advance_175 : decode cX7_advance 175 = .ok (.getfield 15, 3) := by decide +kernel
theorem dX7_advance_178 : decode cX7_advance 178 = .ok (.iconst 2, 1) := by decide +kernel
theorem dX7_advance_179 : decode cX7_advance 179 = .ok (.if_icmp .ne 21, 3) := by decide +kernel
theorem dX7_advance_182 : decode cX7_advance 182 = .ok (.aload_n 0, 1) := by decide +kernel
theorem dX7_advance_183 : decode cX7_advance 183 = .ok (.getfield 22, 3) := by decide +kernel
theorem dX7_advance_186 : decode cX7_advance 186 = .ok (.aload_n 0, 1) := by decide +kernel
theorem dX7_advance_187 : decode cX7_advance 187 = .ok (.getfield 19, 3) := by decide +kernel
theorem dX7_advance_190 : decode cX7_advance 190 = .ok (.isub, 1) := by decide +kernel
theorem dX7_advance_191 : decode cX7_advance 191 = .ok (.iconst 2, 1) := by decide +kernel
theorem dX7_advance_192 : decode cX7_advance 192 = .ok (.if_icmp .le 8, 3) := by decide +kernel
theorem dX7_advance_195 : decode cX7_advance 195 = .ok (.aload_n 0, 1) := by decide +kernel
theorem dX7_advance_196 : decode cX7_advance 196 = .ok (.iconst 4, 1) := by decide +kernel
theorem dX7_advance_197 : decode cX7_advance 197 = .ok (.putfield 15, 3) := by decide +kernel
theorem dX7_advance_200 : decode cX7_advance 200 = .ok (.return_, 1) := by decide +kernel
theorem dX7_sortOf_0 : decode cX7_sortOf 0 = .ok (.bipush 97, 2) := by decide +kernel
theorem dX7_sortOf_2 : decode cX7_sortOf 2 = .ok (.iload_n 0, 1) := by decide +kernel
theorem dX7_sortOf_3 : decode cX7_sortOf 3 = .ok (.if_icmp .gt 11, 3) := by decide +kernel
theorem dX7_sortOf_6 : decode cX7_sortOf 6 = .ok (.iload_n 0, 1) := by decide +kernel
theorem dX7_sortOf_7 : decode cX7_sortOf 7 = .ok (.bipush 122, 2) := by decide +kernel
theorem dX7_sortOf_9 : decode cX7_sortOf 9 = .ok (.if_icmp .gt 5, 3) := by decide +kernel
theorem dX7_sortOf_12 : decode cX7_sortOf 12 = .ok (.iconst 1, 1) := by decide +kernel
theorem dX7_sortOf_13 : decode cX7_sortOf 13 = .ok (.ireturn, 1) := by decide +kernel
theorem dX7_sortOf_14 : decode cX7_sortOf 14 = .ok (.bipush 48, 2) := by decide +kernel
theorem dX7_sortOf_16 : decode cX7_sortOf 16 = .ok (.iload_n 0, 1) := by decide +kernel
theorem dX7_sortOf_17 : decode cX7_sortOf 17 = .ok (.if_icmp .gt 11, 3) := by decide +kernel
theorem dX7_sortOf_20 : decode cX7_sortOf 20 = .ok (.iload_n 0, 1) := by decide +kernel
theorem dX7_sortOf_21 : decode cX7_sortOf 21 = .ok (.bipush 57, 2) := by decide +kernel
theorem dX7_sortOf_23 : decode cX7_sortOf 23 = .ok (.if_icmp .gt 5, 3) := by decide +kernel
theorem dX7_sortOf_26 : decode cX7_sortOf 26 = .ok (.iconst 2, 1) := by decide +kernel
theorem dX7_sortOf_27 : decode cX7_sortOf 27 = .ok (.ireturn, 1) := by decide +kernel
theorem dX7_sortOf_28 : decode cX7_sortOf 28 = .ok (.iload_n 0, 1) := by decide +kernel
theorem dX7_sortOf_29 : decode cX7_sortOf 29 = .ok (.bipush 59, 2) := by decide +kernel
theorem dX7_sortOf_31 : decode cX7_sortOf 31 = .ok (.if_icmp .ne 7, 3) := by decide +kernel
theorem dX7_sortOf_34 : decode cX7_sortOf 34 = .ok (.iconst 3, 1) := by decide +kernel
theorem dX7_sortOf_35 : decode cX7_sortOf 35 = .ok (.goto 4, 3) := by decide +kernel
theorem dX7_sortOf_38 : decode cX7_sortOf 38 = .ok (.iconst 4, 1) := by decide +kernel
theorem dX7_sortOf_39 : decode cX7_sortOf 39 = .ok (.ireturn, 1) := by decide +kernel
theorem dX7_valueOfNumber_0 : decode cX7_valueOfNumber 0 = .ok (.iconst 0, 1) := by decide +kernel
theorem dX7_valueOfNumber_1 : decode cX7_valueOfNumber 1 = .ok (.istore_n 1, 1) := by decide +kernel
theorem dX7_valueOfNumber_2 : decode cX7_valueOfNumber 2 = .ok (.aload_n 0, 1) := by decide +kernel
theorem dX7_valueOfNumber_3 : decode cX7_valueOfNumber 3 = .ok (.getfield 19, 3) := by decide +kernel
theorem dX7_valueOfNumber_6 : decode cX7_valueOfNumber 6 = .ok (.istore_n 2, 1) := by decide +kernel
theorem dX7_valueOfNumber_7 : decode cX7_valueOfNumber 7 = .ok (.iload_n 2, 1) := by decide +kernel
theorem dX7_valueOfNumber_8 : decode cX7_valueOfNumber 8 = .ok (.aload_n 0, 1) := by decide +kernel
theorem dX7_valueOfNumber_9 : decode cX7_valueOfNumber 9 = .ok (.getfield 22, 3) := by decide +kernel
theorem dX7_valueOfNumber_12 : decode cX7_valueOfNumber 12 = .ok (.if_icmp .ge 24, 3) := by decide +kernel
theorem dX7_valueOfNumber_15 : decode cX7_valueOfNumber 15 = .ok (.bipush 10, 2) := by decide +kernel
theorem dX7_valueOfNumber_17 : decode cX7_valueOfNumber 17 = .ok (.iload_n 1, 1) := by decide +kernel
theorem dX7_valueOfNumber_18 : decode cX7_valueOfNumber 18 = .ok (.imul, 1) := by decide +kernel
theorem dX7_valueOfNumber_19 : decode cX7_valueOfNumber 19 = .ok (.aload_n 0, 1) := by decide +kernel
theorem dX7_valueOfNumber_20 : decode cX7_valueOfNumber 20 = .ok (.getfield 9, 3) := by decide +kernel
theorem dX7_valueOfNumber_23 : decode cX7_valueOfNumber 23 = .ok (.iload_n 2, 1) := by decide +kernel
theorem dX7_valueOfNumber_24 : decode cX7_valueOfNumber 24 = .ok (.baload, 1) := by decide +kernel
theorem dX7_valueOfNumber_25 : decode cX7_valueOfNumber 25 = .ok (.iadd, 1) := by decide +kernel
theorem dX7_valueOfNumber_26 : decode cX7_valueOfNumber 26 = .ok (.bipush 48, 2) := by decide +kernel
theorem dX7_valueOfNumber_28 : decode cX7_valueOfNumber 28 = .ok (.isub, 1) := by decide +kernel
theorem dX7_valueOfNumber_29 : decode cX7_valueOfNumber 29 = .ok (.istore_n 1, 1) := by decide +kernel
theorem dX7_valueOfNumber_30 : decode cX7_valueOfNumber 30 = .ok (.iinc 2 1, 3) := by decide +kernel
theorem dX7_valueOfNumber_33 : decode cX7_valueOfNumber 33 = .ok (.goto (-26), 3) := by decide +kernel
theorem dX7_valueOfNumber_36 : decode cX7_valueOfNumber 36 = .ok (.iload_n 1, 1) := by decide +kernel
theorem dX7_valueOfNumber_37 : decode cX7_valueOfNumber 37 = .ok (.ireturn, 1) := by decide +kernel
theorem dX7_isWord_0 : decode cX7_isWord 0 = .ok (.aload_n 0, 1) := by decide +kernel
theorem dX7_isWord_1 : decode cX7_isWord 1 = .ok (.getfield 15, 3) := by decide +kernel
theorem dX7_isWord_4 : decode cX7_isWord 4 = .ok (.iconst 1, 1) := by decide +kernel
theorem dX7_isWord_5 : decode cX7_isWord 5 = .ok (.if_icmp .ne 19, 3) := by decide +kernel
theorem dX7_isWord_8 : decode cX7_isWord 8 = .ok (.aload_n 0, 1) := by decide +kernel
theorem dX7_isWord_9 : decode cX7_isWord 9 = .ok (.getfield 22, 3) := by decide +kernel
theorem dX7_isWord_12 : decode cX7_isWord 12 = .ok (.aload_n 0, 1) := by decide +kernel
theorem dX7_isWord_13 : decode cX7_isWord 13 = .ok (.getfield 19, 3) := by decide +kernel
theorem dX7_isWord_16 : decode cX7_isWord 16 = .ok (.isub, 1) := by decide +kernel
theorem dX7_isWord_17 : decode cX7_isWord 17 = .ok (.aload_n 1, 1) := by decide +kernel
theorem dX7_isWord_18 : decode cX7_isWord 18 = .ok (.invokevirtual 32, 3) := by decide +kernel
theorem dX7_isWord_21 : decode cX7_isWord 21 = .ok (.if_icmp .eq 5, 3) := by decide +kernel
theorem dX7_isWord_24 : decode cX7_isWord 24 = .ok (.iconst 0, 1) := by decide +kernel
theorem dX7_isWord_25 : decode cX7_isWord 25 = .ok (.ireturn, 1) := by decide +kernel
theorem dX7_isWord_26 : decode cX7_isWord 26 = .ok (.iconst 0, 1) := by decide +kernel
theorem dX7_isWord_27 : decode cX7_isWord 27 = .ok (.istore_n 2, 1) := by decide +kernel
theorem dX7_isWord_28 : decode cX7_isWord 28 = .ok (.iload_n 2, 1) := by decide +kernel
theorem dX7_isWord_29 : decode cX7_isWord 29 = .ok (.aload_n 1, 1) := by decide +kernel
theorem dX7_isWord_30 : decode cX7_isWord 30 = .ok (.invokevirtual 32, 3) := by decide +kernel
theorem dX7_isWord_33 : decode cX7_isWord 33 = .ok (.if_icmp .ge 30, 3) := by decide +kernel
theorem dX7_isWord_36 : decode cX7_isWord 36 = .ok (.aload_n 0, 1) := by decide +kernel
theorem dX7_isWord_37 : decode cX7_isWord 37 = .ok (.getfield 9, 3) := by decide +kernel
theorem dX7_isWord_40 : decode cX7_isWord 40 = .ok (.aload_n 0, 1) := by decide +kernel
theorem dX7_isWord_41 : decode cX7_isWord 41 = .ok (.getfield 19, 3) := by decide +kernel
theorem dX7_isWord_44 : decode cX7_isWord 44 = .ok (.iload_n 2, 1) := by decide +kernel
theorem dX7_isWord_45 : decode cX7_isWord 45 = .ok (.iadd, 1) := by decide +kernel
theorem dX7_isWord_46 : decode cX7_isWord 46 = .ok (.baload, 1) := by decide +kernel
theorem dX7_isWord_47 : decode cX7_isWord 47 = .ok (.aload_n 1, 1) := by decide +kernel
theorem dX7_isWord_48 : decode cX7_isWord 48 = .ok (.iload_n 2, 1) := by decide +kernel
theorem dX7_isWord_49 : decode cX7_isWord 49 = .ok (.invokevirtual 37, 3) := by decide +kernel
theorem dX7_isWord_52 : decode cX7_isWord 52 = .ok (.if_icmp .eq 5, 3) := by decide +kernel
theorem dX7_isWord_55 : decode cX7_isWord 55 = .ok (.iconst 0, 1) := by decide +kernel
theorem dX7_isWord_56 : decode cX7_isWord 56 = .ok (.ireturn, 1) := by decide +kernel
theorem dX7_isWord_57 : decode cX7_isWord 57 = .ok (.iinc 2 1, 3) := by decide +kernel
theorem dX7_isWord_60 : decode cX7_isWord 60 = .ok (.goto (-32), 3) := by decide +kernel
theorem dX7_isWord_63 : decode cX7_isWord 63 = .ok (.iconst 1, 1) := by decide +kernel
theorem dX7_isWord_64 : decode cX7_isWord 64 = .ok (.ireturn, 1) := by decide +kernel
theorem dJ6_bitCount_0f7a4_0 : decode cJ6_bitCount_0f7a4 0 = .ok (.iload_n 0, 1) := by decide +kernel
theorem dJ6_bitCount_0f7a4_1 : decode cJ6_bitCount_0f7a4 1 = .ok (.iload_n 0, 1) := by decide +kernel
theorem dJ6_bitCount_0f7a4_2 : decode cJ6_bitCount_0f7a4 2 = .ok (.iconst 1, 1) := by decide +kernel
theorem dJ6_bitCount_0f7a4_3 : decode cJ6_bitCount_0f7a4 3 = .ok (.iushr, 1) := by decide +kernel
theorem dJ6_bitCount_0f7a4_4 : decode cJ6_bitCount_0f7a4 4 = .ok (.ldc_w 265, 3) := by decide +kernel
theorem dJ6_bitCount_0f7a4_7 : decode cJ6_bitCount_0f7a4 7 = .ok (.iand, 1) := by decide +kernel
theorem dJ6_bitCount_0f7a4_8 : decode cJ6_bitCount_0f7a4 8 = .ok (.isub, 1) := by decide +kernel
theorem dJ6_bitCount_0f7a4_9 : decode cJ6_bitCount_0f7a4 9 = .ok (.istore_n 0, 1) := by decide +kernel
theorem dJ6_bitCount_0f7a4_10 : decode cJ6_bitCount_0f7a4 10 = .ok (.iload_n 0, 1) := by decide +kernel
theorem dJ6_bitCount_0f7a4_11 : decode cJ6_bitCount_0f7a4 11 = .ok (.ldc_w 266, 3) := by decide +kernel
theorem dJ6_bitCount_0f7a4_14 : decode cJ6_bitCount_0f7a4 14 = .ok (.iand, 1) := by decide +kernel
theorem dJ6_bitCount_0f7a4_15 : decode cJ6_bitCount_0f7a4 15 = .ok (.iload_n 0, 1) := by decide +kernel
theorem dJ6_bitCount_0f7a4_16 : decode cJ6_bitCount_0f7a4 16 = .ok (.iconst 2, 1) := by decide +kernel
theorem dJ6_bitCount_0f7a4_17 : decode cJ6_bitCount_0f7a4 17 = .ok (.iushr, 1) := by decide +kernel
theorem dJ6_bitCount_0f7a4_18 : decode cJ6_bitCount_0f7a4 18 = .ok (.ldc_w 266, 3) := by decide +kernel
theorem dJ6_bitCount_0f7a4_21 : decode cJ6_bitCount_0f7a4 21 = .ok (.iand, 1) := by decide +kernel
theorem dJ6_bitCount_0f7a4_22 : decode cJ6_bitCount_0f7a4 22 = .ok (.iadd, 1) := by decide +kernel
theorem dJ6_bitCount_0f7a4_23 : decode cJ6_bitCount_0f7a4 23 = .ok (.istore_n 0, 1) := by decide +kernel
theorem dJ6_bitCount_0f7a4_24 : decode cJ6_bitCount_0f7a4 24 = .ok (.iload_n 0, 1) := by decide +kernel
theorem dJ6_bitCount_0f7a4_25 : decode cJ6_bitCount_0f7a4 25 = .ok (.iload_n 0, 1) := by decide +kernel
theorem dJ6_bitCount_0f7a4_26 : decode cJ6_bitCount_0f7a4 26 = .ok (.iconst 4, 1) := by decide +kernel
theorem dJ6_bitCount_0f7a4_27 : decode cJ6_bitCount_0f7a4 27 = .ok (.iushr, 1) := by decide +kernel
theorem dJ6_bitCount_0f7a4_28 : decode cJ6_bitCount_0f7a4 28 = .ok (.iadd, 1) := by decide +kernel
theorem dJ6_bitCount_0f7a4_29 : decode cJ6_bitCount_0f7a4 29 = .ok (.ldc_w 267, 3) := by decide +kernel
theorem dJ6_bitCount_0f7a4_32 : decode cJ6_bitCount_0f7a4 32 = .ok (.iand, 1) := by decide +kernel
theorem dJ6_bitCount_0f7a4_33 : decode cJ6_bitCount_0f7a4 33 = .ok (.istore_n 0, 1) := by decide +kernel
theorem dJ6_bitCount_0f7a4_34 : decode cJ6_bitCount_0f7a4 34 = .ok (.iload_n 0, 1) := by decide +kernel
theorem dJ6_bitCount_0f7a4_35 : decode cJ6_bitCount_0f7a4 35 = .ok (.iload_n 0, 1) := by decide +kernel
theorem dJ6_bitCount_0f7a4_36 : decode cJ6_bitCount_0f7a4 36 = .ok (.bipush 8, 2) := by decide +kernel
theorem dJ6_bitCount_0f7a4_38 : decode cJ6_bitCount_0f7a4 38 = .ok (.iushr, 1) := by decide +kernel
theorem dJ6_bitCount_0f7a4_39 : decode cJ6_bitCount_0f7a4 39 = .ok (.iadd, 1) := by decide +kernel
theorem dJ6_bitCount_0f7a4_40 : decode cJ6_bitCount_0f7a4 40 = .ok (.istore_n 0, 1) := by decide +kernel
theorem dJ6_bitCount_0f7a4_41 : decode cJ6_bitCount_0f7a4 41 = .ok (.iload_n 0, 1) := by decide +kernel
theorem dJ6_bitCount_0f7a4_42 : decode cJ6_bitCount_0f7a4 42 = .ok (.iload_n 0, 1) := by decide +kernel
theorem dJ6_bitCount_0f7a4_43 : decode cJ6_bitCount_0f7a4 43 = .ok (.bipush 16, 2) := by decide +kernel
theorem dJ6_bitCount_0f7a4_45 : decode cJ6_bitCount_0f7a4 45 = .ok (.iushr, 1) := by decide +kernel
theorem dJ6_bitCount_0f7a4_46 : decode cJ6_bitCount_0f7a4 46 = .ok (.iadd, 1) := by decide +kernel
theorem dJ6_bitCount_0f7a4_47 : decode cJ6_bitCount_0f7a4 47 = .ok (.istore_n 0, 1) := by decide +kernel
theorem dJ6_bitCount_0f7a4_48 : decode cJ6_bitCount_0f7a4 48 = .ok (.iload_n 0, 1) := by decide +kernel
theorem dJ6_bitCount_0f7a4_49 : decode cJ6_bitCount_0f7a4 49 = .ok (.bipush 63, 2) := by decide +kernel
theorem dJ6_bitCount_0f7a4_51 : decode cJ6_bitCount_0f7a4 51 = .ok (.iand, 1) := by decide +kernel
theorem dJ6_bitCount_0f7a4_52 : decode cJ6_bitCount_0f7a4 52 = .ok (.ireturn, 1) := by decide +kernel
theorem dJ9_abs_0f7a4_0 : decode cJ9_abs_0f7a4 0 = .ok (.iload_n 0, 1) := by decide +kernel
theorem dJ9_abs_0f7a4_1 : decode cJ9_abs_0f7a4 1 = .ok (.ifCond .ge 8, 3) := by decide +kernel
theorem dJ9_abs_0f7a4_4 : decode cJ9_abs_0f7a4 4 = .ok (.iload_n 0, 1) := by decide +kernel
theorem dJ9_abs_0f7a4_5 : decode cJ9_abs_0f7a4 5 = .ok (.ineg, 1) := by decide +kernel
theorem dJ9_abs_0f7a4_6 : decode cJ9_abs_0f7a4 6 = .ok (.goto 4, 3) := by decide +kernel
theorem dJ9_abs_0f7a4_9 : decode cJ9_abs_0f7a4 9 = .ok (.iload_n 0, 1) := by decide +kernel
theorem dJ9_abs_0f7a4_10 : decode cJ9_abs_0f7a4 10 = .ok (.ireturn, 1) := by decide +kernel
theorem dJ9_max_7cf53_0 : decode cJ9_max_7cf53 0 = .ok (.iload_n 0, 1) := by decide +kernel
theorem dJ9_max_7cf53_1 : decode cJ9_max_7cf53 1 = .ok (.iload_n 1, 1) := by decide +kernel
theorem dJ9_max_7cf53_2 : decode cJ9_max_7cf53 2 = .ok (.if_icmp .lt 7, 3) := by decide +kernel
theorem dJ9_max_7cf53_5 : decode cJ9_max_7cf53 5 = .ok (.iload_n 0, 1) := by decide +kernel
theorem dJ9_max_7cf53_6 : decode cJ9_max_7cf53 6 = .ok (.goto 4, 3) := by decide +kernel
theorem dJ9_max_7cf53_9 : decode cJ9_max_7cf53 9 = .ok (.iload_n 1, 1) := by decide +kernel
theorem dJ9_max_7cf53_10 : decode cJ9_max_7cf53 10 = .ok (.ireturn, 1) := by decide +kernel
theorem dJ9_min_7cf53_0 : decode cJ9_min_7cf53 0 = .ok (.iload_n 0, 1) := by decide +kernel
theorem dJ9_min_7cf53_1 : decode cJ9_min_7cf53 1 = .ok (.iload_n 1, 1) := by decide +kernel
theorem dJ9_min_7cf53_2 : decode cJ9_min_7cf53 2 = .ok (.if_icmp .gt 7, 3) := by decide +kernel
theorem dJ9_min_7cf53_5 : decode cJ9_min_7cf53 5 = .ok (.iload_n 0, 1) := by decide +kernel
theorem dJ9_min_7cf53_6 : decode cJ9_min_7cf53 6 = .ok (.goto 4, 3) := by decide +kernel
theorem dJ9_min_7cf53_9 : decode cJ9_min_7cf53 9 = .ok (.iload_n 1, 1) := by decide +kernel
theorem dJ9_min_7cf53_10 : decode cJ9_min_7cf53 10 = .ok (.ireturn, 1) := by decide +kernel
theorem dJ0_length_8abf5_0 : decode cJ0_length_8abf5 0 = .ok (.aload_n 0, 1) := by decide +kernel
theorem dJ0_length_8abf5_1 : decode cJ0_length_8abf5 1 = .ok (.getfield 9, 3) := by decide +kernel
theorem dJ0_length_8abf5_4 : decode cJ0_length_8abf5 4 = .ok (.arraylength, 1) := by decide +kernel
theorem dJ0_length_8abf5_5 : decode cJ0_length_8abf5 5 = .ok (.aload_n 0, 1) := by decide +kernel
theorem dJ0_length_8abf5_6 : decode cJ0_length_8abf5 6 = .ok (.invokevirtual 335, 3) := by decide +kernel
theorem dJ0_length_8abf5_9 : decode cJ0_length_8abf5 9 = .ok (.ishr, 1) := by decide +kernel
theorem dJ0_length_8abf5_10 : decode cJ0_length_8abf5 10 = .ok (.ireturn, 1) := by decide +kernel
theorem dJ0_charAt_5068e_0 : decode cJ0_charAt_5068e 0 = .ok (.aload_n 0, 1) := by decide +kernel
theorem dJ0_charAt_5068e_1 : decode cJ0_charAt_5068e 1 = .ok (.invokevirtual 492, 3) := by decide +kernel
theorem dJ0_charAt_5068e_4 : decode cJ0_charAt_5068e 4 = .ok (.ifCond .eq 12, 3) := by decide +kernel
theorem dJ0_charAt_5068e_7 : decode cJ0_charAt_5068e 7 = .ok (.aload_n 0, 1) := by decide +kernel
theorem dJ0_charAt_5068e_8 : decode cJ0_charAt_5068e 8 = .ok (.getfield 9, 3) := by decide +kernel
theorem dJ0_charAt_5068e_11 : decode cJ0_charAt_5068e 11 = .ok (.iload_n 1, 1) := by decide +kernel
theorem dJ0_charAt_5068e_12 : decode cJ0_charAt_5068e 12 = .ok (.invokestatic 495, 3) := by decide +kernel
theorem dJ0_charAt_5068e_15 : decode cJ0_charAt_5068e 15 = .ok (.ireturn, 1) := by decide +kernel
theorem dJ0_charAt_5068e_16 : decode cJ0_charAt_5068e 16 = .ok (.aload_n 0, 1) := by decide +kernel
theorem dJ0_charAt_5068e_17 : decode cJ0_charAt_5068e 17 = .ok (.getfield 9, 3) := by decide +kernel
theorem dJ0_charAt_5068e_20 : decode cJ0_charAt_5068e 20 = .ok (.iload_n 1, 1) := by decide +kernel
theorem dJ0_charAt_5068e_21 : decode cJ0_charAt_5068e 21 = .ok (.invokestatic 498, 3) := by decide +kernel
theorem dJ0_charAt_5068e_24 : decode cJ0_charAt_5068e 24 = .ok (.ireturn, 1) := by decide +kernel
theorem dJ0_coder_7d493_0 : decode cJ0_coder_7d493 0 = .ok (.getstatic 38, 3) := by decide +kernel
theorem dJ0_coder_7d493_3 : decode cJ0_coder_7d493 3 = .ok (.ifCond .eq 10, 3) := by decide +kernel
theorem dJ0_coder_7d493_6 : decode cJ0_coder_7d493 6 = .ok (.aload_n 0, 1) := by decide +kernel
theorem dJ0_coder_7d493_7 : decode cJ0_coder_7d493 7 = .ok (.getfield 15, 3) := by decide +kernel
theorem dJ0_coder_7d493_10 : decode cJ0_coder_7d493 10 = .ok (.goto 4, 3) := by decide +kernel
theorem dJ0_coder_7d493_13 : decode cJ0_coder_7d493 13 = .ok (.iconst 1, 1) := by decide +kernel
theorem dJ0_coder_7d493_14 : decode cJ0_coder_7d493 14 = .ok (.ireturn, 1) := by decide +kernel
theorem dJ0_isLatin1_aae02_0 : decode cJ0_isLatin1_aae02 0 = .ok (.getstatic 38, 3) := by decide +kernel
theorem dJ0_isLatin1_aae02_3 : decode cJ0_isLatin1_aae02 3 = .ok (.ifCond .eq 14, 3) := by decide +kernel
theorem dJ0_isLatin1_aae02_6 : decode cJ0_isLatin1_aae02 6 = .ok (.aload_n 0, 1) := by decide +kernel
theorem dJ0_isLatin1_aae02_7 : decode cJ0_isLatin1_aae02 7 = .ok (.getfield 15, 3) := by decide +kernel
theorem dJ0_isLatin1_aae02_10 : decode cJ0_isLatin1_aae02 10 = .ok (.ifCond .ne 7, 3) := by decide +kernel
theorem dJ0_isLatin1_aae02_13 : decode cJ0_isLatin1_aae02 13 = .ok (.iconst 1, 1) := by decide +kernel
theorem dJ0_isLatin1_aae02_14 : decode cJ0_isLatin1_aae02 14 = .ok (.goto 4, 3) := by decide +kernel
theorem dJ0_isLatin1_aae02_17 : decode cJ0_isLatin1_aae02 17 = .ok (.iconst 0, 1) := by decide +kernel
theorem dJ0_isLatin1_aae02_18 : decode cJ0_isLatin1_aae02 18 = .ok (.ireturn, 1) := by decide +kernel
theorem dJ0_checkIndex_df160_0 : decode cJ0_checkIndex_df160 0 = .ok (.iload_n 0, 1) := by decide +kernel
theorem dJ0_checkIndex_df160_1 : decode cJ0_checkIndex_df160 1 = .ok (.iload_n 1, 1) := by decide +kernel
theorem dJ0_checkIndex_df160_2 : decode cJ0_checkIndex_df160 2 = .ok (.getstatic 1053, 3) := by decide +kernel
theorem dJ0_checkIndex_df160_5 : decode cJ0_checkIndex_df160 5 = .ok (.invokestatic 1059, 3) := by decide +kernel
theorem dJ0_checkIndex_df160_8 : decode cJ0_checkIndex_df160 8 = .ok (.pop, 1) := by decide +kernel
theorem dJ0_checkIndex_df160_9 : decode cJ0_checkIndex_df160 9 = .ok (.return_, 1) := by decide +kernel
theorem dJ1_charAt_3b067_0 : decode cJ1_charAt_3b067 0 = .ok (.iload_n 1, 1) := by decide +kernel
theorem dJ1_charAt_3b067_1 : decode cJ1_charAt_3b067 1 = .ok (.aload_n 0, 1) := by decide +kernel
theorem dJ1_charAt_3b067_2 : decode cJ1_charAt_3b067 2 = .ok (.arraylength, 1) := by decide +kernel
theorem dJ1_charAt_3b067_3 : decode cJ1_charAt_3b067 3 = .ok (.invokestatic 9, 3) := by decide +kernel
theorem dJ1_charAt_3b067_6 : decode cJ1_charAt_3b067 6 = .ok (.aload_n 0, 1) := by decide +kernel
theorem dJ1_charAt_3b067_7 : decode cJ1_charAt_3b067 7 = .ok (.iload_n 1, 1) := by decide +kernel
theorem dJ1_charAt_3b067_8 : decode cJ1_charAt_3b067 8 = .ok (.baload, 1) := by decide +kernel
theorem dJ1_charAt_3b067_9 : decode cJ1_charAt_3b067 9 = .ok (.sipush 255, 3) := by decide +kernel
theorem dJ1_charAt_3b067_12 : decode cJ1_charAt_3b067 12 = .ok (.iand, 1) := by decide +kernel
theorem dJ1_charAt_3b067_13 : decode cJ1_charAt_3b067 13 = .ok (.i2c, 1) := by decide +kernel
theorem dJ1_charAt_3b067_14 : decode cJ1_charAt_3b067 14 = .ok (.ireturn, 1) := by decide +kernel
theorem dJ2_getChar_3b067_0 : decode cJ2_getChar_3b067 0 = .ok (.getstatic 44, 3) := by decide +kernel
theorem dJ2_getChar_3b067_3 : decode cJ2_getChar_3b067 3 = .ok (.ifCond .ne 25, 3) := by decide +kernel
theorem dJ2_getChar_3b067_6 : decode cJ2_getChar_3b067 6 = .ok (.iload_n 1, 1) := by decide +kernel
theorem dJ2_getChar_3b067_7 : decode cJ2_getChar_3b067 7 = .ok (.ifCond .lt 11, 3) := by decide +kernel
theorem dJ2_getChar_3b067_10 : decode cJ2_getChar_3b067 10 = .ok (.iload_n 1, 1) := by decide +kernel
theorem dJ2_getChar_3b067_11 : decode cJ2_getChar_3b067 11 = .ok (.aload_n 0, 1) := by decide +kernel
theorem dJ2_getChar_3b067_12 : decode cJ2_getChar_3b067 12 = .ok (.invokestatic 48, 3) := by decide +kernel
theorem dJ2_getChar_3b067_15 : decode cJ2_getChar_3b067 15 = .ok (.if_icmp .lt 13, 3) := by decide +kernel
theorem dJ2_getChar_3b067_18 : decode cJ2_getChar_3b067 18 = .ok (.new 52, 3) := by decide +kernel
theorem dJ2_getChar_3b067_21 : decode cJ2_getChar_3b067 21 = .ok (.dup, 1) := by decide +kernel
theorem dJ2_getChar_3b067_22 : decode cJ2_getChar_3b067 22 = .ok (.ldc 54, 2) := by decide +kernel
theorem dJ2_getChar_3b067_24 : decode cJ2_getChar_3b067 24 = .ok (.invokespecial 56, 3) := by decide +kernel
theorem dJ2_getChar_3b067_27 : decode cJ2_getChar_3b067 27 = .ok (.athrow, 1) := by decide +kernel
theorem dJ2_getChar_3b067_28 : decode cJ2_getChar_3b067 28 = .ok (.iload_n 1, 1) := by decide +kernel
theorem dJ2_getChar_3b067_29 : decode cJ2_getChar_3b067 29 = .ok (.iconst 1, 1) := by decide +kernel
theorem dJ2_getChar_3b067_30 : decode cJ2_getChar_3b067 30 = .ok (.ishl, 1) := by decide +kernel
theorem dJ2_getChar_3b067_31 : decode cJ2_getChar_3b067 31 = .ok (.istore_n 1, 1) := by decide +kernel
theorem dJ2_getChar_3b067_32 : decode cJ2_getChar_3b067 32 = .ok (.aload_n 0, 1) := by decide +kernel
theorem dJ2_getChar_3b067_33 : decode cJ2_getChar_3b067 33 = .ok (.iload_n 1, 1) := by decide +kernel
theorem dJ2_getChar_3b067_34 : decode cJ2_getChar_3b067 34 = .ok (.iinc 1 1, 3) := by decide +kernel
theorem dJ2_getChar_3b067_37 : decode cJ2_getChar_3b067 37 = .ok (.baload, 1) := by decide +kernel
theorem dJ2_getChar_3b067_38 : decode cJ2_getChar_3b067 38 = .ok (.sipush 255, 3) := by decide +kernel
theorem dJ2_getChar_3b067_41 : decode cJ2_getChar_3b067 41 = .ok (.iand, 1) := by decide +kernel
theorem dJ2_getChar_3b067_42 : decode cJ2_getChar_3b067 42 = .ok (.getstatic 59, 3) := by decide +kernel
theorem dJ2_getChar_3b067_45 : decode cJ2_getChar_3b067 45 = .ok (.ishl, 1) := by decide +kernel
theorem dJ2_getChar_3b067_46 : decode cJ2_getChar_3b067 46 = .ok (.aload_n 0, 1) := by decide +kernel
theorem dJ2_getChar_3b067_47 : decode cJ2_getChar_3b067 47 = .ok (.iload_n 1, 1) := by decide +kernel
theorem dJ2_getChar_3b067_48 : decode cJ2_getChar_3b067 48 = .ok (.baload, 1) := by decide +kernel
theorem dJ2_getChar_3b067_49 : decode cJ2_getChar_3b067 49 = .ok (.sipush 255, 3) := by decide +kernel
theorem dJ2_getChar_3b067_52 : decode cJ2_getChar_3b067 52 = .ok (.iand, 1) := by decide +kernel
theorem dJ2_getChar_3b067_53 : decode cJ2_getChar_3b067 53 = .ok (.getstatic 63, 3) := by decide +kernel
theorem dJ2_getChar_3b067_56 : decode cJ2_getChar_3b067 56 = .ok (.ishl, 1) := by decide +kernel
theorem dJ2_getChar_3b067_57 : decode cJ2_getChar_3b067 57 = .ok (.ior, 1) := by decide +kernel
theorem dJ2_getChar_3b067_58 : decode cJ2_getChar_3b067 58 = .ok (.i2c, 1) := by decide +kernel
theorem dJ2_getChar_3b067_59 : decode cJ2_getChar_3b067 59 = .ok (.ireturn, 1) := by decide +kernel
theorem dJ2_length_9d52b_0 : decode cJ2_length_9d52b 0 = .ok (.aload_n 0, 1) := by decide +kernel
theorem dJ2_length_9d52b_1 : decode cJ2_length_9d52b 1 = .ok (.arraylength, 1) := by decide +kernel
theorem dJ2_length_9d52b_2 : decode cJ2_length_9d52b 2 = .ok (.iconst 1, 1) := by decide +kernel
theorem dJ2_length_9d52b_3 : decode cJ2_length_9d52b 3 = .ok (.ishr, 1) := by decide +kernel
theorem dJ2_length_9d52b_4 : decode cJ2_length_9d52b 4 = .ok (.ireturn, 1) := by decide +kernel
theorem dJ2_charAt_3b067_0 : decode cJ2_charAt_3b067 0 = .ok (.iload_n 1, 1) := by decide +kernel
theorem dJ2_charAt_3b067_1 : decode cJ2_charAt_3b067 1 = .ok (.aload_n 0, 1) := by decide +kernel
theorem dJ2_charAt_3b067_2 : decode cJ2_charAt_3b067 2 = .ok (.invokestatic 67, 3) := by decide +kernel
theorem dJ2_charAt_3b067_5 : decode cJ2_charAt_3b067 5 = .ok (.aload_n 0, 1) := by decide +kernel
theorem dJ2_charAt_3b067_6 : decode cJ2_charAt_3b067 6 = .ok (.iload_n 1, 1) := by decide +kernel
theorem dJ2_charAt_3b067_7 : decode cJ2_charAt_3b067 7 = .ok (.invokestatic 71, 3) := by decide +kernel
theorem dJ2_charAt_3b067_10 : decode cJ2_charAt_3b067 10 = .ok (.ireturn, 1) := by decide +kernel
theorem dJ2_checkIndex_2214a_0 : decode cJ2_checkIndex_2214a 0 = .ok (.iload_n 0, 1) := by decide +kernel
theorem dJ2_checkIndex_2214a_1 : decode cJ2_checkIndex_2214a 1 = .ok (.aload_n 1, 1) := by decide +kernel
theorem dJ2_checkIndex_2214a_2 : decode cJ2_checkIndex_2214a 2 = .ok (.invokestatic 48, 3) := by decide +kernel
theorem dJ2_checkIndex_2214a_5 : decode cJ2_checkIndex_2214a 5 = .ok (.invokestatic 414, 3) := by decide +kernel
theorem dJ2_checkIndex_2214a_8 : decode cJ2_checkIndex_2214a 8 = .ok (.return_, 1) := by decide +kernel
theorem dJ3_checkIndex_8e157_0 : decode cJ3_checkIndex_8e157 0 = .ok (.iload_n 0, 1) := by decide +kernel
theorem dJ3_checkIndex_8e157_1 : decode cJ3_checkIndex_8e157 1 = .ok (.ifCond .lt 8, 3) := by decide +kernel
theorem dJ3_checkIndex_8e157_4 : decode cJ3_checkIndex_8e157 4 = .ok (.iload_n 0, 1) := by decide +kernel
theorem dJ3_checkIndex_8e157_5 : decode cJ3_checkIndex_8e157 5 = .ok (.iload_n 1, 1) := by decide +kernel
theorem dJ3_checkIndex_8e157_6 : decode cJ3_checkIndex_8e157 6 = .ok (.if_icmp .lt 10, 3) := by decide +kernel
theorem dJ3_checkIndex_8e157_9 : decode cJ3_checkIndex_8e157 9 = .ok (.aload_n 2, 1) := by decide +kernel
theorem dJ3_checkIndex_8e157_10 : decode cJ3_checkIndex_8e157 10 = .ok (.iload_n 0, 1) := by decide +kernel
theorem dJ3_checkIndex_8e157_11 : decode cJ3_checkIndex_8e157 11 = .ok (.iload_n 1, 1) := by decide +kernel
theorem dJ3_checkIndex_8e157_12 : decode cJ3_checkIndex_8e157 12 = .ok (.invokestatic 95, 3) := by decide +kernel
theorem dJ3_checkIndex_8e157_15 : decode cJ3_checkIndex_8e157 15 = .ok (.athrow, 1) := by decide +kernel
theorem dJ3_checkIndex_8e157_16 : decode cJ3_checkIndex_8e157 16 = .ok (.iload_n 0, 1) := by decide +kernel
theorem dJ3_checkIndex_8e157_17 : decode cJ3_checkIndex_8e157 17 = .ok (.ireturn, 1) := by decide +kernel
