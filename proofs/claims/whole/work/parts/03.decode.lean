theorem dX0_init_0 : decode cX0_init 0 = .ok (.aload_n 0, 1) := by decide +kernel
theorem dX0_init_1 : decode cX0_init 1 = .ok (.invokespecial 3, 3) := by decide +kernel
theorem dX0_init_4 : decode cX0_init 4 = .ok (.aload_n 0, 1) := by decide +kernel
theorem dX0_init_5 : decode cX0_init 5 = .ok (.new 9, 3) := by decide +kernel
theorem dX0_init_8 : decode cX0_init 8 = .ok (.dup, 1) := by decide +kernel
theorem dX0_init_9 : decode cX0_init 9 = .ok (.bipush 100, 2) := by decide +kernel
theorem dX0_init_11 : decode cX0_init 11 = .ok (.bipush 6, 2) := by decide +kernel
theorem dX0_init_13 : decode cX0_init 13 = .ok (.invokespecial 13, 3) := by decide +kernel
theorem dX0_init_16 : decode cX0_init 16 = .ok (.putfield 16, 3) := by decide +kernel
theorem dX0_init_19 : decode cX0_init 19 = .ok (.aload_n 0, 1) := by decide +kernel
theorem dX0_init_20 : decode cX0_init 20 = .ok (.new 9, 3) := by decide +kernel
theorem dX0_init_23 : decode cX0_init 23 = .ok (.dup, 1) := by decide +kernel
theorem dX0_init_24 : decode cX0_init 24 = .ok (.bipush 100, 2) := by decide +kernel
theorem dX0_init_26 : decode cX0_init 26 = .ok (.iconst 1, 1) := by decide +kernel
theorem dX0_init_27 : decode cX0_init 27 = .ok (.invokespecial 13, 3) := by decide +kernel
theorem dX0_init_30 : decode cX0_init 30 = .ok (.putfield 20, 3) := by decide +kernel
theorem dX0_init_33 : decode cX0_init 33 = .ok (.return_, 1) := by decide +kernel
theorem dX0_gather_0 : decode cX0_gather 0 = .ok (.aload_n 0, 1) := by decide +kernel
theorem dX0_gather_1 : decode cX0_gather 1 = .ok (.getfield 16, 3) := by decide +kernel
theorem dX0_gather_4 : decode cX0_gather 4 = .ok (.iconst 0, 1) := by decide +kernel
theorem dX0_gather_5 : decode cX0_gather 5 = .ok (.invokevirtual 23, 3) := by decide +kernel
theorem dX0_gather_8 : decode cX0_gather 8 = .ok (.iconst 0, 1) := by decide +kernel
theorem dX0_gather_9 : decode cX0_gather 9 = .ok (.istore_n 2, 1) := by decide +kernel
theorem dX0_gather_10 : decode cX0_gather 10 = .ok (.iload_n 2, 1) := by decide +kernel
theorem dX0_gather_11 : decode cX0_gather 11 = .ok (.aload_n 1, 1) := by decide +kernel
theorem dX0_gather_12 : decode cX0_gather 12 = .ok (.getfield 27, 3) := by decide +kernel
theorem dX0_gather_15 : decode cX0_gather 15 = .ok (.invokevirtual 32, 3) := by decide +kernel
theorem dX0_gather_18 : decode cX0_gather 18 = .ok (.if_icmp .ge 28, 3) := by decide +kernel
theorem dX0_gather_21 : decode cX0_gather 21 = .ok (.aload_n 0, 1) := by decide +kernel
theorem dX0_gather_22 : decode cX0_gather 22 = .ok (.aload_n 1, 1) := by decide +kernel
theorem dX0_gather_23 : decode cX0_gather 23 = .ok (.iload_n 2, 1) := by decide +kernel
theorem dX0_gather_24 : decode cX0_gather 24 = .ok (.invokevirtual 36, 3) := by decide +kernel
theorem dX0_gather_27 : decode cX0_gather 27 = .ok (.aload_n 1, 1) := by decide +kernel
theorem dX0_gather_28 : decode cX0_gather 28 = .ok (.iload_n 2, 1) := by decide +kernel
theorem dX0_gather_29 : decode cX0_gather 29 = .ok (.invokevirtual 40, 3) := by decide +kernel
theorem dX0_gather_32 : decode cX0_gather 32 = .ok (.aload_n 1, 1) := by decide +kernel
theorem dX0_gather_33 : decode cX0_gather 33 = .ok (.iload_n 2, 1) := by decide +kernel
theorem dX0_gather_34 : decode cX0_gather 34 = .ok (.invokevirtual 43, 3) := by decide +kernel
theorem dX0_gather_37 : decode cX0_gather 37 = .ok (.invokevirtual 46, 3) := by decide +kernel
theorem dX0_gather_40 : decode cX0_gather 40 = .ok (.iinc 2 1, 3) := by decide +kernel
theorem dX0_gather_43 : decode cX0_gather 43 = .ok (.goto (-33), 3) := by decide +kernel
theorem dX0_gather_46 : decode cX0_gather 46 = .ok (.aload_n 0, 1) := by decide +kernel
theorem dX0_gather_47 : decode cX0_gather 47 = .ok (.getfield 20, 3) := by decide +kernel
theorem dX0_gather_50 : decode cX0_gather 50 = .ok (.iconst 0, 1) := by decide +kernel
theorem dX0_gather_51 : decode cX0_gather 51 = .ok (.invokevirtual 23, 3) := by decide +kernel
theorem dX0_gather_54 : decode cX0_gather 54 = .ok (.iconst 0, 1) := by decide +kernel
theorem dX0_gather_55 : decode cX0_gather 55 = .ok (.istore_n 2, 1) := by decide +kernel
theorem dX0_gather_56 : decode cX0_gather 56 = .ok (.iload_n 2, 1) := by decide +kernel
theorem dX0_gather_57 : decode cX0_gather 57 = .ok (.aload_n 1, 1) := by decide +kernel
theorem dX0_gather_58 : decode cX0_gather 58 = .ok (.getfield 27, 3) := by decide +kernel
theorem dX0_gather_61 : decode cX0_gather 61 = .ok (.invokevirtual 32, 3) := by decide +kernel
theorem dX0_gather_64 : decode cX0_gather 64 = .ok (.if_icmp .ge 29, 3) := by decide +kernel
theorem dX0_gather_67 : decode cX0_gather 67 = .ok (.aload_n 0, 1) := by decide +kernel
theorem dX0_gather_68 : decode cX0_gather 68 = .ok (.getfield 20, 3) := by decide +kernel
theorem dX0_gather_71 : decode cX0_gather 71 = .ok (.aload_n 0, 1) := by decide +kernel
theorem dX0_gather_72 : decode cX0_gather 72 = .ok (.getfield 16, 3) := by decide +kernel
theorem dX0_gather_75 : decode cX0_gather 75 = .ok (.aload_n 1, 1) := by decide +kernel
theorem dX0_gather_76 : decode cX0_gather 76 = .ok (.iload_n 2, 1) := by decide +kernel
theorem dX0_gather_77 : decode cX0_gather 77 = .ok (.invokevirtual 36, 3) := by decide +kernel
theorem dX0_gather_80 : decode cX0_gather 80 = .ok (.invokevirtual 50, 3) := by decide +kernel
theorem dX0_gather_83 : decode cX0_gather 83 = .ok (.invokevirtual 53, 3) := by decide +kernel
theorem dX0_gather_86 : decode cX0_gather 86 = .ok (.pop, 1) := by decide +kernel
theorem dX0_gather_87 : decode cX0_gather 87 = .ok (.iinc 2 1, 3) := by decide +kernel
theorem dX0_gather_90 : decode cX0_gather 90 = .ok (.goto (-34), 3) := by decide +kernel
theorem dX0_gather_93 : decode cX0_gather 93 = .ok (.return_, 1) := by decide +kernel
theorem dX0_addRow_0 : decode cX0_addRow 0 = .ok (.aload_n 0, 1) := by decide +kernel
theorem dX0_addRow_1 : decode cX0_addRow 1 = .ok (.getfield 16, 3) := by decide +kernel
theorem dX0_addRow_4 : decode cX0_addRow 4 = .ok (.iload_n 1, 1) := by decide +kernel
theorem dX0_addRow_5 : decode cX0_addRow 5 = .ok (.invokevirtual 50, 3) := by decide +kernel
theorem dX0_addRow_8 : decode cX0_addRow 8 = .ok (.istore 4, 2) := by decide +kernel
theorem dX0_addRow_10 : decode cX0_addRow 10 = .ok (.iload 4, 2) := by decide +kernel
theorem dX0_addRow_12 : decode cX0_addRow 12 = .ok (.aload_n 0, 1) := by decide +kernel
theorem dX0_addRow_13 : decode cX0_addRow 13 = .ok (.getfield 16, 3) := by decide +kernel
theorem dX0_addRow_16 : decode cX0_addRow 16 = .ok (.invokevirtual 32, 3) := by decide +kernel
theorem dX0_addRow_19 : decode cX0_addRow 19 = .ok (.if_icmp .ge 17, 3) := by decide +kernel
theorem dX0_addRow_22 : decode cX0_addRow 22 = .ok (.aload_n 0, 1) := by decide +kernel
theorem dX0_addRow_23 : decode cX0_addRow 23 = .ok (.getfield 16, 3) := by decide +kernel
theorem dX0_addRow_26 : decode cX0_addRow 26 = .ok (.iload 4, 2) := by decide +kernel
theorem dX0_addRow_28 : decode cX0_addRow 28 = .ok (.iconst 0, 1) := by decide +kernel
theorem dX0_addRow_29 : decode cX0_addRow 29 = .ok (.invokevirtual 56, 3) := by decide +kernel
theorem dX0_addRow_32 : decode cX0_addRow 32 = .ok (.iload_n 1, 1) := by decide +kernel
theorem dX0_addRow_33 : decode cX0_addRow 33 = .ok (.if_icmp .eq 46, 3) := by decide +kernel
theorem dX0_addRow_36 : decode cX0_addRow 36 = .ok (.aload_n 0, 1) := by decide +kernel
theorem dX0_addRow_37 : decode cX0_addRow 37 = .ok (.getfield 16, 3) := by decide +kernel
theorem dX0_addRow_40 : decode cX0_addRow 40 = .ok (.iload 4, 2) := by decide +kernel
theorem dX0_addRow_42 : decode cX0_addRow 42 = .ok (.iload_n 1, 1) := by decide +kernel
theorem dX0_addRow_43 : decode cX0_addRow 43 = .ok (.invokevirtual 60, 3) := by decide +kernel
theorem dX0_addRow_46 : decode cX0_addRow 46 = .ok (.aload_n 0, 1) := by decide +kernel
theorem dX0_addRow_47 : decode cX0_addRow 47 = .ok (.getfield 16, 3) := by decide +kernel
theorem dX0_addRow_50 : decode cX0_addRow 50 = .ok (.iload 4, 2) := by decide +kernel
theorem dX0_addRow_52 : decode cX0_addRow 52 = .ok (.iconst 5, 1) := by decide +kernel
theorem dX0_addRow_53 : decode cX0_addRow 53 = .ok (.iload_n 3, 1) := by decide +kernel
theorem dX0_addRow_54 : decode cX0_addRow 54 = .ok (.invokevirtual 63, 3) := by decide +kernel
theorem dX0_addRow_57 : decode cX0_addRow 57 = .ok (.aload_n 0, 1) := by decide +kernel
theorem dX0_addRow_58 : decode cX0_addRow 58 = .ok (.getfield 16, 3) := by decide +kernel
theorem dX0_addRow_61 : decode cX0_addRow 61 = .ok (.iload 4, 2) := by decide +kernel
theorem dX0_addRow_63 : decode cX0_addRow 63 = .ok (.iconst 3, 1) := by decide +kernel
theorem dX0_addRow_64 : decode cX0_addRow 64 = .ok (.iload_n 2, 1) := by decide +kernel
theorem dX0_addRow_65 : decode cX0_addRow 65 = .ok (.invokevirtual 63, 3) := by decide +kernel
theorem dX0_addRow_68 : decode cX0_addRow 68 = .ok (.aload_n 0, 1) := by decide +kernel
theorem dX0_addRow_69 : decode cX0_addRow 69 = .ok (.getfield 16, 3) := by decide +kernel
theorem dX0_addRow_72 : decode cX0_addRow 72 = .ok (.iload 4, 2) := by decide +kernel
theorem dX0_addRow_74 : decode cX0_addRow 74 = .ok (.iconst 4, 1) := by decide +kernel
theorem dX0_addRow_75 : decode cX0_addRow 75 = .ok (.iload_n 2, 1) := by decide +kernel
theorem dX0_addRow_76 : decode cX0_addRow 76 = .ok (.invokevirtual 63, 3) := by decide +kernel
theorem dX0_addRow_79 : decode cX0_addRow 79 = .ok (.aload_n 0, 1) := by decide +kernel
theorem dX0_addRow_80 : decode cX0_addRow 80 = .ok (.getfield 16, 3) := by decide +kernel
theorem dX0_addRow_83 : decode cX0_addRow 83 = .ok (.iload 4, 2) := by decide +kernel
theorem dX0_addRow_85 : decode cX0_addRow 85 = .ok (.iconst 1, 1) := by decide +kernel
theorem dX0_addRow_86 : decode cX0_addRow 86 = .ok (.iconst 1, 1) := by decide +kernel
theorem dX0_addRow_87 : decode cX0_addRow 87 = .ok (.invokevirtual 66, 3) := by decide +kernel
theorem dX0_addRow_90 : decode cX0_addRow 90 = .ok (.aload_n 0, 1) := by decide +kernel
theorem dX0_addRow_91 : decode cX0_addRow 91 = .ok (.getfield 16, 3) := by decide +kernel
theorem dX0_addRow_94 : decode cX0_addRow 94 = .ok (.iload 4, 2) := by decide +kernel
theorem dX0_addRow_96 : decode cX0_addRow 96 = .ok (.iconst 2, 1) := by decide +kernel
theorem dX0_addRow_97 : decode cX0_addRow 97 = .ok (.iload_n 2, 1) := by decide +kernel
theorem dX0_addRow_98 : decode cX0_addRow 98 = .ok (.invokevirtual 66, 3) := by decide +kernel
theorem dX0_addRow_101 : decode cX0_addRow 101 = .ok (.aload_n 0, 1) := by decide +kernel
theorem dX0_addRow_102 : decode cX0_addRow 102 = .ok (.getfield 16, 3) := by decide +kernel
theorem dX0_addRow_105 : decode cX0_addRow 105 = .ok (.iload 4, 2) := by decide +kernel
theorem dX0_addRow_107 : decode cX0_addRow 107 = .ok (.iconst 3, 1) := by decide +kernel
theorem dX0_addRow_108 : decode cX0_addRow 108 = .ok (.aload_n 0, 1) := by decide +kernel
theorem dX0_addRow_109 : decode cX0_addRow 109 = .ok (.getfield 16, 3) := by decide +kernel
theorem dX0_addRow_112 : decode cX0_addRow 112 = .ok (.iload 4, 2) := by decide +kernel
theorem dX0_addRow_114 : decode cX0_addRow 114 = .ok (.iconst 3, 1) := by decide +kernel
theorem dX0_addRow_115 : decode cX0_addRow 115 = .ok (.invokevirtual 56, 3) := by decide +kernel
theorem dX0_addRow_118 : decode cX0_addRow 118 = .ok (.iload_n 2, 1) := by decide +kernel
theorem dX0_addRow_119 : decode cX0_addRow 119 = .ok (.invokestatic 69, 3) := by decide +kernel
theorem dX0_addRow_122 : decode cX0_addRow 122 = .ok (.invokevirtual 63, 3) := by decide +kernel
theorem dX0_addRow_125 : decode cX0_addRow 125 = .ok (.aload_n 0, 1) := by decide +kernel
theorem dX0_addRow_126 : decode cX0_addRow 126 = .ok (.getfield 16, 3) := by decide +kernel
theorem dX0_addRow_129 : decode cX0_addRow 129 = .ok (.iload 4, 2) := by decide +kernel
theorem dX0_addRow_131 : decode cX0_addRow 131 = .ok (.iconst 4, 1) := by decide +kernel
theorem dX0_addRow_132 : decode cX0_addRow 132 = .ok (.aload_n 0, 1) := by decide +kernel
theorem dX0_addRow_133 : decode cX0_addRow 133 = .ok (.getfield 16, 3) := by decide +kernel
theorem dX0_addRow_136 : decode cX0_addRow 136 = .ok (.iload 4, 2) := by decide +kernel
theorem dX0_addRow_138 : decode cX0_addRow 138 = .ok (.iconst 4, 1) := by decide +kernel
theorem dX0_addRow_139 : decode cX0_addRow 139 = .ok (.invokevirtual 56, 3) := by decide +kernel
theorem dX0_addRow_142 : decode cX0_addRow 142 = .ok (.iload_n 2, 1) := by decide +kernel
theorem dX0_addRow_143 : decode cX0_addRow 143 = .ok (.invokestatic 74, 3) := by decide +kernel
theorem dX0_addRow_146 : decode cX0_addRow 146 = .ok (.invokevirtual 63, 3) := by decide +kernel
theorem dX0_addRow_149 : decode cX0_addRow 149 = .ok (.return_, 1) := by decide +kernel
theorem dX1_init_0 : decode cX1_init 0 = .ok (.aload_n 0, 1) := by decide +kernel
theorem dX1_init_1 : decode cX1_init 1 = .ok (.invokespecial 3, 3) := by decide +kernel
theorem dX1_init_4 : decode cX1_init 4 = .ok (.aload_n 0, 1) := by decide +kernel
theorem dX1_init_5 : decode cX1_init 5 = .ok (.iconst 4, 1) := by decide +kernel
theorem dX1_init_6 : decode cX1_init 6 = .ok (.anewarray 9, 3) := by decide +kernel
theorem dX1_init_9 : decode cX1_init 9 = .ok (.putfield 11, 3) := by decide +kernel
theorem dX1_init_12 : decode cX1_init 12 = .ok (.iconst 0, 1) := by decide +kernel
theorem dX1_init_13 : decode cX1_init 13 = .ok (.istore_n 1, 1) := by decide +kernel
theorem dX1_init_14 : decode cX1_init 14 = .ok (.iload_n 1, 1) := by decide +kernel
theorem dX1_init_15 : decode cX1_init 15 = .ok (.aload_n 0, 1) := by decide +kernel
theorem dX1_init_16 : decode cX1_init 16 = .ok (.getfield 11, 3) := by decide +kernel
theorem dX1_init_19 : decode cX1_init 19 = .ok (.arraylength, 1) := by decide +kernel
theorem dX1_init_20 : decode cX1_init 20 = .ok (.if_icmp .ge 22, 3) := by decide +kernel
theorem dX1_init_23 : decode cX1_init 23 = .ok (.aload_n 0, 1) := by decide +kernel
theorem dX1_init_24 : decode cX1_init 24 = .ok (.getfield 11, 3) := by decide +kernel
theorem dX1_init_27 : decode cX1_init 27 = .ok (.iload_n 1, 1) := by decide +kernel
theorem dX1_init_28 : decode cX1_init 28 = .ok (.new 9, 3) := by decide +kernel
theorem dX1_init_31 : decode cX1_init 31 = .ok (.dup, 1) := by decide +kernel
theorem dX1_init_32 : decode cX1_init 32 = .ok (.invokespecial 17, 3) := by decide +kernel
theorem dX1_init_35 : decode cX1_init 35 = .ok (.aastore, 1) := by decide +kernel
theorem dX1_init_36 : decode cX1_init 36 = .ok (.iinc 1 1, 3) := by decide +kernel
theorem dX1_init_39 : decode cX1_init 39 = .ok (.goto (-25), 3) := by decide +kernel
theorem dX1_init_42 : decode cX1_init 42 = .ok (.return_, 1) := by decide +kernel
theorem dX1_length_0 : decode cX1_length 0 = .ok (.aload_n 0, 1) := by decide +kernel
theorem dX1_length_1 : decode cX1_length 1 = .ok (.getfield 18, 3) := by decide +kernel
theorem dX1_length_4 : decode cX1_length 4 = .ok (.ireturn, 1) := by decide +kernel
theorem dX1_keep_0 : decode cX1_keep 0 = .ok (.aload_n 0, 1) := by decide +kernel
theorem dX1_keep_1 : decode cX1_keep 1 = .ok (.getfield 18, 3) := by decide +kernel
theorem dX1_keep_4 : decode cX1_keep 4 = .ok (.iconst 4, 1) := by decide +kernel
theorem dX1_keep_5 : decode cX1_keep 5 = .ok (.if_icmp .ne 25, 3) := by decide +kernel
theorem dX1_keep_8 : decode cX1_keep 8 = .ok (.aload_n 0, 1) := by decide +kernel
theorem dX1_keep_9 : decode cX1_keep 9 = .ok (.aload_n 0, 1) := by decide +kernel
theorem dX1_keep_10 : decode cX1_keep 10 = .ok (.getfield 22, 3) := by decide +kernel
theorem dX1_keep_13 : decode cX1_keep 13 = .ok (.iconst 1, 1) := by decide +kernel
theorem dX1_keep_14 : decode cX1_keep 14 = .ok (.iadd, 1) := by decide +kernel
theorem dX1_keep_15 : decode cX1_keep 15 = .ok (.iconst 4, 1) := by decide +kernel
theorem dX1_keep_16 : decode cX1_keep 16 = .ok (.irem, 1) := by decide +kernel
theorem dX1_keep_17 : decode cX1_keep 17 = .ok (.putfield 22, 3) := by decide +kernel
theorem dX1_keep_20 : decode cX1_keep 20 = .ok (.aload_n 0, 1) := by decide +kernel
theorem dX1_keep_21 : decode cX1_keep 21 = .ok (.dup, 1) := by decide +kernel
theorem dX1_keep_22 : decode cX1_keep 22 = .ok (.getfield 18, 3) := by decide +kernel
theorem dX1_keep_25 : decode cX1_keep 25 = .ok (.iconst 1, 1) := by decide +kernel
theorem dX1_keep_26 : decode cX1_keep 26 = .ok (.isub, 1) := by decide +kernel
theorem dX1_keep_27 : decode cX1_keep 27 = .ok (.putfield 18, 3) := by decide +kernel
theorem dX1_keep_30 : decode cX1_keep 30 = .ok (.aload_n 0, 1) := by decide +kernel
theorem dX1_keep_31 : decode cX1_keep 31 = .ok (.aload_n 0, 1) := by decide +kernel
theorem dX1_keep_32 : decode cX1_keep 32 = .ok (.getfield 18, 3) := by decide +kernel
theorem dX1_keep_35 : decode cX1_keep 35 = .ok (.invokevirtual 25, 3) := by decide +kernel
theorem dX1_keep_38 : decode cX1_keep 38 = .ok (.astore_n 2, 1) := by decide +kernel
theorem dX1_keep_39 : decode cX1_keep 39 = .ok (.aload_n 2, 1) := by decide +kernel
theorem dX1_keep_40 : decode cX1_keep 40 = .ok (.ifnull 18, 3) := by decide +kernel
theorem dX1_keep_43 : decode cX1_keep 43 = .ok (.aload_n 2, 1) := by decide +kernel
theorem dX1_keep_44 : decode cX1_keep 44 = .ok (.aload_n 1, 1) := by decide +kernel
theorem dX1_keep_45 : decode cX1_keep 45 = .ok (.invokevirtual 29, 3) := by decide +kernel
theorem dX1_keep_48 : decode cX1_keep 48 = .ok (.aload_n 0, 1) := by decide +kernel
theorem dX1_keep_49 : decode cX1_keep 49 = .ok (.dup, 1) := by decide +kernel
theorem dX1_keep_50 : decode cX1_keep 50 = .ok (.getfield 18, 3) := by decide +kernel
theorem dX1_keep_53 : decode cX1_keep 53 = .ok (.iconst 1, 1) := by decide +kernel
theorem dX1_keep_54 : decode cX1_keep 54 = .ok (.iadd, 1) := by decide +kernel
theorem dX1_keep_55 : decode cX1_keep 55 = .ok (.putfield 18, 3) := by decide +kernel
theorem dX1_keep_58 : decode cX1_keep 58 = .ok (.return_, 1) := by decide +kernel
theorem dX1_restore_0 : decode cX1_restore 0 = .ok (.aload_n 0, 1) := by decide +kernel
theorem dX1_restore_1 : decode cX1_restore 1 = .ok (.aload_n 0, 1) := by decide +kernel
theorem dX1_restore_2 : decode cX1_restore 2 = .ok (.getfield 18, 3) := by decide +kernel
theorem dX1_restore_5 : decode cX1_restore 5 = .ok (.iconst 1, 1) := by decide +kernel
theorem dX1_restore_6 : decode cX1_restore 6 = .ok (.isub, 1) := by decide +kernel
theorem dX1_restore_7 : decode cX1_restore 7 = .ok (.invokevirtual 25, 3) := by decide +kernel
theorem dX1_restore_10 : decode cX1_restore 10 = .ok (.astore_n 2, 1) := by decide +kernel
theorem dX1_restore_11 : decode cX1_restore 11 = .ok (.aload_n 2, 1) := by decide +kernel
theorem dX1_restore_12 : decode cX1_restore 12 = .ok (.ifnull 18, 3) := by decide +kernel
theorem dX1_restore_15 : decode cX1_restore 15 = .ok (.aload_n 1, 1) := by decide +kernel
theorem dX1_restore_16 : decode cX1_restore 16 = .ok (.aload_n 2, 1) := by decide +kernel
theorem dX1_restore_17 : decode cX1_restore 17 = .ok (.invokevirtual 29, 3) := by decide +kernel
theorem dX1_restore_20 : decode cX1_restore 20 = .ok (.aload_n 0, 1) := by decide +kernel
theorem dX1_restore_21 : decode cX1_restore 21 = .ok (.dup, 1) := by decide +kernel
theorem dX1_restore_22 : decode cX1_restore 22 = .ok (.getfield 18, 3) := by decide +kernel
theorem dX1_restore_25 : decode cX1_restore 25 = .ok (.iconst 1, 1) := by decide +kernel
theorem dX1_restore_26 : decode cX1_restore 26 = .ok (.isub, 1) := by decide +kernel
theorem dX1_restore_27 : decode cX1_restore 27 = .ok (.putfield 18, 3) := by decide +kernel
theorem dX1_restore_30 : decode cX1_restore 30 = .ok (.return_, 1) := by decide +kernel
theorem dX1_stateAt_0 : decode cX1_stateAt 0 = .ok (.iload_n 1, 1) := by decide +kernel
theorem dX1_stateAt_1 : decode cX1_stateAt 1 = .ok (.ifCond .lt 8, 3) := by decide +kernel
theorem dX1_stateAt_4 : decode cX1_stateAt 4 = .ok (.iload_n 1, 1) := by decide +kernel
theorem dX1_stateAt_5 : decode cX1_stateAt 5 = .ok (.iconst 4, 1) := by decide +kernel
theorem dX1_stateAt_6 : decode cX1_stateAt 6 = .ok (.if_icmp .lt 5, 3) := by decide +kernel
theorem dX1_stateAt_9 : decode cX1_stateAt 9 = .ok (.aconst_null, 1) := by decide +kernel
theorem dX1_stateAt_10 : decode cX1_stateAt 10 = .ok (.areturn, 1) := by decide +kernel
theorem dX1_stateAt_11 : decode cX1_stateAt 11 = .ok (.aload_n 0, 1) := by decide +kernel
theorem dX1_stateAt_12 : decode cX1_stateAt 12 = .ok (.getfield 22, 3) := by decide +kernel
theorem dX1_stateAt_15 : decode cX1_stateAt 15 = .ok (.iload_n 1, 1) := by decide +kernel
theorem dX1_stateAt_16 : decode cX1_stateAt 16 = .ok (.iadd, 1) := by decide +kernel
theorem dX1_stateAt_17 : decode cX1_stateAt 17 = .ok (.iconst 4, 1) := by decide +kernel
theorem dX1_stateAt_18 : decode cX1_stateAt 18 = .ok (.irem, 1) := by decide +kernel
theorem dX1_stateAt_19 : decode cX1_stateAt 19 = .ok (.istore_n 2, 1) := by decide +kernel
theorem dX1_stateAt_20 : decode cX1_stateAt 20 = .ok (.iload_n 2, 1) := by decide +kernel
theorem dX1_stateAt_21 : decode cX1_stateAt 21 = .ok (.ifCond .lt 12, 3) := by decide +kernel
theorem dX1_stateAt_24 : decode cX1_stateAt 24 = .ok (.iload_n 2, 1) := by decide +kernel
theorem dX1_stateAt_25 : decode cX1_stateAt 25 = .ok (.aload_n 0, 1) := by decide +kernel
theorem dX1_stateAt_26 : decode cX1_stateAt 26 = .ok (.getfield 11, 3) := by decide +kernel
theorem dX1_stateAt_29 : decode cX1_stateAt 29 = .ok (.arraylength, 1) := by decide +kernel
theorem dX1_stateAt_30 : decode cX1_stateAt 30 = .ok (.if_icmp .lt 7, 3) := by decide +kernel
theorem dX1_stateAt_33 : decode cX1_stateAt 33 = .ok (.aconst_null, 1) := by decide +kernel
theorem dX1_stateAt_34 : decode cX1_stateAt 34 = .ok (.goto 9, 3) := by decide +kernel
theorem dX1_stateAt_37 : decode cX1_stateAt 37 = .ok (.aload_n 0, 1) := by decide +kernel
theorem dX1_stateAt_38 : decode cX1_stateAt 38 = .ok (.getfield 11, 3) := by decide +kernel
theorem dX1_stateAt_41 : decode cX1_stateAt 41 = .ok (.iload_n 2, 1) := by decide +kernel
theorem dX1_stateAt_42 : decode cX1_stateAt 42 = .ok (.aaload, 1) := by decide +kernel
theorem dX1_stateAt_43 : decode cX1_stateAt 43 = .ok (.areturn, 1) := by decide +kernel
theorem dX2_init_0 : decode cX2_init 0 = .ok (.aload_n 0, 1) := by decide +kernel
theorem dX2_init_1 : decode cX2_init 1 = .ok (.invokespecial 3, 3) := by decide +kernel
theorem dX2_init_4 : decode cX2_init 4 = .ok (.aload_n 0, 1) := by decide +kernel
theorem dX2_init_5 : decode cX2_init 5 = .ok (.new 9, 3) := by decide +kernel
theorem dX2_init_8 : decode cX2_init 8 = .ok (.dup, 1) := by decide +kernel
theorem dX2_init_9 : decode cX2_init 9 = .ok (.invokespecial 11, 3) := by decide +kernel
theorem dX2_init_12 : decode cX2_init 12 = .ok (.putfield 12, 3) := by decide +kernel
theorem dX2_init_15 : decode cX2_init 15 = .ok (.aload_n 0, 1) := by decide +kernel
theorem dX2_init_16 : decode cX2_init 16 = .ok (.new 18, 3) := by decide +kernel
theorem dX2_init_19 : decode cX2_init 19 = .ok (.dup, 1) := by decide +kernel
theorem dX2_init_20 : decode cX2_init 20 = .ok (.sipush 613, 3) := by decide +kernel
theorem dX2_init_23 : decode cX2_init 23 = .ok (.bipush 8, 2) := by decide +kernel
theorem dX2_init_25 : decode cX2_init 25 = .ok (.invokespecial 20, 3) := by decide +kernel
theorem dX2_init_28 : decode cX2_init 28 = .ok (.putfield 23, 3) := by decide +kernel
theorem dX2_init_31 : decode cX2_init 31 = .ok (.aload_n 0, 1) := by decide +kernel
theorem dX2_init_32 : decode cX2_init 32 = .ok (.new 18, 3) := by decide +kernel
theorem dX2_init_35 : decode cX2_init 35 = .ok (.dup, 1) := by decide +kernel
theorem dX2_init_36 : decode cX2_init 36 = .ok (.sipush 612, 3) := by decide +kernel
theorem dX2_init_39 : decode cX2_init 39 = .ok (.iconst 5, 1) := by decide +kernel
theorem dX2_init_40 : decode cX2_init 40 = .ok (.invokespecial 20, 3) := by decide +kernel
theorem dX2_init_43 : decode cX2_init 43 = .ok (.putfield 27, 3) := by decide +kernel
theorem dX2_init_46 : decode cX2_init 46 = .ok (.aload_n 0, 1) := by decide +kernel
theorem dX2_init_47 : decode cX2_init 47 = .ok (.new 18, 3) := by decide +kernel
theorem dX2_init_50 : decode cX2_init 50 = .ok (.dup, 1) := by decide +kernel
theorem dX2_init_51 : decode cX2_init 51 = .ok (.bipush 100, 2) := by decide +kernel
theorem dX2_init_53 : decode cX2_init 53 = .ok (.iconst 3, 1) := by decide +kernel
theorem dX2_init_54 : decode cX2_init 54 = .ok (.invokespecial 20, 3) := by decide +kernel
theorem dX2_init_57 : decode cX2_init 57 = .ok (.putfield 30, 3) := by decide +kernel
theorem dX2_init_60 : decode cX2_init 60 = .ok (.aload_n 0, 1) := by decide +kernel
theorem dX2_init_61 : decode cX2_init 61 = .ok (.new 18, 3) := by decide +kernel
theorem dX2_init_64 : decode cX2_init 64 = .ok (.dup, 1) := by decide +kernel
theorem dX2_init_65 : decode cX2_init 65 = .ok (.bipush 100, 2) := by decide +kernel
theorem dX2_init_67 : decode cX2_init 67 = .ok (.iconst 1, 1) := by decide +kernel
theorem dX2_init_68 : decode cX2_init 68 = .ok (.invokespecial 20, 3) := by decide +kernel
theorem dX2_init_71 : decode cX2_init 71 = .ok (.putfield 33, 3) := by decide +kernel
theorem dX2_init_74 : decode cX2_init 74 = .ok (.aload_n 0, 1) := by decide +kernel
theorem dX2_init_75 : decode cX2_init 75 = .ok (.new 18, 3) := by decide +kernel
theorem dX2_init_78 : decode cX2_init 78 = .ok (.dup, 1) := by decide +kernel
theorem dX2_init_79 : decode cX2_init 79 = .ok (.bipush 100, 2) := by decide +kernel
theorem dX2_init_81 : decode cX2_init 81 = .ok (.iconst 1, 1) := by decide +kernel
theorem dX2_init_82 : decode cX2_init 82 = .ok (.invokespecial 20, 3) := by decide +kernel
theorem dX2_init_85 : decode cX2_init 85 = .ok (.putfield 36, 3) := by decide +kernel
theorem dX2_init_88 : decode cX2_init 88 = .ok (.aload_n 0, 1) := by decide +kernel
theorem dX2_init_89 : decode cX2_init 89 = .ok (.new 18, 3) := by decide +kernel
theorem dX2_init_92 : decode cX2_init 92 = .ok (.dup, 1) := by decide +kernel
theorem dX2_init_93 : decode cX2_init 93 = .ok (.bipush 16, 2) := by decide +kernel
theorem dX2_init_95 : decode cX2_init 95 = .ok (.iconst 2, 1) := by decide +kernel
theorem dX2_init_96 : decode cX2_init 96 = .ok (.invokespecial 20, 3) := by decide +kernel
theorem dX2_init_99 : decode cX2_init 99 = .ok (.putfield 39, 3) := by decide +kernel
theorem dX2_init_102 : decode cX2_init 102 = .ok (.aload_n 0, 1) := by decide +kernel
theorem dX2_init_103 : decode cX2_init 103 = .ok (.new 18, 3) := by decide +kernel
theorem dX2_init_106 : decode cX2_init 106 = .ok (.dup, 1) := by decide +kernel
theorem dX2_init_107 : decode cX2_init 107 = .ok (.sipush 1600, 3) := by decide +kernel
theorem dX2_init_110 : decode cX2_init 110 = .ok (.iconst 1, 1) := by decide +kernel
theorem dX2_init_111 : decode cX2_init 111 = .ok (.invokespecial 20, 3) := by decide +kernel
theorem dX2_init_114 : decode cX2_init 114 = .ok (.putfield 42, 3) := by decide +kernel
theorem dX2_init_117 : decode cX2_init 117 = .ok (.return_, 1) := by decide +kernel
theorem dX2_forget_0 : decode cX2_forget 0 = .ok (.aload_n 0, 1) := by decide +kernel
theorem dX2_forget_1 : decode cX2_forget 1 = .ok (.iconst 0, 1) := by decide +kernel
theorem dX2_forget_2 : decode cX2_forget 2 = .ok (.putfield 45, 3) := by decide +kernel
theorem dX2_forget_5 : decode cX2_forget 5 = .ok (.return_, 1) := by decide +kernel
theorem dX2_run_0 : decode cX2_run 0 = .ok (.iload_n 2, 1) := by decide +kernel
theorem dX2_run_1 : decode cX2_run 1 = .ok (.iconst 1, 1) := by decide +kernel
theorem dX2_run_2 : decode cX2_run 2 = .ok (.if_icmp .lt 19, 3) := by decide +kernel
theorem dX2_run_5 : decode cX2_run 5 = .ok (.aload_n 0, 1) := by decide +kernel
theorem dX2_run_6 : decode cX2_run 6 = .ok (.getfield 45, 3) := by decide +kernel
theorem dX2_run_9 : decode cX2_run 9 = .ok (.iload_n 1, 1) := by decide +kernel
theorem dX2_run_10 : decode cX2_run 10 = .ok (.if_icmp .ne 12, 3) := by decide +kernel
theorem dX2_run_13 : decode cX2_run 13 = .ok (.aload_n 0, 1) := by decide +kernel
theorem dX2_run_14 : decode cX2_run 14 = .ok (.getfield 49, 3) := by decide +kernel
theorem dX2_run_17 : decode cX2_run 17 = .ok (.iload_n 2, 1) := by decide +kernel
theorem dX2_run_18 : decode cX2_run 18 = .ok (.if_icmp .ne 4, 3) := by decide +kernel
theorem dX2_run_21 : decode cX2_run 21 = .ok (.return_, 1) := by decide +kernel
theorem dX2_run_22 : decode cX2_run 22 = .ok (.aload_n 0, 1) := by decide +kernel
theorem dX2_run_23 : decode cX2_run 23 = .ok (.iload_n 1, 1) := by decide +kernel
theorem dX2_run_24 : decode cX2_run 24 = .ok (.putfield 45, 3) := by decide +kernel
theorem dX2_run_27 : decode cX2_run 27 = .ok (.aload_n 0, 1) := by decide +kernel
theorem dX2_run_28 : decode cX2_run 28 = .ok (.iload_n 2, 1) := by decide +kernel
theorem dX2_run_29 : decode cX2_run 29 = .ok (.putfield 49, 3) := by decide +kernel
theorem dX2_run_32 : decode cX2_run 32 = .ok (.aload_n 0, 1) := by decide +kernel
theorem dX2_run_33 : decode cX2_run 33 = .ok (.bipush 16, 2) := by decide +kernel
theorem dX2_run_35 : decode cX2_run 35 = .ok (.iload_n 2, 1) := by decide +kernel
theorem dX2_run_36 : decode cX2_run 36 = .ok (.idiv, 1) := by decide +kernel
theorem dX2_run_37 : decode cX2_run 37 = .ok (.iconst 1, 1) := by decide +kernel
theorem dX2_run_38 : decode cX2_run 38 = .ok (.isub, 1) := by decide +kernel
theorem dX2_run_39 : decode cX2_run 39 = .ok (.putfield 52, 3) := by decide +kernel
theorem dX2_run_42 : decode cX2_run 42 = .ok (.aload_n 0, 1) := by decide +kernel
theorem dX2_run_43 : decode cX2_run 43 = .ok (.iconst 0, 1) := by decide +kernel
theorem dX2_run_44 : decode cX2_run 44 = .ok (.putfield 55, 3) := by decide +kernel
theorem dX2_run_47 : decode cX2_run 47 = .ok (.aload_n 0, 1) := by decide +kernel
theorem dX2_run_48 : decode cX2_run 48 = .ok (.getfield 23, 3) := by decide +kernel
theorem dX2_run_51 : decode cX2_run 51 = .ok (.iconst 0, 1) := by decide +kernel
theorem dX2_run_52 : decode cX2_run 52 = .ok (.invokevirtual 58, 3) := by decide +kernel
theorem dX2_run_55 : decode cX2_run 55 = .ok (.aload_n 0, 1) := by decide +kernel
theorem dX2_run_56 : decode cX2_run 56 = .ok (.getfield 27, 3) := by decide +kernel
theorem dX2_run_59 : decode cX2_run 59 = .ok (.iconst 0, 1) := by decide +kernel
theorem dX2_run_60 : decode cX2_run 60 = .ok (.invokevirtual 58, 3) := by decide +kernel
theorem dX2_run_63 : decode cX2_run 63 = .ok (.aload_n 0, 1) := by decide +kernel
theorem dX2_run_64 : decode cX2_run 64 = .ok (.getfield 33, 3) := by decide +kernel
theorem dX2_run_67 : decode cX2_run 67 = .ok (.iconst 0, 1) := by decide +kernel
theorem dX2_run_68 : decode cX2_run 68 = .ok (.invokevirtual 58, 3) := by decide +kernel
theorem dX2_run_71 : decode cX2_run 71 = .ok (.aload_n 0, 1) := by decide +kernel
theorem dX2_run_72 : decode cX2_run 72 = .ok (.getfield 30, 3) := by decide +kernel
theorem dX2_run_75 : decode cX2_run 75 = .ok (.aload_n 0, 1) := by decide +kernel
theorem dX2_run_76 : decode cX2_run 76 = .ok (.getfield 12, 3) := by decide +kernel
theorem dX2_run_79 : decode cX2_run 79 = .ok (.getfield 62, 3) := by decide +kernel
theorem dX2_run_82 : decode cX2_run 82 = .ok (.invokevirtual 65, 3) := by decide +kernel
theorem dX2_run_85 : decode cX2_run 85 = .ok (.invokevirtual 69, 3) := by decide +kernel
theorem dX2_run_88 : decode cX2_run 88 = .ok (.aload_n 0, 1) := by decide +kernel
theorem dX2_run_89 : decode cX2_run 89 = .ok (.getfield 42, 3) := by decide +kernel
theorem dX2_run_92 : decode cX2_run 92 = .ok (.aload_n 0, 1) := by decide +kernel
theorem dX2_run_93 : decode cX2_run 93 = .ok (.getfield 12, 3) := by decide +kernel
theorem dX2_run_96 : decode cX2_run 96 = .ok (.getfield 72, 3) := by decide +kernel
theorem dX2_run_99 : decode cX2_run 99 = .ok (.invokevirtual 75, 3) := by decide +kernel
theorem dX2_run_102 : decode cX2_run 102 = .ok (.aload_n 0, 1) := by decide +kernel
theorem dX2_run_103 : decode cX2_run 103 = .ok (.iconst 0, 1) := by decide +kernel
theorem dX2_run_104 : decode cX2_run 104 = .ok (.iconst 0, 1) := by decide +kernel
theorem dX2_run_105 : decode cX2_run 105 = .ok (.iconst 0, 1) := by decide +kernel
theorem dX2_run_106 : decode cX2_run 106 = .ok (.invokevirtual 79, 3) := by decide +kernel
theorem dX2_run_109 : decode cX2_run 109 = .ok (.return_, 1) := by decide +kernel
theorem dX2_find_0 : decode cX2_find 0 = .ok (.iconst 0, 1) := by decide +kernel
theorem dX2_find_1 : decode cX2_find 1 = .ok (.istore_n 3, 1) := by decide +kernel
theorem dX2_find_2 : decode cX2_find 2 = .ok (.iload_n 3, 1) := by decide +kernel
theorem dX2_find_3 : decode cX2_find 3 = .ok (.aload_n 0, 1) := by decide +kernel
theorem dX2_find_4 : decode cX2_find 4 = .ok (.getfield 23, 3) := by decide +kernel
theorem dX2_find_7 : decode cX2_find 7 = .ok (.invokevirtual 65, 3) := by decide +kernel
theorem dX2_find_10 : decode cX2_find 10 = .ok (.if_icmp .ge 39, 3) := by decide +kernel
theorem dX2_find_13 : decode cX2_find 13 = .ok (.aload_n 0, 1) := by decide +kernel
theorem dX2_find_14 : decode cX2_find 14 = .ok (.getfield 23, 3) := by decide +kernel
theorem dX2_find_17 : decode cX2_find 17 = .ok (.iload_n 3, 1) := by decide +kernel
theorem dX2_find_18 : decode cX2_find 18 = .ok (.bipush 6, 2) := by decide +kernel
theorem dX2_find_20 : decode cX2_find 20 = .ok (.invokevirtual 83, 3) := by decide +kernel
theorem dX2_find_23 : decode cX2_find 23 = .ok (.iload_n 1, 1) := by decide +kernel
theorem dX2_find_24 : decode cX2_find 24 = .ok (.if_icmp .ne 19, 3) := by decide +kernel
theorem dX2_find_27 : decode cX2_find 27 = .ok (.aload_n 0, 1) := by decide +kernel
theorem dX2_find_28 : decode cX2_find 28 = .ok (.getfield 23, 3) := by decide +kernel
theorem dX2_find_31 : decode cX2_find 31 = .ok (.iload_n 3, 1) := by decide +kernel
theorem dX2_find_32 : decode cX2_find 32 = .ok (.bipush 7, 2) := by decide +kernel
theorem dX2_find_34 : decode cX2_find 34 = .ok (.invokevirtual 83, 3) := by decide +kernel
theorem dX2_find_37 : decode cX2_find 37 = .ok (.iload_n 2, 1) := by decide +kernel
theorem dX2_find_38 : decode cX2_find 38 = .ok (.if_icmp .ne 5, 3) := by decide +kernel
theorem dX2_find_41 : decode cX2_find 41 = .ok (.iload_n 3, 1) := by decide +kernel
theorem dX2_find_42 : decode cX2_find 42 = .ok (.ireturn, 1) := by decide +kernel
theorem dX2_find_43 : decode cX2_find 43 = .ok (.iinc 3 1, 3) := by decide +kernel
theorem dX2_find_46 : decode cX2_find 46 = .ok (.goto (-44), 3) := by decide +kernel
theorem dX2_find_49 : decode cX2_find 49 = .ok (.iconst (-1), 1) := by decide +kernel
theorem dX2_find_50 : decode cX2_find 50 = .ok (.ireturn, 1) := by decide +kernel
theorem dX2_itemsFiled_0 : decode cX2_itemsFiled 0 = .ok (.aload_n 0, 1) := by decide +kernel
theorem dX2_itemsFiled_1 : decode cX2_itemsFiled 1 = .ok (.getfield 23, 3) := by decide +kernel
theorem dX2_itemsFiled_4 : decode cX2_itemsFiled 4 = .ok (.iconst 3, 1) := by decide +kernel
theorem dX2_itemsFiled_5 : decode cX2_itemsFiled 5 = .ok (.invokevirtual 87, 3) := by decide +kernel
theorem dX2_itemsFiled_8 : decode cX2_itemsFiled 8 = .ok (.ireturn, 1) := by decide +kernel
theorem dX2_itemsRead_0 : decode cX2_itemsRead 0 = .ok (.aload_n 0, 1) := by decide +kernel
theorem dX2_itemsRead_1 : decode cX2_itemsRead 1 = .ok (.getfield 23, 3) := by decide +kernel
theorem dX2_itemsRead_4 : decode cX2_itemsRead 4 = .ok (.iconst 0, 1) := by decide +kernel
theorem dX2_itemsRead_5 : decode cX2_itemsRead 5 = .ok (.invokevirtual 87, 3) := by decide +kernel
theorem dX2_itemsRead_8 : decode cX2_itemsRead 8 = .ok (.aload_n 0, 1) := by decide +kernel
theorem dX2_itemsRead_9 : decode cX2_itemsRead 9 = .ok (.getfield 23, 3) := by decide +kernel
theorem dX2_itemsRead_12 : decode cX2_itemsRead 12 = .ok (.iconst 0, 1) := by decide +kernel
theorem dX2_itemsRead_13 : decode cX2_itemsRead 13 = .ok (.iconst 0, 1) := by decide +kernel
theorem dX2_itemsRead_14 : decode cX2_itemsRead 14 = .ok (.invokevirtual 83, 3) := by decide +kernel
theorem dX2_itemsRead_17 : decode cX2_itemsRead 17 = .ok (.isub, 1) := by decide +kernel
theorem dX2_itemsRead_18 : decode cX2_itemsRead 18 = .ok (.ireturn, 1) := by decide +kernel
theorem dX2_runPass_0 : decode cX2_runPass 0 = .ok (.iload_n 1, 1) := by decide +kernel
theorem dX2_runPass_1 : decode cX2_runPass 1 = .ok (.aload_n 0, 1) := by decide +kernel
theorem dX2_runPass_2 : decode cX2_runPass 2 = .ok (.getfield 52, 3) := by decide +kernel
theorem dX2_runPass_5 : decode cX2_runPass 5 = .ok (.if_icmp .le 4, 3) := by decide +kernel
theorem dX2_runPass_8 : decode cX2_runPass 8 = .ok (.return_, 1) := by decide +kernel
theorem dX2_runPass_9 : decode cX2_runPass 9 = .ok (.aload_n 0, 1) := by decide +kernel
theorem dX2_runPass_10 : decode cX2_runPass 10 = .ok (.getfield 23, 3) := by decide +kernel
theorem dX2_runPass_13 : decode cX2_runPass 13 = .ok (.iconst 0, 1) := by decide +kernel
theorem dX2_runPass_14 : decode cX2_runPass 14 = .ok (.invokevirtual 91, 3) := by decide +kernel
theorem dX2_runPass_17 : decode cX2_runPass 17 = .ok (.istore 4, 2) := by decide +kernel
theorem dX2_runPass_19 : decode cX2_runPass 19 = .ok (.aload_n 0, 1) := by decide +kernel
theorem dX2_runPass_20 : decode cX2_runPass 20 = .ok (.getfield 23, 3) := by decide +kernel
theorem dX2_runPass_23 : decode cX2_runPass 23 = .ok (.iload 4, 2) := by decide +kernel
theorem dX2_runPass_25 : decode cX2_runPass 25 = .ok (.iconst 5, 1) := by decide +kernel
theorem dX2_runPass_26 : decode cX2_runPass 26 = .ok (.iload 4, 2) := by decide +kernel
theorem dX2_runPass_28 : decode cX2_runPass 28 = .ok (.invokevirtual 94, 3) := by decide +kernel
theorem dX2_runPass_31 : decode cX2_runPass 31 = .ok (.aload_n 0, 1) := by decide +kernel
theorem dX2_runPass_32 : decode cX2_runPass 32 = .ok (.getfield 23, 3) := by decide +kernel
theorem dX2_runPass_35 : decode cX2_runPass 35 = .ok (.iload 4, 2) := by decide +kernel
theorem dX2_runPass_37 : decode cX2_runPass 37 = .ok (.bipush 6, 2) := by decide +kernel
theorem dX2_runPass_39 : decode cX2_runPass 39 = .ok (.iload_n 1, 1) := by decide +kernel
theorem dX2_runPass_40 : decode cX2_runPass 40 = .ok (.invokevirtual 94, 3) := by decide +kernel
theorem dX2_runPass_43 : decode cX2_runPass 43 = .ok (.aload_n 0, 1) := by decide +kernel
theorem dX2_runPass_44 : decode cX2_runPass 44 = .ok (.getfield 23, 3) := by decide +kernel
theorem dX2_runPass_47 : decode cX2_runPass 47 = .ok (.iload 4, 2) := by decide +kernel
theorem dX2_runPass_49 : decode cX2_runPass 49 = .ok (.bipush 7, 2) := by decide +kernel
theorem dX2_runPass_51 : decode cX2_runPass 51 = .ok (.iload_n 2, 1) := by decide +kernel
theorem dX2_runPass_52 : decode cX2_runPass 52 = .ok (.invokevirtual 94, 3) := by decide +kernel
theorem dX2_runPass_55 : decode cX2_runPass 55 = .ok (.aload_n 0, 1) := by decide +kernel
theorem dX2_runPass_56 : decode cX2_runPass 56 = .ok (.getfield 39, 3) := by decide +kernel
theorem dX2_runPass_59 : decode cX2_runPass 59 = .ok (.iconst 1, 1) := by decide +kernel
theorem dX2_runPass_60 : decode cX2_runPass 60 = .ok (.aload_n 0, 1) := by decide +kernel
theorem dX2_runPass_61 : decode cX2_runPass 61 = .ok (.getfield 49, 3) := by decide +kernel
theorem dX2_runPass_64 : decode cX2_runPass 64 = .ok (.ishl, 1) := by decide +kernel
theorem dX2_runPass_65 : decode cX2_runPass 65 = .ok (.invokevirtual 69, 3) := by decide +kernel
theorem dX2_runPass_68 : decode cX2_runPass 68 = .ok (.aload_n 0, 1) := by decide +kernel
theorem dX2_runPass_69 : decode cX2_runPass 69 = .ok (.getfield 42, 3) := by decide +kernel
theorem dX2_runPass_72 : decode cX2_runPass 72 = .ok (.invokevirtual 65, 3) := by decide +kernel
theorem dX2_runPass_75 : decode cX2_runPass 75 = .ok (.istore 5, 2) := by decide +kernel
theorem dX2_runPass_77 : decode cX2_runPass 77 = .ok (.iload_n 3, 1) := by decide +kernel
theorem dX2_runPass_78 : decode cX2_runPass 78 = .ok (.istore 6, 2) := by decide +kernel
theorem dX2_runPass_80 : decode cX2_runPass 80 = .ok (.iload 6, 2) := by decide +kernel
theorem dX2_runPass_82 : decode cX2_runPass 82 = .ok (.iload 5, 2) := by decide +kernel
theorem dX2_runPass_84 : decode cX2_runPass 84 = .ok (.if_icmp .ge 63, 3) := by decide +kernel
theorem dX2_runPass_87 : decode cX2_runPass 87 = .ok (.aload_n 0, 1) := by decide +kernel
theorem dX2_runPass_88 : decode cX2_runPass 88 = .ok (.getfield 42, 3) := by decide +kernel
theorem dX2_runPass_91 : decode cX2_runPass 91 = .ok (.iload 6, 2) := by decide +kernel
theorem dX2_runPass_93 : decode cX2_runPass 93 = .ok (.iconst 0, 1) := by decide +kernel
theorem dX2_runPass_94 : decode cX2_runPass 94 = .ok (.invokevirtual 83, 3) := by decide +kernel
theorem dX2_runPass_97 : decode cX2_runPass 97 = .ok (.istore 7, 2) := by decide +kernel
theorem dX2_runPass_99 : decode cX2_runPass 99 = .ok (.aload_n 0, 1) := by decide +kernel
theorem dX2_runPass_100 : decode cX2_runPass 100 = .ok (.iload 7, 2) := by decide +kernel
theorem dX2_runPass_102 : decode cX2_runPass 102 = .ok (.iload_n 1, 1) := by decide +kernel
theorem dX2_runPass_103 : decode cX2_runPass 103 = .ok (.invokevirtual 97, 3) := by decide +kernel
theorem dX2_runPass_106 : decode cX2_runPass 106 = .ok (.iload_n 2, 1) := by decide +kernel
theorem dX2_runPass_107 : decode cX2_runPass 107 = .ok (.if_icmp .ne 34, 3) := by decide +kernel
theorem dX2_runPass_110 : decode cX2_runPass 110 = .ok (.aload_n 0, 1) := by decide +kernel
theorem dX2_runPass_111 : decode cX2_runPass 111 = .ok (.iload 4, 2) := by decide +kernel
theorem dX2_runPass_113 : decode cX2_runPass 113 = .ok (.iload_n 1, 1) := by decide +kernel
theorem dX2_runPass_114 : decode cX2_runPass 114 = .ok (.iload 7, 2) := by decide +kernel
theorem dX2_runPass_116 : decode cX2_runPass 116 = .ok (.invokevirtual 100, 3) := by decide +kernel
theorem dX2_runPass_119 : decode cX2_runPass 119 = .ok (.ifCond .eq 13, 3) := by decide +kernel
theorem dX2_runPass_122 : decode cX2_runPass 122 = .ok (.aload_n 0, 1) := by decide +kernel
theorem dX2_runPass_123 : decode cX2_runPass 123 = .ok (.iload 4, 2) := by decide +kernel
theorem dX2_runPass_125 : decode cX2_runPass 125 = .ok (.aload_n 0, 1) := by decide +kernel
theorem dX2_runPass_126 : decode cX2_runPass 126 = .ok (.invokevirtual 104, 3) := by decide +kernel
theorem dX2_runPass_129 : decode cX2_runPass 129 = .ok (.invokevirtual 107, 3) := by decide +kernel
theorem dX2_runPass_132 : decode cX2_runPass 132 = .ok (.aload_n 0, 1) := by decide +kernel
theorem dX2_runPass_133 : decode cX2_runPass 133 = .ok (.iload 4, 2) := by decide +kernel
theorem dX2_runPass_135 : decode cX2_runPass 135 = .ok (.iload_n 1, 1) := by decide +kernel
theorem dX2_runPass_136 : decode cX2_runPass 136 = .ok (.iload 7, 2) := by decide +kernel
theorem dX2_runPass_138 : decode cX2_runPass 138 = .ok (.invokevirtual 110, 3) := by decide +kernel
theorem dX2_runPass_141 : decode cX2_runPass 141 = .ok (.iinc 6 1, 3) := by decide +kernel
theorem dX2_runPass_144 : decode cX2_runPass 144 = .ok (.goto (-64), 3) := by decide +kernel
theorem dX2_runPass_147 : decode cX2_runPass 147 = .ok (.aload_n 0, 1) := by decide +kernel
theorem dX2_runPass_148 : decode cX2_runPass 148 = .ok (.iload 4, 2) := by decide +kernel
theorem dX2_runPass_150 : decode cX2_runPass 150 = .ok (.iload_n 1, 1) := by decide +kernel
theorem dX2_runPass_151 : decode cX2_runPass 151 = .ok (.iload_n 2, 1) := by decide +kernel
theorem dX2_runPass_152 : decode cX2_runPass 152 = .ok (.invokevirtual 113, 3) := by decide +kernel
theorem dX2_runPass_155 : decode cX2_runPass 155 = .ok (.aload_n 0, 1) := by decide +kernel
theorem dX2_runPass_156 : decode cX2_runPass 156 = .ok (.iload_n 1, 1) := by decide +kernel
theorem dX2_runPass_157 : decode cX2_runPass 157 = .ok (.iload_n 2, 1) := by decide +kernel
theorem dX2_runPass_158 : decode cX2_runPass 158 = .ok (.aload_n 0, 1) := by decide +kernel
theorem dX2_runPass_159 : decode cX2_runPass 159 = .ok (.getfield 23, 3) := by decide +kernel
theorem dX2_runPass_162 : decode cX2_runPass 162 = .ok (.iload 4, 2) := by decide +kernel
theorem dX2_runPass_164 : decode cX2_runPass 164 = .ok (.iconst 2, 1) := by decide +kernel
theorem dX2_runPass_165 : decode cX2_runPass 165 = .ok (.invokevirtual 83, 3) := by decide +kernel
theorem dX2_runPass_168 : decode cX2_runPass 168 = .ok (.iload 5, 2) := by decide +kernel
theorem dX2_runPass_170 : decode cX2_runPass 170 = .ok (.invokevirtual 116, 3) := by decide +kernel
theorem dX2_runPass_173 : decode cX2_runPass 173 = .ok (.aload_n 0, 1) := by decide +kernel
theorem dX2_runPass_174 : decode cX2_runPass 174 = .ok (.getfield 42, 3) := by decide +kernel
theorem dX2_runPass_177 : decode cX2_runPass 177 = .ok (.iload 5, 2) := by decide +kernel
theorem dX2_runPass_179 : decode cX2_runPass 179 = .ok (.invokevirtual 58, 3) := by decide +kernel
theorem dX2_runPass_182 : decode cX2_runPass 182 = .ok (.return_, 1) := by decide +kernel
theorem dX2_runFiles_0 : decode cX2_runFiles 0 = .ok (.iconst 0, 1) := by decide +kernel
theorem dX2_runFiles_1 : decode cX2_runFiles 1 = .ok (.istore 5, 2) := by decide +kernel
theorem dX2_runFiles_3 : decode cX2_runFiles 3 = .ok (.iload 5, 2) := by decide +kernel
theorem dX2_runFiles_5 : decode cX2_runFiles 5 = .ok (.iconst 1, 1) := by decide +kernel
theorem dX2_runFiles_6 : decode cX2_runFiles 6 = .ok (.aload_n 0, 1) := by decide +kernel
theorem dX2_runFiles_7 : decode cX2_runFiles 7 = .ok (.getfield 49, 3) := by decide +kernel
theorem dX2_runFiles_10 : decode cX2_runFiles 10 = .ok (.ishl, 1) := by decide +kernel
theorem dX2_runFiles_11 : decode cX2_runFiles 11 = .ok (.if_icmp .ge 37, 3) := by decide +kernel
theorem dX2_runFiles_14 : decode cX2_runFiles 14 = .ok (.iload_n 3, 1) := by decide +kernel
theorem dX2_runFiles_15 : decode cX2_runFiles 15 = .ok (.iload 5, 2) := by decide +kernel
theorem dX2_runFiles_17 : decode cX2_runFiles 17 = .ok (.ishr, 1) := by decide +kernel
theorem dX2_runFiles_18 : decode cX2_runFiles 18 = .ok (.iconst 1, 1) := by decide +kernel
theorem dX2_runFiles_19 : decode cX2_runFiles 19 = .ok (.iand, 1) := by decide +kernel
theorem dX2_runFiles_20 : decode cX2_runFiles 20 = .ok (.iconst 1, 1) := by decide +kernel
theorem dX2_runFiles_21 : decode cX2_runFiles 21 = .ok (.if_icmp .ne 21, 3) := by decide +kernel
theorem dX2_runFiles_24 : decode cX2_runFiles 24 = .ok (.aload_n 0, 1) := by decide +kernel
theorem dX2_runFiles_25 : decode cX2_runFiles 25 = .ok (.iload_n 1, 1) := by decide +kernel
theorem dX2_runFiles_26 : decode cX2_runFiles 26 = .ok (.iconst 1, 1) := by decide +kernel
theorem dX2_runFiles_27 : decode cX2_runFiles 27 = .ok (.iadd, 1) := by decide +kernel
theorem dX2_runFiles_28 : decode cX2_runFiles 28 = .ok (.iload_n 2, 1) := by decide +kernel
theorem dX2_runFiles_29 : decode cX2_runFiles 29 = .ok (.aload_n 0, 1) := by decide +kernel
theorem dX2_runFiles_30 : decode cX2_runFiles 30 = .ok (.getfield 49, 3) := by decide +kernel
theorem dX2_runFiles_33 : decode cX2_runFiles 33 = .ok (.ishl, 1) := by decide +kernel
theorem dX2_runFiles_34 : decode cX2_runFiles 34 = .ok (.iload 5, 2) := by decide +kernel
theorem dX2_runFiles_36 : decode cX2_runFiles 36 = .ok (.ior, 1) := by decide +kernel
theorem dX2_runFiles_37 : decode cX2_runFiles 37 = .ok (.iload 4, 2) := by decide +kernel
theorem dX2_runFiles_39 : decode cX2_runFiles 39 = .ok (.invokevirtual 79, 3) := by decide +kernel
theorem dX2_runFiles_42 : decode cX2_runFiles 42 = .ok (.iinc 5 1, 3) := by decide +kernel
theorem dX2_runFiles_45 : decode cX2_runFiles 45 = .ok (.goto (-42), 3) := by decide +kernel
theorem dX2_runFiles_48 : decode cX2_runFiles 48 = .ok (.return_, 1) := by decide +kernel
theorem dX2_needsSpill_0 : decode cX2_needsSpill 0 = .ok (.aload_n 0, 1) := by decide +kernel
theorem dX2_needsSpill_1 : decode cX2_needsSpill 1 = .ok (.getfield 36, 3) := by decide +kernel
theorem dX2_needsSpill_4 : decode cX2_needsSpill 4 = .ok (.invokevirtual 65, 3) := by decide +kernel
theorem dX2_needsSpill_7 : decode cX2_needsSpill 7 = .ok (.aload_n 0, 1) := by decide +kernel
theorem dX2_needsSpill_8 : decode cX2_needsSpill 8 = .ok (.getfield 45, 3) := by decide +kernel
theorem dX2_needsSpill_11 : decode cX2_needsSpill 11 = .ok (.if_icmp .lt 37, 3) := by decide +kernel
theorem dX2_needsSpill_14 : decode cX2_needsSpill 14 = .ok (.iload_n 2, 1) := by decide +kernel
theorem dX2_needsSpill_15 : decode cX2_needsSpill 15 = .ok (.aload_n 0, 1) := by decide +kernel
theorem dX2_needsSpill_16 : decode cX2_needsSpill 16 = .ok (.getfield 52, 3) := by decide +kernel
theorem dX2_needsSpill_19 : decode cX2_needsSpill 19 = .ok (.if_icmp .ge 29, 3) := by decide +kernel
theorem dX2_needsSpill_22 : decode cX2_needsSpill 22 = .ok (.aload_n 0, 1) := by decide +kernel
theorem dX2_needsSpill_23 : decode cX2_needsSpill 23 = .ok (.iload_n 1, 1) := by decide +kernel
theorem dX2_needsSpill_24 : decode cX2_needsSpill 24 = .ok (.aload_n 0, 1) := by decide +kernel
theorem dX2_needsSpill_25 : decode cX2_needsSpill 25 = .ok (.iload_n 3, 1) := by decide +kernel
theorem dX2_needsSpill_26 : decode cX2_needsSpill 26 = .ok (.iload_n 2, 1) := by decide +kernel
theorem dX2_needsSpill_27 : decode cX2_needsSpill 27 = .ok (.invokevirtual 120, 3) := by decide +kernel
theorem dX2_needsSpill_30 : decode cX2_needsSpill 30 = .ok (.invokevirtual 123, 3) := by decide +kernel
theorem dX2_needsSpill_33 : decode cX2_needsSpill 33 = .ok (.ifCond .ne 15, 3) := by decide +kernel
theorem dX2_needsSpill_36 : decode cX2_needsSpill 36 = .ok (.aload_n 0, 1) := by decide +kernel
theorem dX2_needsSpill_37 : decode cX2_needsSpill 37 = .ok (.iload_n 3, 1) := by decide +kernel
theorem dX2_needsSpill_38 : decode cX2_needsSpill 38 = .ok (.invokevirtual 127, 3) := by decide +kernel
theorem dX2_needsSpill_41 : decode cX2_needsSpill 41 = .ok (.ifCond .ne 7, 3) := by decide +kernel
theorem dX2_needsSpill_44 : decode cX2_needsSpill 44 = .ok (.iconst 1, 1) := by decide +kernel
theorem dX2_needsSpill_45 : decode cX2_needsSpill 45 = .ok (.goto 4, 3) := by decide +kernel
theorem dX2_needsSpill_48 : decode cX2_needsSpill 48 = .ok (.iconst 0, 1) := by decide +kernel
theorem dX2_needsSpill_49 : decode cX2_needsSpill 49 = .ok (.ireturn, 1) := by decide +kernel
theorem dX2_takeItem_0 : decode cX2_takeItem 0 = .ok (.aload_n 0, 1) := by decide +kernel
theorem dX2_takeItem_1 : decode cX2_takeItem 1 = .ok (.getfield 23, 3) := by decide +kernel
theorem dX2_takeItem_4 : decode cX2_takeItem 4 = .ok (.iload_n 1, 1) := by decide +kernel
theorem dX2_takeItem_5 : decode cX2_takeItem 5 = .ok (.iconst 0, 1) := by decide +kernel
theorem dX2_takeItem_6 : decode cX2_takeItem 6 = .ok (.iconst 1, 1) := by decide +kernel
theorem dX2_takeItem_7 : decode cX2_takeItem 7 = .ok (.invokevirtual 131, 3) := by decide +kernel
theorem dX2_takeItem_10 : decode cX2_takeItem 10 = .ok (.aload_n 0, 1) := by decide +kernel
theorem dX2_takeItem_11 : decode cX2_takeItem 11 = .ok (.iload_n 3, 1) := by decide +kernel
theorem dX2_takeItem_12 : decode cX2_takeItem 12 = .ok (.iload_n 2, 1) := by decide +kernel
theorem dX2_takeItem_13 : decode cX2_takeItem 13 = .ok (.invokevirtual 120, 3) := by decide +kernel
theorem dX2_takeItem_16 : decode cX2_takeItem 16 = .ok (.istore 4, 2) := by decide +kernel
theorem dX2_takeItem_18 : decode cX2_takeItem 18 = .ok (.aload_n 0, 1) := by decide +kernel
theorem dX2_takeItem_19 : decode cX2_takeItem 19 = .ok (.iload_n 1, 1) := by decide +kernel
theorem dX2_takeItem_20 : decode cX2_takeItem 20 = .ok (.iload 4, 2) := by decide +kernel
theorem dX2_takeItem_22 : decode cX2_takeItem 22 = .ok (.invokevirtual 123, 3) := by decide +kernel
theorem dX2_takeItem_25 : decode cX2_takeItem 25 = .ok (.ifCond .eq 44, 3) := by decide +kernel
theorem dX2_takeItem_28 : decode cX2_takeItem 28 = .ok (.aload_n 0, 1) := by decide +kernel
theorem dX2_takeItem_29 : decode cX2_takeItem 29 = .ok (.getfield 42, 3) := by decide +kernel
theorem dX2_takeItem_32 : decode cX2_takeItem 32 = .ok (.iload_n 3, 1) := by decide +kernel
theorem dX2_takeItem_33 : decode cX2_takeItem 33 = .ok (.invokevirtual 91, 3) := by decide +kernel
theorem dX2_takeItem_36 : decode cX2_takeItem 36 = .ok (.pop, 1) := by decide +kernel
theorem dX2_takeItem_37 : decode cX2_takeItem 37 = .ok (.aload_n 0, 1) := by decide +kernel
theorem dX2_takeItem_38 : decode cX2_takeItem 38 = .ok (.getfield 23, 3) := by decide +kernel
theorem dX2_takeItem_41 : decode cX2_takeItem 41 = .ok (.iload_n 1, 1) := by decide +kernel
theorem dX2_takeItem_42 : decode cX2_takeItem 42 = .ok (.iconst 3, 1) := by decide +kernel
theorem dX2_takeItem_43 : decode cX2_takeItem 43 = .ok (.iconst 1, 1) := by decide +kernel
theorem dX2_takeItem_44 : decode cX2_takeItem 44 = .ok (.invokevirtual 131, 3) := by decide +kernel
theorem dX2_takeItem_47 : decode cX2_takeItem 47 = .ok (.aload_n 0, 1) := by decide +kernel
theorem dX2_takeItem_48 : decode cX2_takeItem 48 = .ok (.getfield 27, 3) := by decide +kernel
theorem dX2_takeItem_51 : decode cX2_takeItem 51 = .ok (.aload_n 0, 1) := by decide +kernel
theorem dX2_takeItem_52 : decode cX2_takeItem 52 = .ok (.getfield 39, 3) := by decide +kernel
theorem dX2_takeItem_55 : decode cX2_takeItem 55 = .ok (.iload 4, 2) := by decide +kernel
theorem dX2_takeItem_57 : decode cX2_takeItem 57 = .ok (.iconst 1, 1) := by decide +kernel
theorem dX2_takeItem_58 : decode cX2_takeItem 58 = .ok (.invokevirtual 83, 3) := by decide +kernel
theorem dX2_takeItem_61 : decode cX2_takeItem 61 = .ok (.iconst 4, 1) := by decide +kernel
theorem dX2_takeItem_62 : decode cX2_takeItem 62 = .ok (.iconst 1, 1) := by decide +kernel
theorem dX2_takeItem_63 : decode cX2_takeItem 63 = .ok (.invokevirtual 131, 3) := by decide +kernel
theorem dX2_takeItem_66 : decode cX2_takeItem 66 = .ok (.goto 19, 3) := by decide +kernel
theorem dX2_takeItem_69 : decode cX2_takeItem 69 = .ok (.aload_n 0, 1) := by decide +kernel
theorem dX2_takeItem_70 : decode cX2_takeItem 70 = .ok (.iload_n 3, 1) := by decide +kernel
theorem dX2_takeItem_71 : decode cX2_takeItem 71 = .ok (.invokevirtual 127, 3) := by decide +kernel
theorem dX2_takeItem_74 : decode cX2_takeItem 74 = .ok (.ifCond .ne 11, 3) := by decide +kernel
theorem dX2_takeItem_77 : decode cX2_takeItem 77 = .ok (.aload_n 0, 1) := by decide +kernel
theorem dX2_takeItem_78 : decode cX2_takeItem 78 = .ok (.iload_n 1, 1) := by decide +kernel
theorem dX2_takeItem_79 : decode cX2_takeItem 79 = .ok (.iload 4, 2) := by decide +kernel
theorem dX2_takeItem_81 : decode cX2_takeItem 81 = .ok (.iload_n 3, 1) := by decide +kernel
theorem dX2_takeItem_82 : decode cX2_takeItem 82 = .ok (.invokevirtual 134, 3) := by decide +kernel
theorem dX2_takeItem_85 : decode cX2_takeItem 85 = .ok (.return_, 1) := by decide +kernel
theorem dX2_layGroup_0 : decode cX2_layGroup 0 = .ok (.aload_n 0, 1) := by decide +kernel
theorem dX2_layGroup_1 : decode cX2_layGroup 1 = .ok (.getfield 36, 3) := by decide +kernel
theorem dX2_layGroup_4 : decode cX2_layGroup 4 = .ok (.invokevirtual 65, 3) := by decide +kernel
theorem dX2_layGroup_7 : decode cX2_layGroup 7 = .ok (.aload_n 0, 1) := by decide +kernel
theorem dX2_layGroup_8 : decode cX2_layGroup 8 = .ok (.getfield 45, 3) := by decide +kernel
theorem dX2_layGroup_11 : decode cX2_layGroup 11 = .ok (.if_icmp .lt 13, 3) := by decide +kernel
theorem dX2_layGroup_14 : decode cX2_layGroup 14 = .ok (.aload_n 0, 1) := by decide +kernel
theorem dX2_layGroup_15 : decode cX2_layGroup 15 = .ok (.dup, 1) := by decide +kernel
theorem dX2_layGroup_16 : decode cX2_layGroup 16 = .ok (.getfield 55, 3) := by decide +kernel
theorem dX2_layGroup_19 : decode cX2_layGroup 19 = .ok (.iconst 1, 1) := by decide +kernel
theorem dX2_layGroup_20 : decode cX2_layGroup 20 = .ok (.iadd, 1) := by decide +kernel
theorem dX2_layGroup_21 : decode cX2_layGroup 21 = .ok (.putfield 55, 3) := by decide +kernel
theorem dX2_layGroup_24 : decode cX2_layGroup 24 = .ok (.aload_n 0, 1) := by decide +kernel
theorem dX2_layGroup_25 : decode cX2_layGroup 25 = .ok (.getfield 36, 3) := by decide +kernel
theorem dX2_layGroup_28 : decode cX2_layGroup 28 = .ok (.aload_n 0, 1) := by decide +kernel
theorem dX2_layGroup_29 : decode cX2_layGroup 29 = .ok (.getfield 36, 3) := by decide +kernel
theorem dX2_layGroup_32 : decode cX2_layGroup 32 = .ok (.iload_n 3, 1) := by decide +kernel
theorem dX2_layGroup_33 : decode cX2_layGroup 33 = .ok (.invokevirtual 137, 3) := by decide +kernel
theorem dX2_layGroup_36 : decode cX2_layGroup 36 = .ok (.iload_n 3, 1) := by decide +kernel
theorem dX2_layGroup_37 : decode cX2_layGroup 37 = .ok (.invokevirtual 140, 3) := by decide +kernel
theorem dX2_layGroup_40 : decode cX2_layGroup 40 = .ok (.aload_n 0, 1) := by decide +kernel
theorem dX2_layGroup_41 : decode cX2_layGroup 41 = .ok (.getfield 39, 3) := by decide +kernel
theorem dX2_layGroup_44 : decode cX2_layGroup 44 = .ok (.iload_n 2, 1) := by decide +kernel
theorem dX2_layGroup_45 : decode cX2_layGroup 45 = .ok (.iconst 0, 1) := by decide +kernel
theorem dX2_layGroup_46 : decode cX2_layGroup 46 = .ok (.iconst 1, 1) := by decide +kernel
theorem dX2_layGroup_47 : decode cX2_layGroup 47 = .ok (.invokevirtual 131, 3) := by decide +kernel
theorem dX2_layGroup_50 : decode cX2_layGroup 50 = .ok (.aload_n 0, 1) := by decide +kernel
theorem dX2_layGroup_51 : decode cX2_layGroup 51 = .ok (.getfield 23, 3) := by decide +kernel
theorem dX2_layGroup_54 : decode cX2_layGroup 54 = .ok (.iload_n 1, 1) := by decide +kernel
theorem dX2_layGroup_55 : decode cX2_layGroup 55 = .ok (.iconst 4, 1) := by decide +kernel
theorem dX2_layGroup_56 : decode cX2_layGroup 56 = .ok (.aload_n 0, 1) := by decide +kernel
theorem dX2_layGroup_57 : decode cX2_layGroup 57 = .ok (.getfield 23, 3) := by decide +kernel
theorem dX2_layGroup_60 : decode cX2_layGroup 60 = .ok (.iload_n 1, 1) := by decide +kernel
theorem dX2_layGroup_61 : decode cX2_layGroup 61 = .ok (.iconst 4, 1) := by decide +kernel
theorem dX2_layGroup_62 : decode cX2_layGroup 62 = .ok (.invokevirtual 83, 3) := by decide +kernel
theorem dX2_layGroup_65 : decode cX2_layGroup 65 = .ok (.aload_n 0, 1) := by decide +kernel
theorem dX2_layGroup_66 : decode cX2_layGroup 66 = .ok (.getfield 36, 3) := by decide +kernel
theorem dX2_layGroup_69 : decode cX2_layGroup 69 = .ok (.invokevirtual 65, 3) := by decide +kernel
theorem dX2_layGroup_72 : decode cX2_layGroup 72 = .ok (.invokestatic 143, 3) := by decide +kernel
theorem dX2_layGroup_75 : decode cX2_layGroup 75 = .ok (.invokevirtual 94, 3) := by decide +kernel
theorem dX2_layGroup_78 : decode cX2_layGroup 78 = .ok (.return_, 1) := by decide +kernel
theorem dX2_spillPart_0 : decode cX2_spillPart 0 = .ok (.aload_n 0, 1) := by decide +kernel
theorem dX2_spillPart_1 : decode cX2_spillPart 1 = .ok (.getfield 23, 3) := by decide +kernel
theorem dX2_spillPart_4 : decode cX2_spillPart 4 = .ok (.iload_n 1, 1) := by decide +kernel
theorem dX2_spillPart_5 : decode cX2_spillPart 5 = .ok (.bipush 6, 2) := by decide +kernel
theorem dX2_spillPart_7 : decode cX2_spillPart 7 = .ok (.invokevirtual 83, 3) := by decide +kernel
theorem dX2_spillPart_10 : decode cX2_spillPart 10 = .ok (.istore_n 3, 1) := by decide +kernel
theorem dX2_spillPart_11 : decode cX2_spillPart 11 = .ok (.iconst 0, 1) := by decide +kernel
theorem dX2_spillPart_12 : decode cX2_spillPart 12 = .ok (.istore 4, 2) := by decide +kernel
theorem dX2_spillPart_14 : decode cX2_spillPart 14 = .ok (.iconst 0, 1) := by decide +kernel
theorem dX2_spillPart_15 : decode cX2_spillPart 15 = .ok (.istore 5, 2) := by decide +kernel
theorem dX2_spillPart_17 : decode cX2_spillPart 17 = .ok (.iload 5, 2) := by decide +kernel
theorem dX2_spillPart_19 : decode cX2_spillPart 19 = .ok (.aload_n 0, 1) := by decide +kernel
theorem dX2_spillPart_20 : decode cX2_spillPart 20 = .ok (.getfield 36, 3) := by decide +kernel
theorem dX2_spillPart_23 : decode cX2_spillPart 23 = .ok (.invokevirtual 65, 3) := by decide +kernel
theorem dX2_spillPart_26 : decode cX2_spillPart 26 = .ok (.if_icmp .ge 60, 3) := by decide +kernel
theorem dX2_spillPart_29 : decode cX2_spillPart 29 = .ok (.aload_n 0, 1) := by decide +kernel
theorem dX2_spillPart_30 : decode cX2_spillPart 30 = .ok (.getfield 36, 3) := by decide +kernel
theorem dX2_spillPart_33 : decode cX2_spillPart 33 = .ok (.iload 5, 2) := by decide +kernel
theorem dX2_spillPart_35 : decode cX2_spillPart 35 = .ok (.iconst 0, 1) := by decide +kernel
theorem dX2_spillPart_36 : decode cX2_spillPart 36 = .ok (.invokevirtual 83, 3) := by decide +kernel
theorem dX2_spillPart_39 : decode cX2_spillPart 39 = .ok (.istore 6, 2) := by decide +kernel
theorem dX2_spillPart_41 : decode cX2_spillPart 41 = .ok (.aload_n 0, 1) := by decide +kernel
theorem dX2_spillPart_42 : decode cX2_spillPart 42 = .ok (.iload 6, 2) := by decide +kernel
theorem dX2_spillPart_44 : decode cX2_spillPart 44 = .ok (.iload_n 3, 1) := by decide +kernel
theorem dX2_spillPart_45 : decode cX2_spillPart 45 = .ok (.invokevirtual 120, 3) := by decide +kernel
theorem dX2_spillPart_48 : decode cX2_spillPart 48 = .ok (.iload_n 2, 1) := by decide +kernel
theorem dX2_spillPart_49 : decode cX2_spillPart 49 = .ok (.if_icmp .ne 16, 3) := by decide +kernel
theorem dX2_spillPart_52 : decode cX2_spillPart 52 = .ok (.aload_n 0, 1) := by decide +kernel
theorem dX2_spillPart_53 : decode cX2_spillPart 53 = .ok (.getfield 42, 3) := by decide +kernel
theorem dX2_spillPart_56 : decode cX2_spillPart 56 = .ok (.iload 6, 2) := by decide +kernel
theorem dX2_spillPart_58 : decode cX2_spillPart 58 = .ok (.invokevirtual 91, 3) := by decide +kernel
theorem dX2_spillPart_61 : decode cX2_spillPart 61 = .ok (.pop, 1) := by decide +kernel
theorem dX2_spillPart_62 : decode cX2_spillPart 62 = .ok (.goto 18, 3) := by decide +kernel
theorem dX2_spillPart_65 : decode cX2_spillPart 65 = .ok (.aload_n 0, 1) := by decide +kernel
theorem dX2_spillPart_66 : decode cX2_spillPart 66 = .ok (.getfield 36, 3) := by decide +kernel
theorem dX2_spillPart_69 : decode cX2_spillPart 69 = .ok (.iload 4, 2) := by decide +kernel
theorem dX2_spillPart_71 : decode cX2_spillPart 71 = .ok (.iconst 0, 1) := by decide +kernel
theorem dX2_spillPart_72 : decode cX2_spillPart 72 = .ok (.iload 6, 2) := by decide +kernel
theorem dX2_spillPart_74 : decode cX2_spillPart 74 = .ok (.invokevirtual 94, 3) := by decide +kernel
theorem dX2_spillPart_77 : decode cX2_spillPart 77 = .ok (.iinc 4 1, 3) := by decide +kernel
theorem dX2_spillPart_80 : decode cX2_spillPart 80 = .ok (.iinc 5 1, 3) := by decide +kernel
theorem dX2_spillPart_83 : decode cX2_spillPart 83 = .ok (.goto (-66), 3) := by decide +kernel
theorem dX2_spillPart_86 : decode cX2_spillPart 86 = .ok (.aload_n 0, 1) := by decide +kernel
theorem dX2_spillPart_87 : decode cX2_spillPart 87 = .ok (.getfield 36, 3) := by decide +kernel
theorem dX2_spillPart_90 : decode cX2_spillPart 90 = .ok (.invokevirtual 65, 3) := by decide +kernel
theorem dX2_spillPart_93 : decode cX2_spillPart 93 = .ok (.iload 4, 2) := by decide +kernel
theorem dX2_spillPart_95 : decode cX2_spillPart 95 = .ok (.isub, 1) := by decide +kernel
theorem dX2_spillPart_96 : decode cX2_spillPart 96 = .ok (.istore 5, 2) := by decide +kernel
theorem dX2_spillPart_98 : decode cX2_spillPart 98 = .ok (.aload_n 0, 1) := by decide +kernel
theorem dX2_spillPart_99 : decode cX2_spillPart 99 = .ok (.getfield 36, 3) := by decide +kernel
theorem dX2_spillPart_102 : decode cX2_spillPart 102 = .ok (.iload 4, 2) := by decide +kernel
theorem dX2_spillPart_104 : decode cX2_spillPart 104 = .ok (.invokevirtual 58, 3) := by decide +kernel
theorem dX2_spillPart_107 : decode cX2_spillPart 107 = .ok (.aload_n 0, 1) := by decide +kernel
theorem dX2_spillPart_108 : decode cX2_spillPart 108 = .ok (.getfield 27, 3) := by decide +kernel
theorem dX2_spillPart_111 : decode cX2_spillPart 111 = .ok (.iload_n 3, 1) := by decide +kernel
theorem dX2_spillPart_112 : decode cX2_spillPart 112 = .ok (.invokevirtual 91, 3) := by decide +kernel
theorem dX2_spillPart_115 : decode cX2_spillPart 115 = .ok (.istore 6, 2) := by decide +kernel
theorem dX2_spillPart_117 : decode cX2_spillPart 117 = .ok (.aload_n 0, 1) := by decide +kernel
theorem dX2_spillPart_118 : decode cX2_spillPart 118 = .ok (.getfield 27, 3) := by decide +kernel
theorem dX2_spillPart_121 : decode cX2_spillPart 121 = .ok (.iload 6, 2) := by decide +kernel
theorem dX2_spillPart_123 : decode cX2_spillPart 123 = .ok (.iconst 1, 1) := by decide +kernel
theorem dX2_spillPart_124 : decode cX2_spillPart 124 = .ok (.aload_n 0, 1) := by decide +kernel
theorem dX2_spillPart_125 : decode cX2_spillPart 125 = .ok (.getfield 23, 3) := by decide +kernel
theorem dX2_spillPart_128 : decode cX2_spillPart 128 = .ok (.iload_n 1, 1) := by decide +kernel
theorem dX2_spillPart_129 : decode cX2_spillPart 129 = .ok (.bipush 7, 2) := by decide +kernel
theorem dX2_spillPart_131 : decode cX2_spillPart 131 = .ok (.invokevirtual 83, 3) := by decide +kernel
theorem dX2_spillPart_134 : decode cX2_spillPart 134 = .ok (.invokevirtual 94, 3) := by decide +kernel
theorem dX2_spillPart_137 : decode cX2_spillPart 137 = .ok (.aload_n 0, 1) := by decide +kernel
theorem dX2_spillPart_138 : decode cX2_spillPart 138 = .ok (.getfield 27, 3) := by decide +kernel
theorem dX2_spillPart_141 : decode cX2_spillPart 141 = .ok (.iload 6, 2) := by decide +kernel
theorem dX2_spillPart_143 : decode cX2_spillPart 143 = .ok (.iconst 2, 1) := by decide +kernel
theorem dX2_spillPart_144 : decode cX2_spillPart 144 = .ok (.iload_n 2, 1) := by decide +kernel
theorem dX2_spillPart_145 : decode cX2_spillPart 145 = .ok (.invokevirtual 94, 3) := by decide +kernel
theorem dX2_spillPart_148 : decode cX2_spillPart 148 = .ok (.aload_n 0, 1) := by decide +kernel
theorem dX2_spillPart_149 : decode cX2_spillPart 149 = .ok (.getfield 27, 3) := by decide +kernel
theorem dX2_spillPart_152 : decode cX2_spillPart 152 = .ok (.iload 6, 2) := by decide +kernel
theorem dX2_spillPart_154 : decode cX2_spillPart 154 = .ok (.iconst 3, 1) := by decide +kernel
theorem dX2_spillPart_155 : decode cX2_spillPart 155 = .ok (.iload 5, 2) := by decide +kernel
theorem dX2_spillPart_157 : decode cX2_spillPart 157 = .ok (.invokevirtual 94, 3) := by decide +kernel
theorem dX2_spillPart_160 : decode cX2_spillPart 160 = .ok (.aload_n 0, 1) := by decide +kernel
theorem dX2_spillPart_161 : decode cX2_spillPart 161 = .ok (.getfield 27, 3) := by decide +kernel
theorem dX2_spillPart_164 : decode cX2_spillPart 164 = .ok (.iload 6, 2) := by decide +kernel
theorem dX2_spillPart_166 : decode cX2_spillPart 166 = .ok (.iconst 4, 1) := by decide +kernel
theorem dX2_spillPart_167 : decode cX2_spillPart 167 = .ok (.iload 5, 2) := by decide +kernel
theorem dX2_spillPart_169 : decode cX2_spillPart 169 = .ok (.invokevirtual 94, 3) := by decide +kernel
theorem dX2_spillPart_172 : decode cX2_spillPart 172 = .ok (.aload_n 0, 1) := by decide +kernel
theorem dX2_spillPart_173 : decode cX2_spillPart 173 = .ok (.getfield 39, 3) := by decide +kernel
theorem dX2_spillPart_176 : decode cX2_spillPart 176 = .ok (.iload_n 2, 1) := by decide +kernel
theorem dX2_spillPart_177 : decode cX2_spillPart 177 = .ok (.iconst 0, 1) := by decide +kernel
theorem dX2_spillPart_178 : decode cX2_spillPart 178 = .ok (.iconst 0, 1) := by decide +kernel
theorem dX2_spillPart_179 : decode cX2_spillPart 179 = .ok (.invokevirtual 94, 3) := by decide +kernel
theorem dX2_spillPart_182 : decode cX2_spillPart 182 = .ok (.aload_n 0, 1) := by decide +kernel
theorem dX2_spillPart_183 : decode cX2_spillPart 183 = .ok (.getfield 39, 3) := by decide +kernel
theorem dX2_spillPart_186 : decode cX2_spillPart 186 = .ok (.iload_n 2, 1) := by decide +kernel
theorem dX2_spillPart_187 : decode cX2_spillPart 187 = .ok (.iconst 1, 1) := by decide +kernel
theorem dX2_spillPart_188 : decode cX2_spillPart 188 = .ok (.iload 6, 2) := by decide +kernel
theorem dX2_spillPart_190 : decode cX2_spillPart 190 = .ok (.invokevirtual 94, 3) := by decide +kernel
theorem dX2_spillPart_193 : decode cX2_spillPart 193 = .ok (.aload_n 0, 1) := by decide +kernel
theorem dX2_spillPart_194 : decode cX2_spillPart 194 = .ok (.getfield 23, 3) := by decide +kernel
theorem dX2_spillPart_197 : decode cX2_spillPart 197 = .ok (.iload_n 1, 1) := by decide +kernel
theorem dX2_spillPart_198 : decode cX2_spillPart 198 = .ok (.iconst 2, 1) := by decide +kernel
theorem dX2_spillPart_199 : decode cX2_spillPart 199 = .ok (.iconst 1, 1) := by decide +kernel
theorem dX2_spillPart_200 : decode cX2_spillPart 200 = .ok (.iload_n 2, 1) := by decide +kernel
theorem dX2_spillPart_201 : decode cX2_spillPart 201 = .ok (.ishl, 1) := by decide +kernel
theorem dX2_spillPart_202 : decode cX2_spillPart 202 = .ok (.invokevirtual 131, 3) := by decide +kernel
theorem dX2_spillPart_205 : decode cX2_spillPart 205 = .ok (.aload_n 0, 1) := by decide +kernel
theorem dX2_spillPart_206 : decode cX2_spillPart 206 = .ok (.getfield 23, 3) := by decide +kernel
theorem dX2_spillPart_209 : decode cX2_spillPart 209 = .ok (.iload_n 1, 1) := by decide +kernel
theorem dX2_spillPart_210 : decode cX2_spillPart 210 = .ok (.iconst 3, 1) := by decide +kernel
theorem dX2_spillPart_211 : decode cX2_spillPart 211 = .ok (.iload 5, 2) := by decide +kernel
theorem dX2_spillPart_213 : decode cX2_spillPart 213 = .ok (.invokevirtual 131, 3) := by decide +kernel
theorem dX2_spillPart_216 : decode cX2_spillPart 216 = .ok (.return_, 1) := by decide +kernel
theorem dX2_finishMemory_0 : decode cX2_finishMemory 0 = .ok (.aload_n 0, 1) := by decide +kernel
theorem dX2_finishMemory_1 : decode cX2_finishMemory 1 = .ok (.getfield 23, 3) := by decide +kernel
theorem dX2_finishMemory_4 : decode cX2_finishMemory 4 = .ok (.iload_n 1, 1) := by decide +kernel
theorem dX2_finishMemory_5 : decode cX2_finishMemory 5 = .ok (.iconst 1, 1) := by decide +kernel
theorem dX2_finishMemory_6 : decode cX2_finishMemory 6 = .ok (.aload_n 0, 1) := by decide +kernel
theorem dX2_finishMemory_7 : decode cX2_finishMemory 7 = .ok (.getfield 36, 3) := by decide +kernel
theorem dX2_finishMemory_10 : decode cX2_finishMemory 10 = .ok (.invokevirtual 65, 3) := by decide +kernel
theorem dX2_finishMemory_13 : decode cX2_finishMemory 13 = .ok (.invokevirtual 94, 3) := by decide +kernel
theorem dX2_finishMemory_16 : decode cX2_finishMemory 16 = .ok (.iconst 0, 1) := by decide +kernel
theorem dX2_finishMemory_17 : decode cX2_finishMemory 17 = .ok (.istore 4, 2) := by decide +kernel
theorem dX2_finishMemory_19 : decode cX2_finishMemory 19 = .ok (.iload 4, 2) := by decide +kernel
theorem dX2_finishMemory_21 : decode cX2_finishMemory 21 = .ok (.aload_n 0, 1) := by decide +kernel
theorem dX2_finishMemory_22 : decode cX2_finishMemory 22 = .ok (.getfield 36, 3) := by decide +kernel
theorem dX2_finishMemory_25 : decode cX2_finishMemory 25 = .ok (.invokevirtual 65, 3) := by decide +kernel
theorem dX2_finishMemory_28 : decode cX2_finishMemory 28 = .ok (.if_icmp .ge 62, 3) := by decide +kernel
theorem dX2_finishMemory_31 : decode cX2_finishMemory 31 = .ok (.aload_n 0, 1) := by decide +kernel
theorem dX2_finishMemory_32 : decode cX2_finishMemory 32 = .ok (.getfield 36, 3) := by decide +kernel
theorem dX2_finishMemory_35 : decode cX2_finishMemory 35 = .ok (.iload 4, 2) := by decide +kernel
theorem dX2_finishMemory_37 : decode cX2_finishMemory 37 = .ok (.iconst 0, 1) := by decide +kernel
theorem dX2_finishMemory_38 : decode cX2_finishMemory 38 = .ok (.invokevirtual 83, 3) := by decide +kernel
theorem dX2_finishMemory_41 : decode cX2_finishMemory 41 = .ok (.istore 5, 2) := by decide +kernel
theorem dX2_finishMemory_43 : decode cX2_finishMemory 43 = .ok (.aload_n 0, 1) := by decide +kernel
theorem dX2_finishMemory_44 : decode cX2_finishMemory 44 = .ok (.getfield 30, 3) := by decide +kernel
theorem dX2_finishMemory_47 : decode cX2_finishMemory 47 = .ok (.iload 5, 2) := by decide +kernel
theorem dX2_finishMemory_49 : decode cX2_finishMemory 49 = .ok (.iconst 0, 1) := by decide +kernel
theorem dX2_finishMemory_50 : decode cX2_finishMemory 50 = .ok (.iload_n 2, 1) := by decide +kernel
theorem dX2_finishMemory_51 : decode cX2_finishMemory 51 = .ok (.invokevirtual 94, 3) := by decide +kernel
theorem dX2_finishMemory_54 : decode cX2_finishMemory 54 = .ok (.aload_n 0, 1) := by decide +kernel
theorem dX2_finishMemory_55 : decode cX2_finishMemory 55 = .ok (.getfield 30, 3) := by decide +kernel
theorem dX2_finishMemory_58 : decode cX2_finishMemory 58 = .ok (.iload 5, 2) := by decide +kernel
theorem dX2_finishMemory_60 : decode cX2_finishMemory 60 = .ok (.iconst 1, 1) := by decide +kernel
theorem dX2_finishMemory_61 : decode cX2_finishMemory 61 = .ok (.iload_n 3, 1) := by decide +kernel
theorem dX2_finishMemory_62 : decode cX2_finishMemory 62 = .ok (.invokevirtual 94, 3) := by decide +kernel
theorem dX2_finishMemory_65 : decode cX2_finishMemory 65 = .ok (.aload_n 0, 1) := by decide +kernel
theorem dX2_finishMemory_66 : decode cX2_finishMemory 66 = .ok (.getfield 30, 3) := by decide +kernel
theorem dX2_finishMemory_69 : decode cX2_finishMemory 69 = .ok (.iload 5, 2) := by decide +kernel
theorem dX2_finishMemory_71 : decode cX2_finishMemory 71 = .ok (.iconst 2, 1) := by decide +kernel
theorem dX2_finishMemory_72 : decode cX2_finishMemory 72 = .ok (.aload_n 0, 1) := by decide +kernel
theorem dX2_finishMemory_73 : decode cX2_finishMemory 73 = .ok (.getfield 33, 3) := by decide +kernel
theorem dX2_finishMemory_76 : decode cX2_finishMemory 76 = .ok (.iload 5, 2) := by decide +kernel
theorem dX2_finishMemory_78 : decode cX2_finishMemory 78 = .ok (.invokevirtual 91, 3) := by decide +kernel
theorem dX2_finishMemory_81 : decode cX2_finishMemory 81 = .ok (.invokevirtual 94, 3) := by decide +kernel
theorem dX2_finishMemory_84 : decode cX2_finishMemory 84 = .ok (.iinc 4 1, 3) := by decide +kernel
theorem dX2_finishMemory_87 : decode cX2_finishMemory 87 = .ok (.goto (-68), 3) := by decide +kernel
theorem dX2_finishMemory_90 : decode cX2_finishMemory 90 = .ok (.aload_n 0, 1) := by decide +kernel
theorem dX2_finishMemory_91 : decode cX2_finishMemory 91 = .ok (.getfield 36, 3) := by decide +kernel
theorem dX2_finishMemory_94 : decode cX2_finishMemory 94 = .ok (.iconst 0, 1) := by decide +kernel
theorem dX2_finishMemory_95 : decode cX2_finishMemory 95 = .ok (.invokevirtual 58, 3) := by decide +kernel
theorem dX2_finishMemory_98 : decode cX2_finishMemory 98 = .ok (.return_, 1) := by decide +kernel
theorem dX2_fullestPart_0 : decode cX2_fullestPart 0 = .ok (.iconst 0, 1) := by decide +kernel
theorem dX2_fullestPart_1 : decode cX2_fullestPart 1 = .ok (.istore_n 1, 1) := by decide +kernel
theorem dX2_fullestPart_2 : decode cX2_fullestPart 2 = .ok (.iconst 1, 1) := by decide +kernel
theorem dX2_fullestPart_3 : decode cX2_fullestPart 3 = .ok (.istore_n 2, 1) := by decide +kernel
theorem dX2_fullestPart_4 : decode cX2_fullestPart 4 = .ok (.iload_n 2, 1) := by decide +kernel
theorem dX2_fullestPart_5 : decode cX2_fullestPart 5 = .ok (.aload_n 0, 1) := by decide +kernel
theorem dX2_fullestPart_6 : decode cX2_fullestPart 6 = .ok (.getfield 39, 3) := by decide +kernel
theorem dX2_fullestPart_9 : decode cX2_fullestPart 9 = .ok (.invokevirtual 65, 3) := by decide +kernel
theorem dX2_fullestPart_12 : decode cX2_fullestPart 12 = .ok (.if_icmp .ge 32, 3) := by decide +kernel
theorem dX2_fullestPart_15 : decode cX2_fullestPart 15 = .ok (.aload_n 0, 1) := by decide +kernel
theorem dX2_fullestPart_16 : decode cX2_fullestPart 16 = .ok (.getfield 39, 3) := by decide +kernel
theorem dX2_fullestPart_19 : decode cX2_fullestPart 19 = .ok (.iload_n 2, 1) := by decide +kernel
theorem dX2_fullestPart_20 : decode cX2_fullestPart 20 = .ok (.iconst 0, 1) := by decide +kernel
theorem dX2_fullestPart_21 : decode cX2_fullestPart 21 = .ok (.invokevirtual 83, 3) := by decide +kernel
theorem dX2_fullestPart_24 : decode cX2_fullestPart 24 = .ok (.aload_n 0, 1) := by decide +kernel
theorem dX2_fullestPart_25 : decode cX2_fullestPart 25 = .ok (.getfield 39, 3) := by decide +kernel
theorem dX2_fullestPart_28 : decode cX2_fullestPart 28 = .ok (.iload_n 1, 1) := by decide +kernel
theorem dX2_fullestPart_29 : decode cX2_fullestPart 29 = .ok (.iconst 0, 1) := by decide +kernel
theorem dX2_fullestPart_30 : decode cX2_fullestPart 30 = .ok (.invokevirtual 83, 3) := by decide +kernel
theorem dX2_fullestPart_33 : decode cX2_fullestPart 33 = .ok (.if_icmp .le 5, 3) := by decide +kernel
theorem dX2_fullestPart_36 : decode cX2_fullestPart 36 = .ok (.iload_n 2, 1) := by decide +kernel
theorem dX2_fullestPart_37 : decode cX2_fullestPart 37 = .ok (.istore_n 1, 1) := by decide +kernel
theorem dX2_fullestPart_38 : decode cX2_fullestPart 38 = .ok (.iinc 2 1, 3) := by decide +kernel
theorem dX2_fullestPart_41 : decode cX2_fullestPart 41 = .ok (.goto (-37), 3) := by decide +kernel
theorem dX2_fullestPart_44 : decode cX2_fullestPart 44 = .ok (.iload_n 1, 1) := by decide +kernel
theorem dX2_fullestPart_45 : decode cX2_fullestPart 45 = .ok (.ireturn, 1) := by decide +kernel
theorem dX2_isSpilled_0 : decode cX2_isSpilled 0 = .ok (.aload_n 0, 1) := by decide +kernel
theorem dX2_isSpilled_1 : decode cX2_isSpilled 1 = .ok (.getfield 23, 3) := by decide +kernel
theorem dX2_isSpilled_4 : decode cX2_isSpilled 4 = .ok (.iload_n 1, 1) := by decide +kernel
theorem dX2_isSpilled_5 : decode cX2_isSpilled 5 = .ok (.iconst 2, 1) := by decide +kernel
theorem dX2_isSpilled_6 : decode cX2_isSpilled 6 = .ok (.invokevirtual 83, 3) := by decide +kernel
theorem dX2_isSpilled_9 : decode cX2_isSpilled 9 = .ok (.iload_n 2, 1) := by decide +kernel
theorem dX2_isSpilled_10 : decode cX2_isSpilled 10 = .ok (.ishr, 1) := by decide +kernel
theorem dX2_isSpilled_11 : decode cX2_isSpilled 11 = .ok (.iconst 1, 1) := by decide +kernel
theorem dX2_isSpilled_12 : decode cX2_isSpilled 12 = .ok (.iand, 1) := by decide +kernel
theorem dX2_isSpilled_13 : decode cX2_isSpilled 13 = .ok (.iconst 1, 1) := by decide +kernel
theorem dX2_isSpilled_14 : decode cX2_isSpilled 14 = .ok (.if_icmp .ne 7, 3) := by decide +kernel
theorem dX2_isSpilled_17 : decode cX2_isSpilled 17 = .ok (.iconst 1, 1) := by decide +kernel
theorem dX2_isSpilled_18 : decode cX2_isSpilled 18 = .ok (.goto 4, 3) := by decide +kernel
theorem dX2_isSpilled_21 : decode cX2_isSpilled 21 = .ok (.iconst 0, 1) := by decide +kernel
theorem dX2_isSpilled_22 : decode cX2_isSpilled 22 = .ok (.ireturn, 1) := by decide +kernel
theorem dX2_isHeld_0 : decode cX2_isHeld 0 = .ok (.aload_n 0, 1) := by decide +kernel
theorem dX2_isHeld_1 : decode cX2_isHeld 1 = .ok (.getfield 36, 3) := by decide +kernel
theorem dX2_isHeld_4 : decode cX2_isHeld 4 = .ok (.iload_n 1, 1) := by decide +kernel
theorem dX2_isHeld_5 : decode cX2_isHeld 5 = .ok (.invokevirtual 137, 3) := by decide +kernel
theorem dX2_isHeld_8 : decode cX2_isHeld 8 = .ok (.istore_n 2, 1) := by decide +kernel
theorem dX2_isHeld_9 : decode cX2_isHeld 9 = .ok (.iload_n 2, 1) := by decide +kernel
theorem dX2_isHeld_10 : decode cX2_isHeld 10 = .ok (.aload_n 0, 1) := by decide +kernel
theorem dX2_isHeld_11 : decode cX2_isHeld 11 = .ok (.getfield 36, 3) := by decide +kernel
theorem dX2_isHeld_14 : decode cX2_isHeld 14 = .ok (.invokevirtual 65, 3) := by decide +kernel
theorem dX2_isHeld_17 : decode cX2_isHeld 17 = .ok (.if_icmp .ge 20, 3) := by decide +kernel
theorem dX2_isHeld_20 : decode cX2_isHeld 20 = .ok (.aload_n 0, 1) := by decide +kernel
theorem dX2_isHeld_21 : decode cX2_isHeld 21 = .ok (.getfield 36, 3) := by decide +kernel
theorem dX2_isHeld_24 : decode cX2_isHeld 24 = .ok (.iload_n 2, 1) := by decide +kernel
theorem dX2_isHeld_25 : decode cX2_isHeld 25 = .ok (.iconst 0, 1) := by decide +kernel
theorem dX2_isHeld_26 : decode cX2_isHeld 26 = .ok (.invokevirtual 83, 3) := by decide +kernel
theorem dX2_isHeld_29 : decode cX2_isHeld 29 = .ok (.iload_n 1, 1) := by decide +kernel
theorem dX2_isHeld_30 : decode cX2_isHeld 30 = .ok (.if_icmp .ne 7, 3) := by decide +kernel
theorem dX2_isHeld_33 : decode cX2_isHeld 33 = .ok (.iconst 1, 1) := by decide +kernel
theorem dX2_isHeld_34 : decode cX2_isHeld 34 = .ok (.goto 4, 3) := by decide +kernel
theorem dX2_isHeld_37 : decode cX2_isHeld 37 = .ok (.iconst 0, 1) := by decide +kernel
theorem dX2_isHeld_38 : decode cX2_isHeld 38 = .ok (.ireturn, 1) := by decide +kernel
theorem dX2_prefixOf_0 : decode cX2_prefixOf 0 = .ok (.aload_n 0, 1) := by decide +kernel
theorem dX2_prefixOf_1 : decode cX2_prefixOf 1 = .ok (.getfield 12, 3) := by decide +kernel
theorem dX2_prefixOf_4 : decode cX2_prefixOf 4 = .ok (.getfield 62, 3) := by decide +kernel
theorem dX2_prefixOf_7 : decode cX2_prefixOf 7 = .ok (.iload_n 1, 1) := by decide +kernel
theorem dX2_prefixOf_8 : decode cX2_prefixOf 8 = .ok (.iconst 5, 1) := by decide +kernel
theorem dX2_prefixOf_9 : decode cX2_prefixOf 9 = .ok (.invokevirtual 83, 3) := by decide +kernel
theorem dX2_prefixOf_12 : decode cX2_prefixOf 12 = .ok (.bipush 16, 2) := by decide +kernel
theorem dX2_prefixOf_14 : decode cX2_prefixOf 14 = .ok (.iload_n 2, 1) := by decide +kernel
theorem dX2_prefixOf_15 : decode cX2_prefixOf 15 = .ok (.aload_n 0, 1) := by decide +kernel
theorem dX2_prefixOf_16 : decode cX2_prefixOf 16 = .ok (.getfield 49, 3) := by decide +kernel
theorem dX2_prefixOf_19 : decode cX2_prefixOf 19 = .ok (.imul, 1) := by decide +kernel
theorem dX2_prefixOf_20 : decode cX2_prefixOf 20 = .ok (.isub, 1) := by decide +kernel
theorem dX2_prefixOf_21 : decode cX2_prefixOf 21 = .ok (.ishr, 1) := by decide +kernel
theorem dX2_prefixOf_22 : decode cX2_prefixOf 22 = .ok (.ireturn, 1) := by decide +kernel
theorem dX2_partOf_0 : decode cX2_partOf 0 = .ok (.aload_n 0, 1) := by decide +kernel
theorem dX2_partOf_1 : decode cX2_partOf 1 = .ok (.getfield 12, 3) := by decide +kernel
theorem dX2_partOf_4 : decode cX2_partOf 4 = .ok (.getfield 62, 3) := by decide +kernel
theorem dX2_partOf_7 : decode cX2_partOf 7 = .ok (.iload_n 1, 1) := by decide +kernel
theorem dX2_partOf_8 : decode cX2_partOf 8 = .ok (.iconst 5, 1) := by decide +kernel
theorem dX2_partOf_9 : decode cX2_partOf 9 = .ok (.invokevirtual 83, 3) := by decide +kernel
theorem dX2_partOf_12 : decode cX2_partOf 12 = .ok (.bipush 16, 2) := by decide +kernel
theorem dX2_partOf_14 : decode cX2_partOf 14 = .ok (.iload_n 2, 1) := by decide +kernel
theorem dX2_partOf_15 : decode cX2_partOf 15 = .ok (.iconst 1, 1) := by decide +kernel
theorem dX2_partOf_16 : decode cX2_partOf 16 = .ok (.iadd, 1) := by decide +kernel
theorem dX2_partOf_17 : decode cX2_partOf 17 = .ok (.aload_n 0, 1) := by decide +kernel
theorem dX2_partOf_18 : decode cX2_partOf 18 = .ok (.getfield 49, 3) := by decide +kernel
theorem dX2_partOf_21 : decode cX2_partOf 21 = .ok (.imul, 1) := by decide +kernel
theorem dX2_partOf_22 : decode cX2_partOf 22 = .ok (.isub, 1) := by decide +kernel
theorem dX2_partOf_23 : decode cX2_partOf 23 = .ok (.ishr, 1) := by decide +kernel
theorem dX2_partOf_24 : decode cX2_partOf 24 = .ok (.istore_n 3, 1) := by decide +kernel
theorem dX2_partOf_25 : decode cX2_partOf 25 = .ok (.iload_n 3, 1) := by decide +kernel
theorem dX2_partOf_26 : decode cX2_partOf 26 = .ok (.iconst 1, 1) := by decide +kernel
theorem dX2_partOf_27 : decode cX2_partOf 27 = .ok (.aload_n 0, 1) := by decide +kernel
theorem dX2_partOf_28 : decode cX2_partOf 28 = .ok (.getfield 49, 3) := by decide +kernel
theorem dX2_partOf_31 : decode cX2_partOf 31 = .ok (.ishl, 1) := by decide +kernel
theorem dX2_partOf_32 : decode cX2_partOf 32 = .ok (.iconst 1, 1) := by decide +kernel
theorem dX2_partOf_33 : decode cX2_partOf 33 = .ok (.isub, 1) := by decide +kernel
theorem dX2_partOf_34 : decode cX2_partOf 34 = .ok (.iand, 1) := by decide +kernel
theorem dX2_partOf_35 : decode cX2_partOf 35 = .ok (.ireturn, 1) := by decide +kernel
theorem dX3_init_0 : decode cX3_init 0 = .ok (.aload_n 0, 1) := by decide +kernel
theorem dX3_init_1 : decode cX3_init 1 = .ok (.invokespecial 3, 3) := by decide +kernel
theorem dX3_init_4 : decode cX3_init 4 = .ok (.aload_n 0, 1) := by decide +kernel
theorem dX3_init_5 : decode cX3_init 5 = .ok (.new 9, 3) := by decide +kernel
theorem dX3_init_8 : decode cX3_init 8 = .ok (.dup, 1) := by decide +kernel
theorem dX3_init_9 : decode cX3_init 9 = .ok (.bipush 100, 2) := by decide +kernel
theorem dX3_init_11 : decode cX3_init 11 = .ok (.iconst 2, 1) := by decide +kernel
theorem dX3_init_12 : decode cX3_init 12 = .ok (.invokespecial 13, 3) := by decide +kernel
theorem dX3_init_15 : decode cX3_init 15 = .ok (.putfield 16, 3) := by decide +kernel
theorem dX3_init_18 : decode cX3_init 18 = .ok (.aload_n 0, 1) := by decide +kernel
theorem dX3_init_19 : decode cX3_init 19 = .ok (.new 9, 3) := by decide +kernel
theorem dX3_init_22 : decode cX3_init 22 = .ok (.dup, 1) := by decide +kernel
theorem dX3_init_23 : decode cX3_init 23 = .ok (.iconst 3, 1) := by decide +kernel
theorem dX3_init_24 : decode cX3_init 24 = .ok (.iconst 1, 1) := by decide +kernel
theorem dX3_init_25 : decode cX3_init 25 = .ok (.invokespecial 13, 3) := by decide +kernel
theorem dX3_init_28 : decode cX3_init 28 = .ok (.putfield 20, 3) := by decide +kernel
theorem dX3_init_31 : decode cX3_init 31 = .ok (.aload_n 0, 1) := by decide +kernel
theorem dX3_init_32 : decode cX3_init 32 = .ok (.getfield 20, 3) := by decide +kernel
theorem dX3_init_35 : decode cX3_init 35 = .ok (.iconst 3, 1) := by decide +kernel
theorem dX3_init_36 : decode cX3_init 36 = .ok (.invokevirtual 23, 3) := by decide +kernel
theorem dX3_init_39 : decode cX3_init 39 = .ok (.pop, 1) := by decide +kernel
theorem dX3_init_40 : decode cX3_init 40 = .ok (.aload_n 0, 1) := by decide +kernel
theorem dX3_init_41 : decode cX3_init 41 = .ok (.getfield 20, 3) := by decide +kernel
theorem dX3_init_44 : decode cX3_init 44 = .ok (.iconst 2, 1) := by decide +kernel
theorem dX3_init_45 : decode cX3_init 45 = .ok (.invokevirtual 23, 3) := by decide +kernel
theorem dX3_init_48 : decode cX3_init 48 = .ok (.pop, 1) := by decide +kernel
theorem dX3_init_49 : decode cX3_init 49 = .ok (.aload_n 0, 1) := by decide +kernel
theorem dX3_init_50 : decode cX3_init 50 = .ok (.getfield 20, 3) := by decide +kernel
theorem dX3_init_53 : decode cX3_init 53 = .ok (.ldc 27, 2) := by decide +kernel
theorem dX3_init_55 : decode cX3_init 55 = .ok (.invokevirtual 23, 3) := by decide +kernel
theorem dX3_init_58 : decode cX3_init 58 = .ok (.pop, 1) := by decide +kernel
theorem dX3_init_59 : decode cX3_init 59 = .ok (.return_, 1) := by decide +kernel
theorem dX3_setting_0 : decode cX3_setting 0 = .ok (.aload_n 0, 1) := by decide +kernel
theorem dX3_setting_1 : decode cX3_setting 1 = .ok (.getfield 20, 3) := by decide +kernel
theorem dX3_setting_4 : decode cX3_setting 4 = .ok (.iload_n 1, 1) := by decide +kernel
theorem dX3_setting_5 : decode cX3_setting 5 = .ok (.iconst 0, 1) := by decide +kernel
theorem dX3_setting_6 : decode cX3_setting 6 = .ok (.invokevirtual 28, 3) := by decide +kernel
theorem dX3_setting_9 : decode cX3_setting 9 = .ok (.ireturn, 1) := by decide +kernel
theorem dX3_keyOf_0 : decode cX3_keyOf 0 = .ok (.aload_n 0, 1) := by decide +kernel
theorem dX3_keyOf_1 : decode cX3_keyOf 1 = .ok (.getfield 16, 3) := by decide +kernel
theorem dX3_keyOf_4 : decode cX3_keyOf 4 = .ok (.iload_n 1, 1) := by decide +kernel
theorem dX3_keyOf_5 : decode cX3_keyOf 5 = .ok (.iconst 0, 1) := by decide +kernel
theorem dX3_keyOf_6 : decode cX3_keyOf 6 = .ok (.invokevirtual 28, 3) := by decide +kernel
theorem dX3_keyOf_9 : decode cX3_keyOf 9 = .ok (.ireturn, 1) := by decide +kernel
theorem dX3_valueOf_0 : decode cX3_valueOf 0 = .ok (.aload_n 0, 1) := by decide +kernel
theorem dX3_valueOf_1 : decode cX3_valueOf 1 = .ok (.getfield 16, 3) := by decide +kernel
theorem dX3_valueOf_4 : decode cX3_valueOf 4 = .ok (.iload_n 1, 1) := by decide +kernel
theorem dX3_valueOf_5 : decode cX3_valueOf 5 = .ok (.iconst 1, 1) := by decide +kernel
theorem dX3_valueOf_6 : decode cX3_valueOf 6 = .ok (.invokevirtual 28, 3) := by decide +kernel
theorem dX3_valueOf_9 : decode cX3_valueOf 9 = .ok (.ireturn, 1) := by decide +kernel
theorem dX3_hashOf_0 : decode cX3_hashOf 0 = .ok (.aload_n 0, 1) := by decide +kernel
theorem dX3_hashOf_1 : decode cX3_hashOf 1 = .ok (.iload_n 1, 1) := by decide +kernel
theorem dX3_hashOf_2 : decode cX3_hashOf 2 = .ok (.invokevirtual 32, 3) := by decide +kernel
theorem dX3_hashOf_5 : decode cX3_hashOf 5 = .ok (.aload_n 0, 1) := by decide +kernel
theorem dX3_hashOf_6 : decode cX3_hashOf 6 = .ok (.iconst 2, 1) := by decide +kernel
theorem dX3_hashOf_7 : decode cX3_hashOf 7 = .ok (.invokevirtual 35, 3) := by decide +kernel
theorem dX3_hashOf_10 : decode cX3_hashOf 10 = .ok (.imul, 1) := by decide +kernel
theorem dX3_hashOf_11 : decode cX3_hashOf 11 = .ok (.sipush 7919, 3) := by decide +kernel
theorem dX3_hashOf_14 : decode cX3_hashOf 14 = .ok (.iadd, 1) := by decide +kernel
theorem dX3_hashOf_15 : decode cX3_hashOf 15 = .ok (.ldc 38, 2) := by decide +kernel
theorem dX3_hashOf_17 : decode cX3_hashOf 17 = .ok (.iand, 1) := by decide +kernel
theorem dX3_hashOf_18 : decode cX3_hashOf 18 = .ok (.ireturn, 1) := by decide +kernel
theorem dX3_addRow_0 : decode cX3_addRow 0 = .ok (.aload_n 0, 1) := by decide +kernel
theorem dX3_addRow_1 : decode cX3_addRow 1 = .ok (.getfield 16, 3) := by decide +kernel
theorem dX3_addRow_4 : decode cX3_addRow 4 = .ok (.aload_n 0, 1) := by decide +kernel
theorem dX3_addRow_5 : decode cX3_addRow 5 = .ok (.getfield 16, 3) := by decide +kernel
theorem dX3_addRow_8 : decode cX3_addRow 8 = .ok (.iload_n 1, 1) := by decide +kernel
theorem dX3_addRow_9 : decode cX3_addRow 9 = .ok (.invokevirtual 23, 3) := by decide +kernel
theorem dX3_addRow_12 : decode cX3_addRow 12 = .ok (.iconst 1, 1) := by decide +kernel
theorem dX3_addRow_13 : decode cX3_addRow 13 = .ok (.iload_n 2, 1) := by decide +kernel
theorem dX3_addRow_14 : decode cX3_addRow 14 = .ok (.invokevirtual 39, 3) := by decide +kernel
theorem dX3_addRow_17 : decode cX3_addRow 17 = .ok (.return_, 1) := by decide +kernel
theorem dX3_copyFrom_0 : decode cX3_copyFrom 0 = .ok (.aload_n 0, 1) := by decide +kernel
theorem dX3_copyFrom_1 : decode cX3_copyFrom 1 = .ok (.getfield 16, 3) := by decide +kernel
theorem dX3_copyFrom_4 : decode cX3_copyFrom 4 = .ok (.aload_n 1, 1) := by decide +kernel
theorem dX3_copyFrom_5 : decode cX3_copyFrom 5 = .ok (.getfield 16, 3) := by decide +kernel
theorem dX3_copyFrom_8 : decode cX3_copyFrom 8 = .ok (.invokevirtual 43, 3) := by decide +kernel
theorem dX3_copyFrom_11 : decode cX3_copyFrom 11 = .ok (.aload_n 0, 1) := by decide +kernel
theorem dX3_copyFrom_12 : decode cX3_copyFrom 12 = .ok (.getfield 20, 3) := by decide +kernel
theorem dX3_copyFrom_15 : decode cX3_copyFrom 15 = .ok (.aload_n 1, 1) := by decide +kernel
theorem dX3_copyFrom_16 : decode cX3_copyFrom 16 = .ok (.getfield 20, 3) := by decide +kernel
theorem dX3_copyFrom_19 : decode cX3_copyFrom 19 = .ok (.invokevirtual 43, 3) := by decide +kernel
theorem dX3_copyFrom_22 : decode cX3_copyFrom 22 = .ok (.return_, 1) := by decide +kernel
theorem dX4_init_0 : decode cX4_init 0 = .ok (.aload_n 0, 1) := by decide +kernel
theorem dX4_init_1 : decode cX4_init 1 = .ok (.invokespecial 1, 3) := by decide +kernel
theorem dX4_init_4 : decode cX4_init 4 = .ok (.aload_n 0, 1) := by decide +kernel
theorem dX4_init_5 : decode cX4_init 5 = .ok (.iload_n 1, 1) := by decide +kernel
theorem dX4_init_6 : decode cX4_init 6 = .ok (.iconst 0, 1) := by decide +kernel
theorem dX4_init_7 : decode cX4_init 7 = .ok (.invokestatic 7, 3) := by decide +kernel
theorem dX4_init_10 : decode cX4_init 10 = .ok (.putfield 13, 3) := by decide +kernel
theorem dX4_init_13 : decode cX4_init 13 = .ok (.aload_n 0, 1) := by decide +kernel
theorem dX4_init_14 : decode cX4_init 14 = .ok (.iload_n 2, 1) := by decide +kernel
theorem dX4_init_15 : decode cX4_init 15 = .ok (.iconst 1, 1) := by decide +kernel
theorem dX4_init_16 : decode cX4_init 16 = .ok (.invokestatic 7, 3) := by decide +kernel
theorem dX4_init_19 : decode cX4_init 19 = .ok (.putfield 19, 3) := by decide +kernel
theorem dX4_init_22 : decode cX4_init 22 = .ok (.aload_n 0, 1) := by decide +kernel
theorem dX4_init_23 : decode cX4_init 23 = .ok (.aload_n 0, 1) := by decide +kernel
theorem dX4_init_24 : decode cX4_init 24 = .ok (.getfield 13, 3) := by decide +kernel
theorem dX4_init_27 : decode cX4_init 27 = .ok (.aload_n 0, 1) := by decide +kernel
theorem dX4_init_28 : decode cX4_init 28 = .ok (.getfield 19, 3) := by decide +kernel
theorem dX4_init_31 : decode cX4_init 31 = .ok (.imul, 1) := by decide +kernel
theorem dX4_init_32 : decode cX4_init 32 = .ok (.newarray .int, 2) := by decide +kernel
theorem dX4_init_34 : decode cX4_init 34 = .ok (.putfield 22, 3) := by decide +kernel
theorem dX4_init_37 : decode cX4_init 37 = .ok (.return_, 1) := by decide +kernel
theorem dX4_length_0 : decode cX4_length 0 = .ok (.aload_n 0, 1) := by decide +kernel
theorem dX4_length_1 : decode cX4_length 1 = .ok (.getfield 26, 3) := by decide +kernel
theorem dX4_length_4 : decode cX4_length 4 = .ok (.ireturn, 1) := by decide +kernel
theorem dX4_at_0 : decode cX4_at 0 = .ok (.iload_n 1, 1) := by decide +kernel
theorem dX4_at_1 : decode cX4_at 1 = .ok (.ifCond .lt 23, 3) := by decide +kernel
theorem dX4_at_4 : decode cX4_at 4 = .ok (.iload_n 1, 1) := by decide +kernel
theorem dX4_at_5 : decode cX4_at 5 = .ok (.aload_n 0, 1) := by decide +kernel
theorem dX4_at_6 : decode cX4_at 6 = .ok (.getfield 26, 3) := by decide +kernel
theorem dX4_at_9 : decode cX4_at 9 = .ok (.if_icmp .ge 15, 3) := by decide +kernel
theorem dX4_at_12 : decode cX4_at 12 = .ok (.iload_n 2, 1) := by decide +kernel
theorem dX4_at_13 : decode cX4_at 13 = .ok (.ifCond .lt 11, 3) := by decide +kernel
theorem dX4_at_16 : decode cX4_at 16 = .ok (.iload_n 2, 1) := by decide +kernel
theorem dX4_at_17 : decode cX4_at 17 = .ok (.aload_n 0, 1) := by decide +kernel
theorem dX4_at_18 : decode cX4_at 18 = .ok (.getfield 19, 3) := by decide +kernel
theorem dX4_at_21 : decode cX4_at 21 = .ok (.if_icmp .lt 5, 3) := by decide +kernel
theorem dX4_at_24 : decode cX4_at 24 = .ok (.iconst 0, 1) := by decide +kernel
theorem dX4_at_25 : decode cX4_at 25 = .ok (.ireturn, 1) := by decide +kernel
theorem dX4_at_26 : decode cX4_at 26 = .ok (.aload_n 0, 1) := by decide +kernel
theorem dX4_at_27 : decode cX4_at 27 = .ok (.getfield 22, 3) := by decide +kernel
theorem dX4_at_30 : decode cX4_at 30 = .ok (.iload_n 1, 1) := by decide +kernel
theorem dX4_at_31 : decode cX4_at 31 = .ok (.aload_n 0, 1) := by decide +kernel
theorem dX4_at_32 : decode cX4_at 32 = .ok (.getfield 19, 3) := by decide +kernel
theorem dX4_at_35 : decode cX4_at 35 = .ok (.imul, 1) := by decide +kernel
theorem dX4_at_36 : decode cX4_at 36 = .ok (.iload_n 2, 1) := by decide +kernel
theorem dX4_at_37 : decode cX4_at 37 = .ok (.iadd, 1) := by decide +kernel
theorem dX4_at_38 : decode cX4_at 38 = .ok (.iaload, 1) := by decide +kernel
theorem dX4_at_39 : decode cX4_at 39 = .ok (.ireturn, 1) := by decide +kernel
theorem dX4_put_0 : decode cX4_put 0 = .ok (.iload_n 1, 1) := by decide +kernel
theorem dX4_put_1 : decode cX4_put 1 = .ok (.ifCond .lt 37, 3) := by decide +kernel
theorem dX4_put_4 : decode cX4_put 4 = .ok (.iload_n 1, 1) := by decide +kernel
theorem dX4_put_5 : decode cX4_put 5 = .ok (.aload_n 0, 1) := by decide +kernel
theorem dX4_put_6 : decode cX4_put 6 = .ok (.getfield 26, 3) := by decide +kernel
theorem dX4_put_9 : decode cX4_put 9 = .ok (.if_icmp .ge 29, 3) := by decide +kernel
theorem dX4_put_12 : decode cX4_put 12 = .ok (.iload_n 2, 1) := by decide +kernel
theorem dX4_put_13 : decode cX4_put 13 = .ok (.ifCond .lt 25, 3) := by decide +kernel
theorem dX4_put_16 : decode cX4_put 16 = .ok (.iload_n 2, 1) := by decide +kernel
theorem dX4_put_17 : decode cX4_put 17 = .ok (.aload_n 0, 1) := by decide +kernel
theorem dX4_put_18 : decode cX4_put 18 = .ok (.getfield 19, 3) := by decide +kernel
theorem dX4_put_21 : decode cX4_put 21 = .ok (.if_icmp .ge 17, 3) := by decide +kernel
theorem dX4_put_24 : decode cX4_put 24 = .ok (.aload_n 0, 1) := by decide +kernel
theorem dX4_put_25 : decode cX4_put 25 = .ok (.getfield 22, 3) := by decide +kernel
theorem dX4_put_28 : decode cX4_put 28 = .ok (.iload_n 1, 1) := by decide +kernel
theorem dX4_put_29 : decode cX4_put 29 = .ok (.aload_n 0, 1) := by decide +kernel
theorem dX4_put_30 : decode cX4_put 30 = .ok (.getfield 19, 3) := by decide +kernel
theorem dX4_put_33 : decode cX4_put 33 = .ok (.imul, 1) := by decide +kernel
theorem dX4_put_34 : decode cX4_put 34 = .ok (.iload_n 2, 1) := by decide +kernel
theorem dX4_put_35 : decode cX4_put 35 = .ok (.iadd, 1) := by decide +kernel
theorem dX4_put_36 : decode cX4_put 36 = .ok (.iload_n 3, 1) := by decide +kernel
theorem dX4_put_37 : decode cX4_put 37 = .ok (.iastore, 1) := by decide +kernel
theorem dX4_put_38 : decode cX4_put 38 = .ok (.return_, 1) := by decide +kernel
theorem dX4_raise_0 : decode cX4_raise 0 = .ok (.iload_n 1, 1) := by decide +kernel
theorem dX4_raise_1 : decode cX4_raise 1 = .ok (.ifCond .lt 40, 3) := by decide +kernel
theorem dX4_raise_4 : decode cX4_raise 4 = .ok (.iload_n 1, 1) := by decide +kernel
theorem dX4_raise_5 : decode cX4_raise 5 = .ok (.aload_n 0, 1) := by decide +kernel
theorem dX4_raise_6 : decode cX4_raise 6 = .ok (.getfield 26, 3) := by decide +kernel
theorem dX4_raise_9 : decode cX4_raise 9 = .ok (.if_icmp .ge 32, 3) := by decide +kernel
theorem dX4_raise_12 : decode cX4_raise 12 = .ok (.iload_n 2, 1) := by decide +kernel
theorem dX4_raise_13 : decode cX4_raise 13 = .ok (.ifCond .lt 28, 3) := by decide +kernel
theorem dX4_raise_16 : decode cX4_raise 16 = .ok (.iload_n 2, 1) := by decide +kernel
theorem dX4_raise_17 : decode cX4_raise 17 = .ok (.aload_n 0, 1) := by decide +kernel
theorem dX4_raise_18 : decode cX4_raise 18 = .ok (.getfield 19, 3) := by decide +kernel
theorem dX4_raise_21 : decode cX4_raise 21 = .ok (.if_icmp .ge 20, 3) := by decide +kernel
theorem dX4_raise_24 : decode cX4_raise 24 = .ok (.aload_n 0, 1) := by decide +kernel
theorem dX4_raise_25 : decode cX4_raise 25 = .ok (.getfield 22, 3) := by decide +kernel
theorem dX4_raise_28 : decode cX4_raise 28 = .ok (.iload_n 1, 1) := by decide +kernel
theorem dX4_raise_29 : decode cX4_raise 29 = .ok (.aload_n 0, 1) := by decide +kernel
theorem dX4_raise_30 : decode cX4_raise 30 = .ok (.getfield 19, 3) := by decide +kernel
theorem dX4_raise_33 : decode cX4_raise 33 = .ok (.imul, 1) := by decide +kernel
theorem dX4_raise_34 : decode cX4_raise 34 = .ok (.iload_n 2, 1) := by decide +kernel
theorem dX4_raise_35 : decode cX4_raise 35 = .ok (.iadd, 1) := by decide +kernel
theorem dX4_raise_36 : decode cX4_raise 36 = .ok (.dup2, 1) := by decide +kernel
theorem dX4_raise_37 : decode cX4_raise 37 = .ok (.iaload, 1) := by decide +kernel
theorem dX4_raise_38 : decode cX4_raise 38 = .ok (.iload_n 3, 1) := by decide +kernel
theorem dX4_raise_39 : decode cX4_raise 39 = .ok (.iadd, 1) := by decide +kernel
theorem dX4_raise_40 : decode cX4_raise 40 = .ok (.iastore, 1) := by decide +kernel
theorem dX4_raise_41 : decode cX4_raise 41 = .ok (.return_, 1) := by decide +kernel
theorem dX4_append_0 : decode cX4_append 0 = .ok (.aload_n 0, 1) := by decide +kernel
theorem dX4_append_1 : decode cX4_append 1 = .ok (.getfield 26, 3) := by decide +kernel
theorem dX4_append_4 : decode cX4_append 4 = .ok (.aload_n 0, 1) := by decide +kernel
theorem dX4_append_5 : decode cX4_append 5 = .ok (.getfield 13, 3) := by decide +kernel
theorem dX4_append_8 : decode cX4_append 8 = .ok (.if_icmp .lt 5, 3) := by decide +kernel
theorem dX4_append_11 : decode cX4_append 11 = .ok (.iconst (-1), 1) := by decide +kernel
theorem dX4_append_12 : decode cX4_append 12 = .ok (.ireturn, 1) := by decide +kernel
theorem dX4_append_13 : decode cX4_append 13 = .ok (.aload_n 0, 1) := by decide +kernel
theorem dX4_append_14 : decode cX4_append 14 = .ok (.getfield 26, 3) := by decide +kernel
theorem dX4_append_17 : decode cX4_append 17 = .ok (.aload_n 0, 1) := by decide +kernel
theorem dX4_append_18 : decode cX4_append 18 = .ok (.getfield 19, 3) := by decide +kernel
theorem dX4_append_21 : decode cX4_append 21 = .ok (.imul, 1) := by decide +kernel
theorem dX4_append_22 : decode cX4_append 22 = .ok (.istore_n 2, 1) := by decide +kernel
theorem dX4_append_23 : decode cX4_append 23 = .ok (.aload_n 0, 1) := by decide +kernel
theorem dX4_append_24 : decode cX4_append 24 = .ok (.getfield 22, 3) := by decide +kernel
theorem dX4_append_27 : decode cX4_append 27 = .ok (.iload_n 2, 1) := by decide +kernel
theorem dX4_append_28 : decode cX4_append 28 = .ok (.iload_n 2, 1) := by decide +kernel
theorem dX4_append_29 : decode cX4_append 29 = .ok (.aload_n 0, 1) := by decide +kernel
theorem dX4_append_30 : decode cX4_append 30 = .ok (.getfield 19, 3) := by decide +kernel
theorem dX4_append_33 : decode cX4_append 33 = .ok (.iadd, 1) := by decide +kernel
theorem dX4_append_34 : decode cX4_append 34 = .ok (.iconst 0, 1) := by decide +kernel
theorem dX4_append_35 : decode cX4_append 35 = .ok (.invokestatic 29, 3) := by decide +kernel
theorem dX4_append_38 : decode cX4_append 38 = .ok (.aload_n 0, 1) := by decide +kernel
theorem dX4_append_39 : decode cX4_append 39 = .ok (.getfield 22, 3) := by decide +kernel
theorem dX4_append_42 : decode cX4_append 42 = .ok (.iload_n 2, 1) := by decide +kernel
theorem dX4_append_43 : decode cX4_append 43 = .ok (.iload_n 1, 1) := by decide +kernel
theorem dX4_append_44 : decode cX4_append 44 = .ok (.iastore, 1) := by decide +kernel
theorem dX4_append_45 : decode cX4_append 45 = .ok (.aload_n 0, 1) := by decide +kernel
theorem dX4_append_46 : decode cX4_append 46 = .ok (.dup, 1) := by decide +kernel
theorem dX4_append_47 : decode cX4_append 47 = .ok (.getfield 26, 3) := by decide +kernel
theorem dX4_append_50 : decode cX4_append 50 = .ok (.iconst 1, 1) := by decide +kernel
theorem dX4_append_51 : decode cX4_append 51 = .ok (.iadd, 1) := by decide +kernel
theorem dX4_append_52 : decode cX4_append 52 = .ok (.putfield 26, 3) := by decide +kernel
theorem dX4_append_55 : decode cX4_append 55 = .ok (.aload_n 0, 1) := by decide +kernel
theorem dX4_append_56 : decode cX4_append 56 = .ok (.getfield 26, 3) := by decide +kernel
theorem dX4_append_59 : decode cX4_append 59 = .ok (.iconst 1, 1) := by decide +kernel
theorem dX4_append_60 : decode cX4_append 60 = .ok (.isub, 1) := by decide +kernel
theorem dX4_append_61 : decode cX4_append 61 = .ok (.ireturn, 1) := by decide +kernel
theorem dX4_insert_0 : decode cX4_insert 0 = .ok (.iload_n 1, 1) := by decide +kernel
theorem dX4_insert_1 : decode cX4_insert 1 = .ok (.ifCond .lt 22, 3) := by decide +kernel
theorem dX4_insert_4 : decode cX4_insert 4 = .ok (.iload_n 1, 1) := by decide +kernel
theorem dX4_insert_5 : decode cX4_insert 5 = .ok (.aload_n 0, 1) := by decide +kernel
theorem dX4_insert_6 : decode cX4_insert 6 = .ok (.getfield 26, 3) := by decide +kernel
theorem dX4_insert_9 : decode cX4_insert 9 = .ok (.if_icmp .gt 14, 3) := by decide +kernel
theorem dX4_insert_12 : decode cX4_insert 12 = .ok (.aload_n 0, 1) := by decide +kernel
theorem dX4_insert_13 : decode cX4_insert 13 = .ok (.getfield 26, 3) := by decide +kernel
theorem dX4_insert_16 : decode cX4_insert 16 = .ok (.aload_n 0, 1) := by decide +kernel
theorem dX4_insert_17 : decode cX4_insert 17 = .ok (.getfield 13, 3) := by decide +kernel
theorem dX4_insert_20 : decode cX4_insert 20 = .ok (.if_icmp .lt 4, 3) := by decide +kernel
theorem dX4_insert_23 : decode cX4_insert 23 = .ok (.return_, 1) := by decide +kernel
theorem dX4_insert_24 : decode cX4_insert 24 = .ok (.iload_n 1, 1) := by decide +kernel
theorem dX4_insert_25 : decode cX4_insert 25 = .ok (.aload_n 0, 1) := by decide +kernel
theorem dX4_insert_26 : decode cX4_insert 26 = .ok (.getfield 19, 3) := by decide +kernel
theorem dX4_insert_29 : decode cX4_insert 29 = .ok (.imul, 1) := by decide +kernel
theorem dX4_insert_30 : decode cX4_insert 30 = .ok (.istore_n 3, 1) := by decide +kernel
theorem dX4_insert_31 : decode cX4_insert 31 = .ok (.aload_n 0, 1) := by decide +kernel
theorem dX4_insert_32 : decode cX4_insert 32 = .ok (.getfield 22, 3) := by decide +kernel
theorem dX4_insert_35 : decode cX4_insert 35 = .ok (.iload_n 3, 1) := by decide +kernel
theorem dX4_insert_36 : decode cX4_insert 36 = .ok (.aload_n 0, 1) := by decide +kernel
theorem dX4_insert_37 : decode cX4_insert 37 = .ok (.getfield 22, 3) := by decide +kernel
theorem dX4_insert_40 : decode cX4_insert 40 = .ok (.iload_n 3, 1) := by decide +kernel
theorem dX4_insert_41 : decode cX4_insert 41 = .ok (.aload_n 0, 1) := by decide +kernel
theorem dX4_insert_42 : decode cX4_insert 42 = .ok (.getfield 19, 3) := by decide +kernel
theorem dX4_insert_45 : decode cX4_insert 45 = .ok (.iadd, 1) := by decide +kernel
theorem dX4_insert_46 : decode cX4_insert 46 = .ok (.aload_n 0, 1) := by decide +kernel
theorem dX4_insert_47 : decode cX4_insert 47 = .ok (.getfield 26, 3) := by decide +kernel
theorem dX4_insert_50 : decode cX4_insert 50 = .ok (.iload_n 1, 1) := by decide +kernel
theorem dX4_insert_51 : decode cX4_insert 51 = .ok (.isub, 1) := by decide +kernel
theorem dX4_insert_52 : decode cX4_insert 52 = .ok (.aload_n 0, 1) := by decide +kernel
theorem dX4_insert_53 : decode cX4_insert 53 = .ok (.getfield 19, 3) := by decide +kernel
theorem dX4_insert_56 : decode cX4_insert 56 = .ok (.imul, 1) := by decide +kernel
theorem dX4_insert_57 : decode cX4_insert 57 = .ok (.invokestatic 35, 3) := by decide +kernel
theorem dX4_insert_60 : decode cX4_insert 60 = .ok (.aload_n 0, 1) := by decide +kernel
theorem dX4_insert_61 : decode cX4_insert 61 = .ok (.getfield 22, 3) := by decide +kernel
theorem dX4_insert_64 : decode cX4_insert 64 = .ok (.iload_n 3, 1) := by decide +kernel
theorem dX4_insert_65 : decode cX4_insert 65 = .ok (.iload_n 3, 1) := by decide +kernel
theorem dX4_insert_66 : decode cX4_insert 66 = .ok (.aload_n 0, 1) := by decide +kernel
theorem dX4_insert_67 : decode cX4_insert 67 = .ok (.getfield 19, 3) := by decide +kernel
theorem dX4_insert_70 : decode cX4_insert 70 = .ok (.iadd, 1) := by decide +kernel
theorem dX4_insert_71 : decode cX4_insert 71 = .ok (.iconst 0, 1) := by decide +kernel
theorem dX4_insert_72 : decode cX4_insert 72 = .ok (.invokestatic 29, 3) := by decide +kernel
theorem dX4_insert_75 : decode cX4_insert 75 = .ok (.aload_n 0, 1) := by decide +kernel
theorem dX4_insert_76 : decode cX4_insert 76 = .ok (.getfield 22, 3) := by decide +kernel
theorem dX4_insert_79 : decode cX4_insert 79 = .ok (.iload_n 3, 1) := by decide +kernel
theorem dX4_insert_80 : decode cX4_insert 80 = .ok (.iload_n 2, 1) := by decide +kernel
theorem dX4_insert_81 : decode cX4_insert 81 = .ok (.iastore, 1) := by decide +kernel
theorem dX4_insert_82 : decode cX4_insert 82 = .ok (.aload_n 0, 1) := by decide +kernel
theorem dX4_insert_83 : decode cX4_insert 83 = .ok (.dup, 1) := by decide +kernel
theorem dX4_insert_84 : decode cX4_insert 84 = .ok (.getfield 26, 3) := by decide +kernel
theorem dX4_insert_87 : decode cX4_insert 87 = .ok (.iconst 1, 1) := by decide +kernel
theorem dX4_insert_88 : decode cX4_insert 88 = .ok (.iadd, 1) := by decide +kernel
theorem dX4_insert_89 : decode cX4_insert 89 = .ok (.putfield 26, 3) := by decide +kernel
theorem dX4_insert_92 : decode cX4_insert 92 = .ok (.return_, 1) := by decide +kernel
theorem dX4_remove_0 : decode cX4_remove 0 = .ok (.iload_n 1, 1) := by decide +kernel
theorem dX4_remove_1 : decode cX4_remove 1 = .ok (.ifCond .lt 11, 3) := by decide +kernel
theorem dX4_remove_4 : decode cX4_remove 4 = .ok (.iload_n 1, 1) := by decide +kernel
theorem dX4_remove_5 : decode cX4_remove 5 = .ok (.aload_n 0, 1) := by decide +kernel
theorem dX4_remove_6 : decode cX4_remove 6 = .ok (.getfield 26, 3) := by decide +kernel
theorem dX4_remove_9 : decode cX4_remove 9 = .ok (.if_icmp .lt 4, 3) := by decide +kernel
theorem dX4_remove_12 : decode cX4_remove 12 = .ok (.return_, 1) := by decide +kernel
theorem dX4_remove_13 : decode cX4_remove 13 = .ok (.iload_n 1, 1) := by decide +kernel
theorem dX4_remove_14 : decode cX4_remove 14 = .ok (.aload_n 0, 1) := by decide +kernel
theorem dX4_remove_15 : decode cX4_remove 15 = .ok (.getfield 19, 3) := by decide +kernel
theorem dX4_remove_18 : decode cX4_remove 18 = .ok (.imul, 1) := by decide +kernel
theorem dX4_remove_19 : decode cX4_remove 19 = .ok (.istore_n 2, 1) := by decide +kernel
theorem dX4_remove_20 : decode cX4_remove 20 = .ok (.aload_n 0, 1) := by decide +kernel
theorem dX4_remove_21 : decode cX4_remove 21 = .ok (.getfield 22, 3) := by decide +kernel
theorem dX4_remove_24 : decode cX4_remove 24 = .ok (.iload_n 2, 1) := by decide +kernel
theorem dX4_remove_25 : decode cX4_remove 25 = .ok (.aload_n 0, 1) := by decide +kernel
theorem dX4_remove_26 : decode cX4_remove 26 = .ok (.getfield 19, 3) := by decide +kernel
theorem dX4_remove_29 : decode cX4_remove 29 = .ok (.iadd, 1) := by decide +kernel
theorem dX4_remove_30 : decode cX4_remove 30 = .ok (.aload_n 0, 1) := by decide +kernel
theorem dX4_remove_31 : decode cX4_remove 31 = .ok (.getfield 22, 3) := by decide +kernel
theorem dX4_remove_34 : decode cX4_remove 34 = .ok (.iload_n 2, 1) := by decide +kernel
theorem dX4_remove_35 : decode cX4_remove 35 = .ok (.aload_n 0, 1) := by decide +kernel
theorem dX4_remove_36 : decode cX4_remove 36 = .ok (.getfield 26, 3) := by decide +kernel
theorem dX4_remove_39 : decode cX4_remove 39 = .ok (.iload_n 1, 1) := by decide +kernel
theorem dX4_remove_40 : decode cX4_remove 40 = .ok (.isub, 1) := by decide +kernel
theorem dX4_remove_41 : decode cX4_remove 41 = .ok (.iconst 1, 1) := by decide +kernel
theorem dX4_remove_42 : decode cX4_remove 42 = .ok (.isub, 1) := by decide +kernel
theorem dX4_remove_43 : decode cX4_remove 43 = .ok (.aload_n 0, 1) := by decide +kernel
theorem dX4_remove_44 : decode cX4_remove 44 = .ok (.getfield 19, 3) := by decide +kernel
theorem dX4_remove_47 : decode cX4_remove 47 = .ok (.imul, 1) := by decide +kernel
theorem dX4_remove_48 : decode cX4_remove 48 = .ok (.invokestatic 35, 3) := by decide +kernel
theorem dX4_remove_51 : decode cX4_remove 51 = .ok (.aload_n 0, 1) := by decide +kernel
theorem dX4_remove_52 : decode cX4_remove 52 = .ok (.dup, 1) := by decide +kernel
theorem dX4_remove_53 : decode cX4_remove 53 = .ok (.getfield 26, 3) := by decide +kernel
theorem dX4_remove_56 : decode cX4_remove 56 = .ok (.iconst 1, 1) := by decide +kernel
theorem dX4_remove_57 : decode cX4_remove 57 = .ok (.isub, 1) := by decide +kernel
theorem dX4_remove_58 : decode cX4_remove 58 = .ok (.putfield 26, 3) := by decide +kernel
theorem dX4_remove_61 : decode cX4_remove 61 = .ok (.return_, 1) := by decide +kernel
theorem dX4_shorten_0 : decode cX4_shorten 0 = .ok (.iload_n 1, 1) := by decide +kernel
theorem dX4_shorten_1 : decode cX4_shorten 1 = .ok (.ifCond .lt 16, 3) := by decide +kernel
theorem dX4_shorten_4 : decode cX4_shorten 4 = .ok (.iload_n 1, 1) := by decide +kernel
theorem dX4_shorten_5 : decode cX4_shorten 5 = .ok (.aload_n 0, 1) := by decide +kernel
theorem dX4_shorten_6 : decode cX4_shorten 6 = .ok (.getfield 26, 3) := by decide +kernel
theorem dX4_shorten_9 : decode cX4_shorten 9 = .ok (.if_icmp .ge 8, 3) := by decide +kernel
theorem dX4_shorten_12 : decode cX4_shorten 12 = .ok (.aload_n 0, 1) := by decide +kernel
theorem dX4_shorten_13 : decode cX4_shorten 13 = .ok (.iload_n 1, 1) := by decide +kernel
theorem dX4_shorten_14 : decode cX4_shorten 14 = .ok (.putfield 26, 3) := by decide +kernel
theorem dX4_shorten_17 : decode cX4_shorten 17 = .ok (.return_, 1) := by decide +kernel
theorem dX4_reset_0 : decode cX4_reset 0 = .ok (.aload_n 0, 1) := by decide +kernel
theorem dX4_reset_1 : decode cX4_reset 1 = .ok (.iconst 0, 1) := by decide +kernel
theorem dX4_reset_2 : decode cX4_reset 2 = .ok (.iload_n 1, 1) := by decide +kernel
theorem dX4_reset_3 : decode cX4_reset 3 = .ok (.aload_n 0, 1) := by decide +kernel
theorem dX4_reset_4 : decode cX4_reset 4 = .ok (.getfield 13, 3) := by decide +kernel
theorem dX4_reset_7 : decode cX4_reset 7 = .ok (.invokestatic 41, 3) := by decide +kernel
theorem dX4_reset_10 : decode cX4_reset 10 = .ok (.invokestatic 7, 3) := by decide +kernel
theorem dX4_reset_13 : decode cX4_reset 13 = .ok (.putfield 26, 3) := by decide +kernel
theorem dX4_reset_16 : decode cX4_reset 16 = .ok (.aload_n 0, 1) := by decide +kernel
theorem dX4_reset_17 : decode cX4_reset 17 = .ok (.getfield 22, 3) := by decide +kernel
theorem dX4_reset_20 : decode cX4_reset 20 = .ok (.iconst 0, 1) := by decide +kernel
theorem dX4_reset_21 : decode cX4_reset 21 = .ok (.aload_n 0, 1) := by decide +kernel
theorem dX4_reset_22 : decode cX4_reset 22 = .ok (.getfield 26, 3) := by decide +kernel
theorem dX4_reset_25 : decode cX4_reset 25 = .ok (.aload_n 0, 1) := by decide +kernel
theorem dX4_reset_26 : decode cX4_reset 26 = .ok (.getfield 19, 3) := by decide +kernel
theorem dX4_reset_29 : decode cX4_reset 29 = .ok (.imul, 1) := by decide +kernel
theorem dX4_reset_30 : decode cX4_reset 30 = .ok (.iconst 0, 1) := by decide +kernel
theorem dX4_reset_31 : decode cX4_reset 31 = .ok (.invokestatic 29, 3) := by decide +kernel
theorem dX4_reset_34 : decode cX4_reset 34 = .ok (.return_, 1) := by decide +kernel
theorem dX4_copyFrom_0 : decode cX4_copyFrom 0 = .ok (.aload_n 1, 1) := by decide +kernel
theorem dX4_copyFrom_1 : decode cX4_copyFrom 1 = .ok (.ifnull 25, 3) := by decide +kernel
theorem dX4_copyFrom_4 : decode cX4_copyFrom 4 = .ok (.aload_n 1, 1) := by decide +kernel
theorem dX4_copyFrom_5 : decode cX4_copyFrom 5 = .ok (.getfield 19, 3) := by decide +kernel
theorem dX4_copyFrom_8 : decode cX4_copyFrom 8 = .ok (.aload_n 0, 1) := by decide +kernel
theorem dX4_copyFrom_9 : decode cX4_copyFrom 9 = .ok (.getfield 19, 3) := by decide +kernel
theorem dX4_copyFrom_12 : decode cX4_copyFrom 12 = .ok (.if_icmp .ne 14, 3) := by decide +kernel
theorem dX4_copyFrom_15 : decode cX4_copyFrom 15 = .ok (.aload_n 1, 1) := by decide +kernel
theorem dX4_copyFrom_16 : decode cX4_copyFrom 16 = .ok (.getfield 26, 3) := by decide +kernel
theorem dX4_copyFrom_19 : decode cX4_copyFrom 19 = .ok (.aload_n 0, 1) := by decide +kernel
theorem dX4_copyFrom_20 : decode cX4_copyFrom 20 = .ok (.getfield 13, 3) := by decide +kernel
theorem dX4_copyFrom_23 : decode cX4_copyFrom 23 = .ok (.if_icmp .le 4, 3) := by decide +kernel
theorem dX4_copyFrom_26 : decode cX4_copyFrom 26 = .ok (.return_, 1) := by decide +kernel
theorem dX4_copyFrom_27 : decode cX4_copyFrom 27 = .ok (.aload_n 1, 1) := by decide +kernel
theorem dX4_copyFrom_28 : decode cX4_copyFrom 28 = .ok (.getfield 22, 3) := by decide +kernel
theorem dX4_copyFrom_31 : decode cX4_copyFrom 31 = .ok (.iconst 0, 1) := by decide +kernel
theorem dX4_copyFrom_32 : decode cX4_copyFrom 32 = .ok (.aload_n 0, 1) := by decide +kernel
theorem dX4_copyFrom_33 : decode cX4_copyFrom 33 = .ok (.getfield 22, 3) := by decide +kernel
theorem dX4_copyFrom_36 : decode cX4_copyFrom 36 = .ok (.iconst 0, 1) := by decide +kernel
theorem dX4_copyFrom_37 : decode cX4_copyFrom 37 = .ok (.aload_n 1, 1) := by decide +kernel
theorem dX4_copyFrom_38 : decode cX4_copyFrom 38 = .ok (.getfield 26, 3) := by decide +kernel
theorem dX4_copyFrom_41 : decode cX4_copyFrom 41 = .ok (.aload_n 0, 1) := by decide +kernel
theorem dX4_copyFrom_42 : decode cX4_copyFrom 42 = .ok (.getfield 19, 3) := by decide +kernel
theorem dX4_copyFrom_45 : decode cX4_copyFrom 45 = .ok (.imul, 1) := by decide +kernel
theorem dX4_copyFrom_46 : decode cX4_copyFrom 46 = .ok (.invokestatic 35, 3) := by decide +kernel
theorem dX4_copyFrom_49 : decode cX4_copyFrom 49 = .ok (.aload_n 0, 1) := by decide +kernel
theorem dX4_copyFrom_50 : decode cX4_copyFrom 50 = .ok (.aload_n 1, 1) := by decide +kernel
theorem dX4_copyFrom_51 : decode cX4_copyFrom 51 = .ok (.getfield 26, 3) := by decide +kernel
theorem dX4_copyFrom_54 : decode cX4_copyFrom 54 = .ok (.putfield 26, 3) := by decide +kernel
theorem dX4_copyFrom_57 : decode cX4_copyFrom 57 = .ok (.return_, 1) := by decide +kernel
theorem dX4_placeOf_0 : decode cX4_placeOf 0 = .ok (.iconst 0, 1) := by decide +kernel
theorem dX4_placeOf_1 : decode cX4_placeOf 1 = .ok (.istore_n 2, 1) := by decide +kernel
theorem dX4_placeOf_2 : decode cX4_placeOf 2 = .ok (.bipush 64, 2) := by decide +kernel
theorem dX4_placeOf_4 : decode cX4_placeOf 4 = .ok (.istore_n 3, 1) := by decide +kernel
theorem dX4_placeOf_5 : decode cX4_placeOf 5 = .ok (.iload_n 3, 1) := by decide +kernel
theorem dX4_placeOf_6 : decode cX4_placeOf 6 = .ok (.ifCond .le 43, 3) := by decide +kernel
theorem dX4_placeOf_9 : decode cX4_placeOf 9 = .ok (.iload_n 2, 1) := by decide +kernel
theorem dX4_placeOf_10 : decode cX4_placeOf 10 = .ok (.iload_n 3, 1) := by decide +kernel
theorem dX4_placeOf_11 : decode cX4_placeOf 11 = .ok (.iadd, 1) := by decide +kernel
theorem dX4_placeOf_12 : decode cX4_placeOf 12 = .ok (.aload_n 0, 1) := by decide +kernel
theorem dX4_placeOf_13 : decode cX4_placeOf 13 = .ok (.getfield 26, 3) := by decide +kernel
theorem dX4_placeOf_16 : decode cX4_placeOf 16 = .ok (.if_icmp .gt 26, 3) := by decide +kernel
theorem dX4_placeOf_19 : decode cX4_placeOf 19 = .ok (.aload_n 0, 1) := by decide +kernel
theorem dX4_placeOf_20 : decode cX4_placeOf 20 = .ok (.getfield 22, 3) := by decide +kernel
theorem dX4_placeOf_23 : decode cX4_placeOf 23 = .ok (.iload_n 2, 1) := by decide +kernel
theorem dX4_placeOf_24 : decode cX4_placeOf 24 = .ok (.iload_n 3, 1) := by decide +kernel
theorem dX4_placeOf_25 : decode cX4_placeOf 25 = .ok (.iadd, 1) := by decide +kernel
theorem dX4_placeOf_26 : decode cX4_placeOf 26 = .ok (.iconst 1, 1) := by decide +kernel
theorem dX4_placeOf_27 : decode cX4_placeOf 27 = .ok (.isub, 1) := by decide +kernel
theorem dX4_placeOf_28 : decode cX4_placeOf 28 = .ok (.aload_n 0, 1) := by decide +kernel
theorem dX4_placeOf_29 : decode cX4_placeOf 29 = .ok (.getfield 19, 3) := by decide +kernel
theorem dX4_placeOf_32 : decode cX4_placeOf 32 = .ok (.imul, 1) := by decide +kernel
theorem dX4_placeOf_33 : decode cX4_placeOf 33 = .ok (.iaload, 1) := by decide +kernel
theorem dX4_placeOf_34 : decode cX4_placeOf 34 = .ok (.iload_n 1, 1) := by decide +kernel
theorem dX4_placeOf_35 : decode cX4_placeOf 35 = .ok (.if_icmp .ge 7, 3) := by decide +kernel
theorem dX4_placeOf_38 : decode cX4_placeOf 38 = .ok (.iload_n 2, 1) := by decide +kernel
theorem dX4_placeOf_39 : decode cX4_placeOf 39 = .ok (.iload_n 3, 1) := by decide +kernel
theorem dX4_placeOf_40 : decode cX4_placeOf 40 = .ok (.iadd, 1) := by decide +kernel
theorem dX4_placeOf_41 : decode cX4_placeOf 41 = .ok (.istore_n 2, 1) := by decide +kernel
theorem dX4_placeOf_42 : decode cX4_placeOf 42 = .ok (.iload_n 3, 1) := by decide +kernel
theorem dX4_placeOf_43 : decode cX4_placeOf 43 = .ok (.iconst 2, 1) := by decide +kernel
theorem dX4_placeOf_44 : decode cX4_placeOf 44 = .ok (.idiv, 1) := by decide +kernel
theorem dX4_placeOf_45 : decode cX4_placeOf 45 = .ok (.istore_n 3, 1) := by decide +kernel
theorem dX4_placeOf_46 : decode cX4_placeOf 46 = .ok (.goto (-41), 3) := by decide +kernel
theorem dX4_placeOf_49 : decode cX4_placeOf 49 = .ok (.iload_n 2, 1) := by decide +kernel
theorem dX4_placeOf_50 : decode cX4_placeOf 50 = .ok (.ireturn, 1) := by decide +kernel
theorem dX4_sumOf_0 : decode cX4_sumOf 0 = .ok (.iconst 0, 1) := by decide +kernel
theorem dX4_sumOf_1 : decode cX4_sumOf 1 = .ok (.istore_n 2, 1) := by decide +kernel
theorem dX4_sumOf_2 : decode cX4_sumOf 2 = .ok (.iconst 0, 1) := by decide +kernel
theorem dX4_sumOf_3 : decode cX4_sumOf 3 = .ok (.istore_n 3, 1) := by decide +kernel
theorem dX4_sumOf_4 : decode cX4_sumOf 4 = .ok (.iload_n 3, 1) := by decide +kernel
theorem dX4_sumOf_5 : decode cX4_sumOf 5 = .ok (.aload_n 0, 1) := by decide +kernel
theorem dX4_sumOf_6 : decode cX4_sumOf 6 = .ok (.getfield 26, 3) := by decide +kernel
theorem dX4_sumOf_9 : decode cX4_sumOf 9 = .ok (.if_icmp .ge 18, 3) := by decide +kernel
theorem dX4_sumOf_12 : decode cX4_sumOf 12 = .ok (.iload_n 2, 1) := by decide +kernel
theorem dX4_sumOf_13 : decode cX4_sumOf 13 = .ok (.aload_n 0, 1) := by decide +kernel
theorem dX4_sumOf_14 : decode cX4_sumOf 14 = .ok (.iload_n 3, 1) := by decide +kernel
theorem dX4_sumOf_15 : decode cX4_sumOf 15 = .ok (.iload_n 1, 1) := by decide +kernel
theorem dX4_sumOf_16 : decode cX4_sumOf 16 = .ok (.invokevirtual 44, 3) := by decide +kernel
theorem dX4_sumOf_19 : decode cX4_sumOf 19 = .ok (.iadd, 1) := by decide +kernel
theorem dX4_sumOf_20 : decode cX4_sumOf 20 = .ok (.istore_n 2, 1) := by decide +kernel
theorem dX4_sumOf_21 : decode cX4_sumOf 21 = .ok (.iinc 3 1, 3) := by decide +kernel
theorem dX4_sumOf_24 : decode cX4_sumOf 24 = .ok (.goto (-20), 3) := by decide +kernel
theorem dX4_sumOf_27 : decode cX4_sumOf 27 = .ok (.iload_n 2, 1) := by decide +kernel
theorem dX4_sumOf_28 : decode cX4_sumOf 28 = .ok (.ireturn, 1) := by decide +kernel
theorem dX4_greatestOf_0 : decode cX4_greatestOf 0 = .ok (.iconst 0, 1) := by decide +kernel
theorem dX4_greatestOf_1 : decode cX4_greatestOf 1 = .ok (.istore_n 2, 1) := by decide +kernel
theorem dX4_greatestOf_2 : decode cX4_greatestOf 2 = .ok (.iconst 0, 1) := by decide +kernel
theorem dX4_greatestOf_3 : decode cX4_greatestOf 3 = .ok (.istore_n 3, 1) := by decide +kernel
theorem dX4_greatestOf_4 : decode cX4_greatestOf 4 = .ok (.iload_n 3, 1) := by decide +kernel
theorem dX4_greatestOf_5 : decode cX4_greatestOf 5 = .ok (.aload_n 0, 1) := by decide +kernel
theorem dX4_greatestOf_6 : decode cX4_greatestOf 6 = .ok (.getfield 26, 3) := by decide +kernel
theorem dX4_greatestOf_9 : decode cX4_greatestOf 9 = .ok (.if_icmp .ge 20, 3) := by decide +kernel
theorem dX4_greatestOf_12 : decode cX4_greatestOf 12 = .ok (.iload_n 2, 1) := by decide +kernel
theorem dX4_greatestOf_13 : decode cX4_greatestOf 13 = .ok (.aload_n 0, 1) := by decide +kernel
theorem dX4_greatestOf_14 : decode cX4_greatestOf 14 = .ok (.iload_n 3, 1) := by decide +kernel
theorem dX4_greatestOf_15 : decode cX4_greatestOf 15 = .ok (.iload_n 1, 1) := by decide +kernel
theorem dX4_greatestOf_16 : decode cX4_greatestOf 16 = .ok (.invokevirtual 44, 3) := by decide +kernel
theorem dX4_greatestOf_19 : decode cX4_greatestOf 19 = .ok (.invokestatic 7, 3) := by decide +kernel
theorem dX4_greatestOf_22 : decode cX4_greatestOf 22 = .ok (.istore_n 2, 1) := by decide +kernel
theorem dX4_greatestOf_23 : decode cX4_greatestOf 23 = .ok (.iinc 3 1, 3) := by decide +kernel
theorem dX4_greatestOf_26 : decode cX4_greatestOf 26 = .ok (.goto (-22), 3) := by decide +kernel
theorem dX4_greatestOf_29 : decode cX4_greatestOf 29 = .ok (.iload_n 2, 1) := by decide +kernel
theorem dX4_greatestOf_30 : decode cX4_greatestOf 30 = .ok (.ireturn, 1) := by decide +kernel
theorem dX5_init_0 : decode cX5_init 0 = .ok (.aload_n 0, 1) := by decide +kernel
theorem dX5_init_1 : decode cX5_init 1 = .ok (.invokespecial 3, 3) := by decide +kernel
theorem dX5_init_4 : decode cX5_init 4 = .ok (.aload_n 0, 1) := by decide +kernel
theorem dX5_init_5 : decode cX5_init 5 = .ok (.new 9, 3) := by decide +kernel
theorem dX5_init_8 : decode cX5_init 8 = .ok (.dup, 1) := by decide +kernel
theorem dX5_init_9 : decode cX5_init 9 = .ok (.bipush 60, 2) := by decide +kernel
theorem dX5_init_11 : decode cX5_init 11 = .ok (.iconst 1, 1) := by decide +kernel
theorem dX5_init_12 : decode cX5_init 12 = .ok (.invokespecial 11, 3) := by decide +kernel
theorem dX5_init_15 : decode cX5_init 15 = .ok (.putfield 14, 3) := by decide +kernel
theorem dX5_init_18 : decode cX5_init 18 = .ok (.aload_n 0, 1) := by decide +kernel
theorem dX5_init_19 : decode cX5_init 19 = .ok (.new 9, 3) := by decide +kernel
theorem dX5_init_22 : decode cX5_init 22 = .ok (.dup, 1) := by decide +kernel
theorem dX5_init_23 : decode cX5_init 23 = .ok (.bipush 15, 2) := by decide +kernel
theorem dX5_init_25 : decode cX5_init 25 = .ok (.iconst 2, 1) := by decide +kernel
theorem dX5_init_26 : decode cX5_init 26 = .ok (.invokespecial 11, 3) := by decide +kernel
theorem dX5_init_29 : decode cX5_init 29 = .ok (.putfield 22, 3) := by decide +kernel
theorem dX5_init_32 : decode cX5_init 32 = .ok (.return_, 1) := by decide +kernel
theorem dX5_read_0 : decode cX5_read 0 = .ok (.aload_n 0, 1) := by decide +kernel
theorem dX5_read_1 : decode cX5_read 1 = .ok (.iconst 0, 1) := by decide +kernel
theorem dX5_read_2 : decode cX5_read 2 = .ok (.putfield 25, 3) := by decide +kernel
theorem dX5_read_5 : decode cX5_read 5 = .ok (.aload_n 0, 1) := by decide +kernel
theorem dX5_read_6 : decode cX5_read 6 = .ok (.getfield 22, 3) := by decide +kernel
theorem dX5_read_9 : decode cX5_read 9 = .ok (.iconst 0, 1) := by decide +kernel
theorem dX5_read_10 : decode cX5_read 10 = .ok (.invokevirtual 29, 3) := by decide +kernel
theorem dX5_read_13 : decode cX5_read 13 = .ok (.aload_n 0, 1) := by decide +kernel
theorem dX5_read_14 : decode cX5_read 14 = .ok (.iconst 0, 1) := by decide +kernel
theorem dX5_read_15 : decode cX5_read 15 = .ok (.putfield 33, 3) := by decide +kernel
theorem dX5_read_18 : decode cX5_read 18 = .ok (.iconst 0, 1) := by decide +kernel
theorem dX5_read_19 : decode cX5_read 19 = .ok (.istore_n 2, 1) := by decide +kernel
theorem dX5_read_20 : decode cX5_read 20 = .ok (.iload_n 2, 1) := by decide +kernel
theorem dX5_read_21 : decode cX5_read 21 = .ok (.bipush 60, 2) := by decide +kernel
theorem dX5_read_23 : decode cX5_read 23 = .ok (.if_icmp .ge 85, 3) := by decide +kernel
theorem dX5_read_26 : decode cX5_read 26 = .ok (.aload_n 0, 1) := by decide +kernel
theorem dX5_read_27 : decode cX5_read 27 = .ok (.getfield 33, 3) := by decide +kernel
theorem dX5_read_30 : decode cX5_read 30 = .ok (.aload_n 0, 1) := by decide +kernel
theorem dX5_read_31 : decode cX5_read 31 = .ok (.getfield 14, 3) := by decide +kernel
theorem dX5_read_34 : decode cX5_read 34 = .ok (.invokevirtual 36, 3) := by decide +kernel
theorem dX5_read_37 : decode cX5_read 37 = .ok (.if_icmp .ge 71, 3) := by decide +kernel
theorem dX5_read_40 : decode cX5_read 40 = .ok (.aload_n 0, 1) := by decide +kernel
theorem dX5_read_41 : decode cX5_read 41 = .ok (.aload_n 0, 1) := by decide +kernel
theorem dX5_read_42 : decode cX5_read 42 = .ok (.getfield 33, 3) := by decide +kernel
theorem dX5_read_45 : decode cX5_read 45 = .ok (.putfield 40, 3) := by decide +kernel
theorem dX5_read_48 : decode cX5_read 48 = .ok (.aload_n 0, 1) := by decide +kernel
theorem dX5_read_49 : decode cX5_read 49 = .ok (.invokevirtual 43, 3) := by decide +kernel
theorem dX5_read_52 : decode cX5_read 52 = .ok (.ifCond .ne 22, 3) := by decide +kernel
theorem dX5_read_55 : decode cX5_read 55 = .ok (.aload_n 0, 1) := by decide +kernel
theorem dX5_read_56 : decode cX5_read 56 = .ok (.iconst 1, 1) := by decide +kernel
theorem dX5_read_57 : decode cX5_read 57 = .ok (.putfield 25, 3) := by decide +kernel
theorem dX5_read_60 : decode cX5_read 60 = .ok (.aload_n 0, 1) := by decide +kernel
theorem dX5_read_61 : decode cX5_read 61 = .ok (.aload_n 0, 1) := by decide +kernel
theorem dX5_read_62 : decode cX5_read 62 = .ok (.getfield 33, 3) := by decide +kernel
theorem dX5_read_65 : decode cX5_read 65 = .ok (.aload_n 0, 1) := by decide +kernel
theorem dX5_read_66 : decode cX5_read 66 = .ok (.getfield 40, 3) := by decide +kernel
theorem dX5_read_69 : decode cX5_read 69 = .ok (.isub, 1) := by decide +kernel
theorem dX5_read_70 : decode cX5_read 70 = .ok (.putfield 47, 3) := by decide +kernel
theorem dX5_read_73 : decode cX5_read 73 = .ok (.return_, 1) := by decide +kernel
theorem dX5_read_74 : decode cX5_read 74 = .ok (.iload_n 1, 1) := by decide +kernel
theorem dX5_read_75 : decode cX5_read 75 = .ok (.aload_n 0, 1) := by decide +kernel
theorem dX5_read_76 : decode cX5_read 76 = .ok (.getfield 22, 3) := by decide +kernel
theorem dX5_read_79 : decode cX5_read 79 = .ok (.invokevirtual 36, 3) := by decide +kernel
theorem dX5_read_82 : decode cX5_read 82 = .ok (.iadd, 1) := by decide +kernel
theorem dX5_read_83 : decode cX5_read 83 = .ok (.bipush 100, 2) := by decide +kernel
theorem dX5_read_85 : decode cX5_read 85 = .ok (.if_icmp .le 17, 3) := by decide +kernel
theorem dX5_read_88 : decode cX5_read 88 = .ok (.aload_n 0, 1) := by decide +kernel
theorem dX5_read_89 : decode cX5_read 89 = .ok (.iconst 2, 1) := by decide +kernel
theorem dX5_read_90 : decode cX5_read 90 = .ok (.putfield 25, 3) := by decide +kernel
theorem dX5_read_93 : decode cX5_read 93 = .ok (.aload_n 0, 1) := by decide +kernel
theorem dX5_read_94 : decode cX5_read 94 = .ok (.bipush 100, 2) := by decide +kernel
theorem dX5_read_96 : decode cX5_read 96 = .ok (.iload_n 1, 1) := by decide +kernel
theorem dX5_read_97 : decode cX5_read 97 = .ok (.isub, 1) := by decide +kernel
theorem dX5_read_98 : decode cX5_read 98 = .ok (.putfield 47, 3) := by decide +kernel
theorem dX5_read_101 : decode cX5_read 101 = .ok (.return_, 1) := by decide +kernel
theorem dX5_read_102 : decode cX5_read 102 = .ok (.iinc 2 1, 3) := by decide +kernel
theorem dX5_read_105 : decode cX5_read 105 = .ok (.goto (-85), 3) := by decide +kernel
theorem dX5_read_108 : decode cX5_read 108 = .ok (.return_, 1) := by decide +kernel
theorem dX5_readRow_0 : decode cX5_readRow 0 = .ok (.aload_n 0, 1) := by decide +kernel
theorem dX5_readRow_1 : decode cX5_readRow 1 = .ok (.iconst 4, 1) := by decide +kernel
theorem dX5_readRow_2 : decode cX5_readRow 2 = .ok (.invokevirtual 50, 3) := by decide +kernel
theorem dX5_readRow_5 : decode cX5_readRow 5 = .ok (.istore_n 1, 1) := by decide +kernel
theorem dX5_readRow_6 : decode cX5_readRow 6 = .ok (.iload_n 1, 1) := by decide +kernel
theorem dX5_readRow_7 : decode cX5_readRow 7 = .ok (.iconst (-1), 1) := by decide +kernel
theorem dX5_readRow_8 : decode cX5_readRow 8 = .ok (.if_icmp .eq 12, 3) := by decide +kernel
theorem dX5_readRow_11 : decode cX5_readRow 11 = .ok (.aload_n 0, 1) := by decide +kernel
theorem dX5_readRow_12 : decode cX5_readRow 12 = .ok (.bipush 61, 2) := by decide +kernel
theorem dX5_readRow_14 : decode cX5_readRow 14 = .ok (.invokevirtual 54, 3) := by decide +kernel
theorem dX5_readRow_17 : decode cX5_readRow 17 = .ok (.ifCond .ne 5, 3) := by decide +kernel
theorem dX5_readRow_20 : decode cX5_readRow 20 = .ok (.iconst 0, 1) := by decide +kernel
theorem dX5_readRow_21 : decode cX5_readRow 21 = .ok (.ireturn, 1) := by decide +kernel
theorem dX5_readRow_22 : decode cX5_readRow 22 = .ok (.aload_n 0, 1) := by decide +kernel
theorem dX5_readRow_23 : decode cX5_readRow 23 = .ok (.bipush 45, 2) := by decide +kernel
theorem dX5_readRow_25 : decode cX5_readRow 25 = .ok (.invokevirtual 54, 3) := by decide +kernel
theorem dX5_readRow_28 : decode cX5_readRow 28 = .ok (.istore_n 2, 1) := by decide +kernel
theorem dX5_readRow_29 : decode cX5_readRow 29 = .ok (.aload_n 0, 1) := by decide +kernel
theorem dX5_readRow_30 : decode cX5_readRow 30 = .ok (.iconst 3, 1) := by decide +kernel
theorem dX5_readRow_31 : decode cX5_readRow 31 = .ok (.invokevirtual 50, 3) := by decide +kernel
theorem dX5_readRow_34 : decode cX5_readRow 34 = .ok (.istore_n 3, 1) := by decide +kernel
theorem dX5_readRow_35 : decode cX5_readRow 35 = .ok (.iload_n 3, 1) := by decide +kernel
theorem dX5_readRow_36 : decode cX5_readRow 36 = .ok (.iconst (-1), 1) := by decide +kernel
theorem dX5_readRow_37 : decode cX5_readRow 37 = .ok (.if_icmp .eq 12, 3) := by decide +kernel
theorem dX5_readRow_40 : decode cX5_readRow 40 = .ok (.aload_n 0, 1) := by decide +kernel
theorem dX5_readRow_41 : decode cX5_readRow 41 = .ok (.bipush 59, 2) := by decide +kernel
theorem dX5_readRow_43 : decode cX5_readRow 43 = .ok (.invokevirtual 54, 3) := by decide +kernel
theorem dX5_readRow_46 : decode cX5_readRow 46 = .ok (.ifCond .ne 5, 3) := by decide +kernel
theorem dX5_readRow_49 : decode cX5_readRow 49 = .ok (.iconst 0, 1) := by decide +kernel
theorem dX5_readRow_50 : decode cX5_readRow 50 = .ok (.ireturn, 1) := by decide +kernel
theorem dX5_readRow_51 : decode cX5_readRow 51 = .ok (.aload_n 0, 1) := by decide +kernel
theorem dX5_readRow_52 : decode cX5_readRow 52 = .ok (.getfield 22, 3) := by decide +kernel
theorem dX5_readRow_55 : decode cX5_readRow 55 = .ok (.aload_n 0, 1) := by decide +kernel
theorem dX5_readRow_56 : decode cX5_readRow 56 = .ok (.getfield 22, 3) := by decide +kernel
theorem dX5_readRow_59 : decode cX5_readRow 59 = .ok (.iload_n 1, 1) := by decide +kernel
theorem dX5_readRow_60 : decode cX5_readRow 60 = .ok (.invokevirtual 58, 3) := by decide +kernel
theorem dX5_readRow_63 : decode cX5_readRow 63 = .ok (.iconst 1, 1) := by decide +kernel
theorem dX5_readRow_64 : decode cX5_readRow 64 = .ok (.iload_n 2, 1) := by decide +kernel
theorem dX5_readRow_65 : decode cX5_readRow 65 = .ok (.ifCond .eq 8, 3) := by decide +kernel
theorem dX5_readRow_68 : decode cX5_readRow 68 = .ok (.iload_n 3, 1) := by decide +kernel
theorem dX5_readRow_69 : decode cX5_readRow 69 = .ok (.ineg, 1) := by decide +kernel
theorem dX5_readRow_70 : decode cX5_readRow 70 = .ok (.goto 4, 3) := by decide +kernel
theorem dX5_readRow_73 : decode cX5_readRow 73 = .ok (.iload_n 3, 1) := by decide +kernel
theorem dX5_readRow_74 : decode cX5_readRow 74 = .ok (.invokevirtual 61, 3) := by decide +kernel
theorem dX5_readRow_77 : decode cX5_readRow 77 = .ok (.iconst 1, 1) := by decide +kernel
theorem dX5_readRow_78 : decode cX5_readRow 78 = .ok (.ireturn, 1) := by decide +kernel
theorem dX5_readNumber_0 : decode cX5_readNumber 0 = .ok (.iconst (-1), 1) := by decide +kernel
theorem dX5_readNumber_1 : decode cX5_readNumber 1 = .ok (.istore_n 2, 1) := by decide +kernel
theorem dX5_readNumber_2 : decode cX5_readNumber 2 = .ok (.iconst 0, 1) := by decide +kernel
theorem dX5_readNumber_3 : decode cX5_readNumber 3 = .ok (.istore_n 3, 1) := by decide +kernel
theorem dX5_readNumber_4 : decode cX5_readNumber 4 = .ok (.iload_n 3, 1) := by decide +kernel
theorem dX5_readNumber_5 : decode cX5_readNumber 5 = .ok (.iload_n 1, 1) := by decide +kernel
theorem dX5_readNumber_6 : decode cX5_readNumber 6 = .ok (.if_icmp .ge 61, 3) := by decide +kernel
theorem dX5_readNumber_9 : decode cX5_readNumber 9 = .ok (.aload_n 0, 1) := by decide +kernel
theorem dX5_readNumber_10 : decode cX5_readNumber 10 = .ok (.getfield 14, 3) := by decide +kernel
theorem dX5_readNumber_13 : decode cX5_readNumber 13 = .ok (.aload_n 0, 1) := by decide +kernel
theorem dX5_readNumber_14 : decode cX5_readNumber 14 = .ok (.getfield 33, 3) := by decide +kernel
theorem dX5_readNumber_17 : decode cX5_readNumber 17 = .ok (.iconst 0, 1) := by decide +kernel
theorem dX5_readNumber_18 : decode cX5_readNumber 18 = .ok (.invokevirtual 65, 3) := by decide +kernel
theorem dX5_readNumber_21 : decode cX5_readNumber 21 = .ok (.bipush 48, 2) := by decide +kernel
theorem dX5_readNumber_23 : decode cX5_readNumber 23 = .ok (.isub, 1) := by decide +kernel
theorem dX5_readNumber_24 : decode cX5_readNumber 24 = .ok (.istore 4, 2) := by decide +kernel
theorem dX5_readNumber_26 : decode cX5_readNumber 26 = .ok (.iload 4, 2) := by decide +kernel
theorem dX5_readNumber_28 : decode cX5_readNumber 28 = .ok (.iconst 0, 1) := by decide +kernel
theorem dX5_readNumber_29 : decode cX5_readNumber 29 = .ok (.bipush 9, 2) := by decide +kernel
theorem dX5_readNumber_31 : decode cX5_readNumber 31 = .ok (.invokestatic 69, 3) := by decide +kernel
theorem dX5_readNumber_34 : decode cX5_readNumber 34 = .ok (.ifCond .eq 5, 3) := by decide +kernel
theorem dX5_readNumber_37 : decode cX5_readNumber 37 = .ok (.iload_n 2, 1) := by decide +kernel
theorem dX5_readNumber_38 : decode cX5_readNumber 38 = .ok (.ireturn, 1) := by decide +kernel
theorem dX5_readNumber_39 : decode cX5_readNumber 39 = .ok (.iload_n 2, 1) := by decide +kernel
theorem dX5_readNumber_40 : decode cX5_readNumber 40 = .ok (.iconst 0, 1) := by decide +kernel
theorem dX5_readNumber_41 : decode cX5_readNumber 41 = .ok (.invokestatic 73, 3) := by decide +kernel
theorem dX5_readNumber_44 : decode cX5_readNumber 44 = .ok (.bipush 10, 2) := by decide +kernel
theorem dX5_readNumber_46 : decode cX5_readNumber 46 = .ok (.imul, 1) := by decide +kernel
theorem dX5_readNumber_47 : decode cX5_readNumber 47 = .ok (.iload 4, 2) := by decide +kernel
theorem dX5_readNumber_49 : decode cX5_readNumber 49 = .ok (.iadd, 1) := by decide +kernel
theorem dX5_readNumber_50 : decode cX5_readNumber 50 = .ok (.istore_n 2, 1) := by decide +kernel
theorem dX5_readNumber_51 : decode cX5_readNumber 51 = .ok (.aload_n 0, 1) := by decide +kernel
theorem dX5_readNumber_52 : decode cX5_readNumber 52 = .ok (.dup, 1) := by decide +kernel
theorem dX5_readNumber_53 : decode cX5_readNumber 53 = .ok (.getfield 33, 3) := by decide +kernel
theorem dX5_readNumber_56 : decode cX5_readNumber 56 = .ok (.iconst 1, 1) := by decide +kernel
theorem dX5_readNumber_57 : decode cX5_readNumber 57 = .ok (.iadd, 1) := by decide +kernel
theorem dX5_readNumber_58 : decode cX5_readNumber 58 = .ok (.putfield 33, 3) := by decide +kernel
theorem dX5_readNumber_61 : decode cX5_readNumber 61 = .ok (.iinc 3 1, 3) := by decide +kernel
theorem dX5_readNumber_64 : decode cX5_readNumber 64 = .ok (.goto (-60), 3) := by decide +kernel
theorem dX5_readNumber_67 : decode cX5_readNumber 67 = .ok (.iload_n 2, 1) := by decide +kernel
theorem dX5_readNumber_68 : decode cX5_readNumber 68 = .ok (.ireturn, 1) := by decide +kernel
theorem dX5_readSign_0 : decode cX5_readSign 0 = .ok (.aload_n 0, 1) := by decide +kernel
theorem dX5_readSign_1 : decode cX5_readSign 1 = .ok (.getfield 14, 3) := by decide +kernel
theorem dX5_readSign_4 : decode cX5_readSign 4 = .ok (.aload_n 0, 1) := by decide +kernel
theorem dX5_readSign_5 : decode cX5_readSign 5 = .ok (.getfield 33, 3) := by decide +kernel
theorem dX5_readSign_8 : decode cX5_readSign 8 = .ok (.iconst 0, 1) := by decide +kernel
theorem dX5_readSign_9 : decode cX5_readSign 9 = .ok (.invokevirtual 65, 3) := by decide +kernel
theorem dX5_readSign_12 : decode cX5_readSign 12 = .ok (.iload_n 1, 1) := by decide +kernel
theorem dX5_readSign_13 : decode cX5_readSign 13 = .ok (.if_icmp .eq 5, 3) := by decide +kernel
theorem dX5_readSign_16 : decode cX5_readSign 16 = .ok (.iconst 0, 1) := by decide +kernel
theorem dX5_readSign_17 : decode cX5_readSign 17 = .ok (.ireturn, 1) := by decide +kernel
theorem dX5_readSign_18 : decode cX5_readSign 18 = .ok (.aload_n 0, 1) := by decide +kernel
theorem dX5_readSign_19 : decode cX5_readSign 19 = .ok (.dup, 1) := by decide +kernel
theorem dX5_readSign_20 : decode cX5_readSign 20 = .ok (.getfield 33, 3) := by decide +kernel
theorem dX5_readSign_23 : decode cX5_readSign 23 = .ok (.iconst 1, 1) := by decide +kernel
theorem dX5_readSign_24 : decode cX5_readSign 24 = .ok (.iadd, 1) := by decide +kernel
theorem dX5_readSign_25 : decode cX5_readSign 25 = .ok (.putfield 33, 3) := by decide +kernel
theorem dX5_readSign_28 : decode cX5_readSign 28 = .ok (.iconst 1, 1) := by decide +kernel
theorem dX5_readSign_29 : decode cX5_readSign 29 = .ok (.ireturn, 1) := by decide +kernel
theorem dX6_init_0 : decode cX6_init 0 = .ok (.aload_n 0, 1) := by decide +kernel
theorem dX6_init_1 : decode cX6_init 1 = .ok (.invokespecial 1, 3) := by decide +kernel
theorem dX6_init_4 : decode cX6_init 4 = .ok (.aload_n 0, 1) := by decide +kernel
theorem dX6_init_5 : decode cX6_init 5 = .ok (.new 7, 3) := by decide +kernel
theorem dX6_init_8 : decode cX6_init 8 = .ok (.dup, 1) := by decide +kernel
theorem dX6_init_9 : decode cX6_init 9 = .ok (.invokespecial 9, 3) := by decide +kernel
theorem dX6_init_12 : decode cX6_init 12 = .ok (.putfield 10, 3) := by decide +kernel
theorem dX6_init_15 : decode cX6_init 15 = .ok (.aload_n 0, 1) := by decide +kernel
theorem dX6_init_16 : decode cX6_init 16 = .ok (.new 16, 3) := by decide +kernel
theorem dX6_init_19 : decode cX6_init 19 = .ok (.dup, 1) := by decide +kernel
theorem dX6_init_20 : decode cX6_init 20 = .ok (.invokespecial 18, 3) := by decide +kernel
theorem dX6_init_23 : decode cX6_init 23 = .ok (.putfield 19, 3) := by decide +kernel
theorem dX6_init_26 : decode cX6_init 26 = .ok (.aload_n 0, 1) := by decide +kernel
theorem dX6_init_27 : decode cX6_init 27 = .ok (.new 23, 3) := by decide +kernel
theorem dX6_init_30 : decode cX6_init 30 = .ok (.dup, 1) := by decide +kernel
theorem dX6_init_31 : decode cX6_init 31 = .ok (.invokespecial 25, 3) := by decide +kernel
theorem dX6_init_34 : decode cX6_init 34 = .ok (.putfield 26, 3) := by decide +kernel
theorem dX6_init_37 : decode cX6_init 37 = .ok (.aload_n 0, 1) := by decide +kernel
theorem dX6_init_38 : decode cX6_init 38 = .ok (.new 30, 3) := by decide +kernel
theorem dX6_init_41 : decode cX6_init 41 = .ok (.dup, 1) := by decide +kernel
theorem dX6_init_42 : decode cX6_init 42 = .ok (.invokespecial 32, 3) := by decide +kernel
theorem dX6_init_45 : decode cX6_init 45 = .ok (.putfield 33, 3) := by decide +kernel
theorem dX6_init_48 : decode cX6_init 48 = .ok (.aload_n 0, 1) := by decide +kernel
theorem dX6_init_49 : decode cX6_init 49 = .ok (.iconst 1, 1) := by decide +kernel
theorem dX6_init_50 : decode cX6_init 50 = .ok (.putfield 37, 3) := by decide +kernel
theorem dX6_init_53 : decode cX6_init 53 = .ok (.return_, 1) := by decide +kernel
theorem dX6_row_0 : decode cX6_row 0 = .ok (.iload_n 1, 1) := by decide +kernel
theorem dX6_row_1 : decode cX6_row 1 = .ok (.iconst 0, 1) := by decide +kernel
theorem dX6_row_2 : decode cX6_row 2 = .ok (.sipush 9999, 3) := by decide +kernel
theorem dX6_row_5 : decode cX6_row 5 = .ok (.invokestatic 41, 3) := by decide +kernel
theorem dX6_row_8 : decode cX6_row 8 = .ok (.ifCond .ne 16, 3) := by decide +kernel
theorem dX6_row_11 : decode cX6_row 11 = .ok (.iload_n 2, 1) := by decide +kernel
theorem dX6_row_12 : decode cX6_row 12 = .ok (.sipush (-999), 3) := by decide +kernel
theorem dX6_row_15 : decode cX6_row 15 = .ok (.sipush 999, 3) := by decide +kernel
theorem dX6_row_18 : decode cX6_row 18 = .ok (.invokestatic 41, 3) := by decide +kernel
theorem dX6_row_21 : decode cX6_row 21 = .ok (.ifCond .eq 6, 3) := by decide +kernel
theorem dX6_row_24 : decode cX6_row 24 = .ok (.ldc 45, 2) := by decide +kernel
theorem dX6_row_26 : decode cX6_row 26 = .ok (.ireturn, 1) := by decide +kernel
theorem dX6_row_27 : decode cX6_row 27 = .ok (.aload_n 0, 1) := by decide +kernel
theorem dX6_row_28 : decode cX6_row 28 = .ok (.getfield 10, 3) := by decide +kernel
theorem dX6_row_31 : decode cX6_row 31 = .ok (.getfield 46, 3) := by decide +kernel
theorem dX6_row_34 : decode cX6_row 34 = .ok (.invokevirtual 50, 3) := by decide +kernel
theorem dX6_row_37 : decode cX6_row 37 = .ok (.bipush 100, 2) := by decide +kernel
theorem dX6_row_39 : decode cX6_row 39 = .ok (.if_icmp .lt 6, 3) := by decide +kernel
theorem dX6_row_42 : decode cX6_row 42 = .ok (.ldc 56, 2) := by decide +kernel
theorem dX6_row_44 : decode cX6_row 44 = .ok (.ireturn, 1) := by decide +kernel
theorem dX6_row_45 : decode cX6_row 45 = .ok (.aload_n 0, 1) := by decide +kernel
theorem dX6_row_46 : decode cX6_row 46 = .ok (.invokevirtual 57, 3) := by decide +kernel
theorem dX6_row_49 : decode cX6_row 49 = .ok (.aload_n 0, 1) := by decide +kernel
theorem dX6_row_50 : decode cX6_row 50 = .ok (.getfield 10, 3) := by decide +kernel
theorem dX6_row_53 : decode cX6_row 53 = .ok (.iload_n 1, 1) := by decide +kernel
theorem dX6_row_54 : decode cX6_row 54 = .ok (.iload_n 2, 1) := by decide +kernel
theorem dX6_row_55 : decode cX6_row 55 = .ok (.invokevirtual 60, 3) := by decide +kernel
theorem dX6_row_58 : decode cX6_row 58 = .ok (.aload_n 0, 1) := by decide +kernel
theorem dX6_row_59 : decode cX6_row 59 = .ok (.getfield 10, 3) := by decide +kernel
theorem dX6_row_62 : decode cX6_row 62 = .ok (.getfield 46, 3) := by decide +kernel
theorem dX6_row_65 : decode cX6_row 65 = .ok (.invokevirtual 50, 3) := by decide +kernel
theorem dX6_row_68 : decode cX6_row 68 = .ok (.iconst 1, 1) := by decide +kernel
theorem dX6_row_69 : decode cX6_row 69 = .ok (.isub, 1) := by decide +kernel
theorem dX6_row_70 : decode cX6_row 70 = .ok (.ireturn, 1) := by decide +kernel
theorem dX6_drop_0 : decode cX6_drop 0 = .ok (.iload_n 1, 1) := by decide +kernel
theorem dX6_drop_1 : decode cX6_drop 1 = .ok (.ifCond .ge 6, 3) := by decide +kernel
theorem dX6_drop_4 : decode cX6_drop 4 = .ok (.ldc 45, 2) := by decide +kernel
theorem dX6_drop_6 : decode cX6_drop 6 = .ok (.ireturn, 1) := by decide +kernel
theorem dX6_drop_7 : decode cX6_drop 7 = .ok (.iload_n 1, 1) := by decide +kernel
theorem dX6_drop_8 : decode cX6_drop 8 = .ok (.aload_n 0, 1) := by decide +kernel
theorem dX6_drop_9 : decode cX6_drop 9 = .ok (.getfield 10, 3) := by decide +kernel
theorem dX6_drop_12 : decode cX6_drop 12 = .ok (.getfield 46, 3) := by decide +kernel
theorem dX6_drop_15 : decode cX6_drop 15 = .ok (.invokevirtual 50, 3) := by decide +kernel
theorem dX6_drop_18 : decode cX6_drop 18 = .ok (.if_icmp .lt 6, 3) := by decide +kernel
theorem dX6_drop_21 : decode cX6_drop 21 = .ok (.ldc 64, 2) := by decide +kernel
theorem dX6_drop_23 : decode cX6_drop 23 = .ok (.ireturn, 1) := by decide +kernel
theorem dX6_drop_24 : decode cX6_drop 24 = .ok (.aload_n 0, 1) := by decide +kernel
theorem dX6_drop_25 : decode cX6_drop 25 = .ok (.invokevirtual 57, 3) := by decide +kernel
theorem dX6_drop_28 : decode cX6_drop 28 = .ok (.aload_n 0, 1) := by decide +kernel
theorem dX6_drop_29 : decode cX6_drop 29 = .ok (.getfield 10, 3) := by decide +kernel
theorem dX6_drop_32 : decode cX6_drop 32 = .ok (.getfield 46, 3) := by decide +kernel
theorem dX6_drop_35 : decode cX6_drop 35 = .ok (.iload_n 1, 1) := by decide +kernel
theorem dX6_drop_36 : decode cX6_drop 36 = .ok (.invokevirtual 65, 3) := by decide +kernel
theorem dX6_drop_39 : decode cX6_drop 39 = .ok (.aload_n 0, 1) := by decide +kernel
theorem dX6_drop_40 : decode cX6_drop 40 = .ok (.getfield 10, 3) := by decide +kernel
theorem dX6_drop_43 : decode cX6_drop 43 = .ok (.getfield 46, 3) := by decide +kernel
theorem dX6_drop_46 : decode cX6_drop 46 = .ok (.invokevirtual 50, 3) := by decide +kernel
theorem dX6_drop_49 : decode cX6_drop 49 = .ok (.ireturn, 1) := by decide +kernel
theorem dX6_clear_0 : decode cX6_clear 0 = .ok (.aload_n 0, 1) := by decide +kernel
theorem dX6_clear_1 : decode cX6_clear 1 = .ok (.getfield 10, 3) := by decide +kernel
theorem dX6_clear_4 : decode cX6_clear 4 = .ok (.getfield 46, 3) := by decide +kernel
theorem dX6_clear_7 : decode cX6_clear 7 = .ok (.invokevirtual 50, 3) := by decide +kernel
theorem dX6_clear_10 : decode cX6_clear 10 = .ok (.istore_n 1, 1) := by decide +kernel
theorem dX6_clear_11 : decode cX6_clear 11 = .ok (.aload_n 0, 1) := by decide +kernel
theorem dX6_clear_12 : decode cX6_clear 12 = .ok (.invokevirtual 57, 3) := by decide +kernel
theorem dX6_clear_15 : decode cX6_clear 15 = .ok (.aload_n 0, 1) := by decide +kernel
theorem dX6_clear_16 : decode cX6_clear 16 = .ok (.getfield 10, 3) := by decide +kernel
theorem dX6_clear_19 : decode cX6_clear 19 = .ok (.getfield 46, 3) := by decide +kernel
theorem dX6_clear_22 : decode cX6_clear 22 = .ok (.iconst 0, 1) := by decide +kernel
theorem dX6_clear_23 : decode cX6_clear 23 = .ok (.invokevirtual 69, 3) := by decide +kernel
theorem dX6_clear_26 : decode cX6_clear 26 = .ok (.iload_n 1, 1) := by decide +kernel
theorem dX6_clear_27 : decode cX6_clear 27 = .ok (.ireturn, 1) := by decide +kernel
theorem dX6_set_0 : decode cX6_set 0 = .ok (.iload_n 1, 1) := by decide +kernel
theorem dX6_set_1 : decode cX6_set 1 = .ok (.iload_n 2, 1) := by decide +kernel
theorem dX6_set_2 : decode cX6_set 2 = .ok (.invokestatic 72, 3) := by decide +kernel
theorem dX6_set_5 : decode cX6_set 5 = .ok (.ifCond .ne 6, 3) := by decide +kernel
theorem dX6_set_8 : decode cX6_set 8 = .ok (.ldc 45, 2) := by decide +kernel
theorem dX6_set_10 : decode cX6_set 10 = .ok (.ireturn, 1) := by decide +kernel
theorem dX6_set_11 : decode cX6_set 11 = .ok (.aload_n 0, 1) := by decide +kernel
theorem dX6_set_12 : decode cX6_set 12 = .ok (.invokevirtual 57, 3) := by decide +kernel
theorem dX6_set_15 : decode cX6_set 15 = .ok (.aload_n 0, 1) := by decide +kernel
theorem dX6_set_16 : decode cX6_set 16 = .ok (.getfield 10, 3) := by decide +kernel
theorem dX6_set_19 : decode cX6_set 19 = .ok (.iload_n 1, 1) := by decide +kernel
theorem dX6_set_20 : decode cX6_set 20 = .ok (.invokevirtual 76, 3) := by decide +kernel
theorem dX6_set_23 : decode cX6_set 23 = .ok (.istore_n 3, 1) := by decide +kernel
theorem dX6_set_24 : decode cX6_set 24 = .ok (.aload_n 0, 1) := by decide +kernel
theorem dX6_set_25 : decode cX6_set 25 = .ok (.getfield 10, 3) := by decide +kernel
theorem dX6_set_28 : decode cX6_set 28 = .ok (.getfield 80, 3) := by decide +kernel
theorem dX6_set_31 : decode cX6_set 31 = .ok (.iload_n 1, 1) := by decide +kernel
theorem dX6_set_32 : decode cX6_set 32 = .ok (.iconst 0, 1) := by decide +kernel
theorem dX6_set_33 : decode cX6_set 33 = .ok (.iload_n 2, 1) := by decide +kernel
theorem dX6_set_34 : decode cX6_set 34 = .ok (.invokevirtual 83, 3) := by decide +kernel
theorem dX6_set_37 : decode cX6_set 37 = .ok (.iload_n 3, 1) := by decide +kernel
theorem dX6_set_38 : decode cX6_set 38 = .ok (.ireturn, 1) := by decide +kernel
theorem dX6_rowOf_0 : decode cX6_rowOf 0 = .ok (.iload_n 1, 1) := by decide +kernel
theorem dX6_rowOf_1 : decode cX6_rowOf 1 = .ok (.ifCond .lt 12, 3) := by decide +kernel
theorem dX6_rowOf_4 : decode cX6_rowOf 4 = .ok (.iload_n 2, 1) := by decide +kernel
theorem dX6_rowOf_5 : decode cX6_rowOf 5 = .ok (.iconst 0, 1) := by decide +kernel
theorem dX6_rowOf_6 : decode cX6_rowOf 6 = .ok (.iconst 3, 1) := by decide +kernel
theorem dX6_rowOf_7 : decode cX6_rowOf 7 = .ok (.invokestatic 41, 3) := by decide +kernel
theorem dX6_rowOf_10 : decode cX6_rowOf 10 = .ok (.ifCond .eq 6, 3) := by decide +kernel
theorem dX6_rowOf_13 : decode cX6_rowOf 13 = .ok (.ldc 45, 2) := by decide +kernel
theorem dX6_rowOf_15 : decode cX6_rowOf 15 = .ok (.ireturn, 1) := by decide +kernel
theorem dX6_rowOf_16 : decode cX6_rowOf 16 = .ok (.iload_n 1, 1) := by decide +kernel
theorem dX6_rowOf_17 : decode cX6_rowOf 17 = .ok (.aload_n 0, 1) := by decide +kernel
theorem dX6_rowOf_18 : decode cX6_rowOf 18 = .ok (.getfield 10, 3) := by decide +kernel
theorem dX6_rowOf_21 : decode cX6_rowOf 21 = .ok (.getfield 46, 3) := by decide +kernel
theorem dX6_rowOf_24 : decode cX6_rowOf 24 = .ok (.invokevirtual 50, 3) := by decide +kernel
theorem dX6_rowOf_27 : decode cX6_rowOf 27 = .ok (.if_icmp .lt 6, 3) := by decide +kernel
theorem dX6_rowOf_30 : decode cX6_rowOf 30 = .ok (.ldc 87, 2) := by decide +kernel
theorem dX6_rowOf_32 : decode cX6_rowOf 32 = .ok (.ireturn, 1) := by decide +kernel
theorem dX6_rowOf_33 : decode cX6_rowOf 33 = .ok (.iload_n 2, 1) := by decide +kernel
theorem dX6_rowOf_34 : decode cX6_rowOf 34 = .ok (.tableswitch 53 0 2 #[26, 35, 44], 26) := by decide +kernel
theorem dX6_rowOf_60 : decode cX6_rowOf 60 = .ok (.aload_n 0, 1) := by decide +kernel
theorem dX6_rowOf_61 : decode cX6_rowOf 61 = .ok (.getfield 10, 3) := by decide +kernel
theorem dX6_rowOf_64 : decode cX6_rowOf 64 = .ok (.iload_n 1, 1) := by decide +kernel
theorem dX6_rowOf_65 : decode cX6_rowOf 65 = .ok (.invokevirtual 88, 3) := by decide +kernel
theorem dX6_rowOf_68 : decode cX6_rowOf 68 = .ok (.ireturn, 1) := by decide +kernel
theorem dX6_rowOf_69 : decode cX6_rowOf 69 = .ok (.aload_n 0, 1) := by decide +kernel
theorem dX6_rowOf_70 : decode cX6_rowOf 70 = .ok (.getfield 10, 3) := by decide +kernel
theorem dX6_rowOf_73 : decode cX6_rowOf 73 = .ok (.iload_n 1, 1) := by decide +kernel
theorem dX6_rowOf_74 : decode cX6_rowOf 74 = .ok (.invokevirtual 91, 3) := by decide +kernel
theorem dX6_rowOf_77 : decode cX6_rowOf 77 = .ok (.ireturn, 1) := by decide +kernel
theorem dX6_rowOf_78 : decode cX6_rowOf 78 = .ok (.aload_n 0, 1) := by decide +kernel
theorem dX6_rowOf_79 : decode cX6_rowOf 79 = .ok (.getfield 10, 3) := by decide +kernel
theorem dX6_rowOf_82 : decode cX6_rowOf 82 = .ok (.iload_n 1, 1) := by decide +kernel
theorem dX6_rowOf_83 : decode cX6_rowOf 83 = .ok (.invokevirtual 94, 3) := by decide +kernel
theorem dX6_rowOf_86 : decode cX6_rowOf 86 = .ok (.ireturn, 1) := by decide +kernel
theorem dX6_rowOf_87 : decode cX6_rowOf 87 = .ok (.aload_n 0, 1) := by decide +kernel
theorem dX6_rowOf_88 : decode cX6_rowOf 88 = .ok (.aload_n 0, 1) := by decide +kernel
theorem dX6_rowOf_89 : decode cX6_rowOf 89 = .ok (.getfield 10, 3) := by decide +kernel
theorem dX6_rowOf_92 : decode cX6_rowOf 92 = .ok (.iload_n 1, 1) := by decide +kernel
theorem dX6_rowOf_93 : decode cX6_rowOf 93 = .ok (.invokevirtual 94, 3) := by decide +kernel
theorem dX6_rowOf_96 : decode cX6_rowOf 96 = .ok (.invokevirtual 97, 3) := by decide +kernel
theorem dX6_rowOf_99 : decode cX6_rowOf 99 = .ok (.ireturn, 1) := by decide +kernel
theorem dX6_groupOf_0 : decode cX6_groupOf 0 = .ok (.iload_n 1, 1) := by decide +kernel
theorem dX6_groupOf_1 : decode cX6_groupOf 1 = .ok (.ifCond .lt 13, 3) := by decide +kernel
theorem dX6_groupOf_4 : decode cX6_groupOf 4 = .ok (.iload_n 2, 1) := by decide +kernel
theorem dX6_groupOf_5 : decode cX6_groupOf 5 = .ok (.iconst 0, 1) := by decide +kernel
theorem dX6_groupOf_6 : decode cX6_groupOf 6 = .ok (.bipush 7, 2) := by decide +kernel
theorem dX6_groupOf_8 : decode cX6_groupOf 8 = .ok (.invokestatic 41, 3) := by decide +kernel
theorem dX6_groupOf_11 : decode cX6_groupOf 11 = .ok (.ifCond .eq 6, 3) := by decide +kernel
theorem dX6_groupOf_14 : decode cX6_groupOf 14 = .ok (.ldc 45, 2) := by decide +kernel
theorem dX6_groupOf_16 : decode cX6_groupOf 16 = .ok (.ireturn, 1) := by decide +kernel
theorem dX6_groupOf_17 : decode cX6_groupOf 17 = .ok (.aload_n 0, 1) := by decide +kernel
theorem dX6_groupOf_18 : decode cX6_groupOf 18 = .ok (.invokevirtual 100, 3) := by decide +kernel
theorem dX6_groupOf_21 : decode cX6_groupOf 21 = .ok (.getfield 104, 3) := by decide +kernel
theorem dX6_groupOf_24 : decode cX6_groupOf 24 = .ok (.astore_n 3, 1) := by decide +kernel
theorem dX6_groupOf_25 : decode cX6_groupOf 25 = .ok (.iload_n 1, 1) := by decide +kernel
theorem dX6_groupOf_26 : decode cX6_groupOf 26 = .ok (.aload_n 3, 1) := by decide +kernel
theorem dX6_groupOf_27 : decode cX6_groupOf 27 = .ok (.invokevirtual 50, 3) := by decide +kernel
theorem dX6_groupOf_30 : decode cX6_groupOf 30 = .ok (.if_icmp .lt 6, 3) := by decide +kernel
theorem dX6_groupOf_33 : decode cX6_groupOf 33 = .ok (.ldc 87, 2) := by decide +kernel
theorem dX6_groupOf_35 : decode cX6_groupOf 35 = .ok (.ireturn, 1) := by decide +kernel
theorem dX6_groupOf_36 : decode cX6_groupOf 36 = .ok (.iload_n 2, 1) := by decide +kernel
theorem dX6_groupOf_37 : decode cX6_groupOf 37 = .ok (.iconst 4, 1) := by decide +kernel
theorem dX6_groupOf_38 : decode cX6_groupOf 38 = .ok (.if_icmp .gt 10, 3) := by decide +kernel
theorem dX6_groupOf_41 : decode cX6_groupOf 41 = .ok (.aload_n 3, 1) := by decide +kernel
theorem dX6_groupOf_42 : decode cX6_groupOf 42 = .ok (.iload_n 1, 1) := by decide +kernel
theorem dX6_groupOf_43 : decode cX6_groupOf 43 = .ok (.iload_n 2, 1) := by decide +kernel
theorem dX6_groupOf_44 : decode cX6_groupOf 44 = .ok (.invokevirtual 109, 3) := by decide +kernel
theorem dX6_groupOf_47 : decode cX6_groupOf 47 = .ok (.ireturn, 1) := by decide +kernel
theorem dX6_groupOf_48 : decode cX6_groupOf 48 = .ok (.aload_n 0, 1) := by decide +kernel
theorem dX6_groupOf_49 : decode cX6_groupOf 49 = .ok (.invokevirtual 113, 3) := by decide +kernel
theorem dX6_groupOf_52 : decode cX6_groupOf 52 = .ok (.getfield 117, 3) := by decide +kernel
theorem dX6_groupOf_55 : decode cX6_groupOf 55 = .ok (.iload_n 1, 1) := by decide +kernel
theorem dX6_groupOf_56 : decode cX6_groupOf 56 = .ok (.iload_n 2, 1) := by decide +kernel
theorem dX6_groupOf_57 : decode cX6_groupOf 57 = .ok (.iconst 4, 1) := by decide +kernel
theorem dX6_groupOf_58 : decode cX6_groupOf 58 = .ok (.isub, 1) := by decide +kernel
theorem dX6_groupOf_59 : decode cX6_groupOf 59 = .ok (.iconst 1, 1) := by decide +kernel
theorem dX6_groupOf_60 : decode cX6_groupOf 60 = .ok (.isub, 1) := by decide +kernel
theorem dX6_groupOf_61 : decode cX6_groupOf 61 = .ok (.invokevirtual 109, 3) := by decide +kernel
theorem dX6_groupOf_64 : decode cX6_groupOf 64 = .ok (.ireturn, 1) := by decide +kernel
theorem dX6_finished_0 : decode cX6_finished 0 = .ok (.iload_n 1, 1) := by decide +kernel
theorem dX6_finished_1 : decode cX6_finished 1 = .ok (.ifCond .ge 6, 3) := by decide +kernel
theorem dX6_finished_4 : decode cX6_finished 4 = .ok (.ldc 45, 2) := by decide +kernel
theorem dX6_finished_6 : decode cX6_finished 6 = .ok (.ireturn, 1) := by decide +kernel
theorem dX6_finished_7 : decode cX6_finished 7 = .ok (.aload_n 0, 1) := by decide +kernel
theorem dX6_finished_8 : decode cX6_finished 8 = .ok (.invokevirtual 113, 3) := by decide +kernel
theorem dX6_finished_11 : decode cX6_finished 11 = .ok (.astore_n 2, 1) := by decide +kernel
theorem dX6_finished_12 : decode cX6_finished 12 = .ok (.iload_n 1, 1) := by decide +kernel
theorem dX6_finished_13 : decode cX6_finished 13 = .ok (.aload_n 2, 1) := by decide +kernel
theorem dX6_finished_14 : decode cX6_finished 14 = .ok (.getfield 120, 3) := by decide +kernel
theorem dX6_finished_17 : decode cX6_finished 17 = .ok (.invokevirtual 50, 3) := by decide +kernel
theorem dX6_finished_20 : decode cX6_finished 20 = .ok (.if_icmp .lt 6, 3) := by decide +kernel
theorem dX6_finished_23 : decode cX6_finished 23 = .ok (.ldc 87, 2) := by decide +kernel
theorem dX6_finished_25 : decode cX6_finished 25 = .ok (.ireturn, 1) := by decide +kernel
theorem dX6_finished_26 : decode cX6_finished 26 = .ok (.aload_n 2, 1) := by decide +kernel
theorem dX6_finished_27 : decode cX6_finished 27 = .ok (.getfield 123, 3) := by decide +kernel
theorem dX6_finished_30 : decode cX6_finished 30 = .ok (.getfield 104, 3) := by decide +kernel
theorem dX6_finished_33 : decode cX6_finished 33 = .ok (.aload_n 2, 1) := by decide +kernel
theorem dX6_finished_34 : decode cX6_finished 34 = .ok (.getfield 120, 3) := by decide +kernel
theorem dX6_finished_37 : decode cX6_finished 37 = .ok (.iload_n 1, 1) := by decide +kernel
theorem dX6_finished_38 : decode cX6_finished 38 = .ok (.iconst 0, 1) := by decide +kernel
theorem dX6_finished_39 : decode cX6_finished 39 = .ok (.invokevirtual 109, 3) := by decide +kernel
theorem dX6_finished_42 : decode cX6_finished 42 = .ok (.iconst 0, 1) := by decide +kernel
theorem dX6_finished_43 : decode cX6_finished 43 = .ok (.invokevirtual 109, 3) := by decide +kernel
theorem dX6_finished_46 : decode cX6_finished 46 = .ok (.ireturn, 1) := by decide +kernel
theorem dX6_passOf_0 : decode cX6_passOf 0 = .ok (.iload_n 1, 1) := by decide +kernel
theorem dX6_passOf_1 : decode cX6_passOf 1 = .ok (.iconst 0, 1) := by decide +kernel
theorem dX6_passOf_2 : decode cX6_passOf 2 = .ok (.bipush 15, 2) := by decide +kernel
theorem dX6_passOf_4 : decode cX6_passOf 4 = .ok (.invokestatic 41, 3) := by decide +kernel
theorem dX6_passOf_7 : decode cX6_passOf 7 = .ok (.ifCond .ne 22, 3) := by decide +kernel
theorem dX6_passOf_10 : decode cX6_passOf 10 = .ok (.iload_n 2, 1) := by decide +kernel
theorem dX6_passOf_11 : decode cX6_passOf 11 = .ok (.iconst 0, 1) := by decide +kernel
theorem dX6_passOf_12 : decode cX6_passOf 12 = .ok (.ldc 127, 2) := by decide +kernel
theorem dX6_passOf_14 : decode cX6_passOf 14 = .ok (.invokestatic 41, 3) := by decide +kernel
theorem dX6_passOf_17 : decode cX6_passOf 17 = .ok (.ifCond .ne 12, 3) := by decide +kernel
theorem dX6_passOf_20 : decode cX6_passOf 20 = .ok (.iload_n 3, 1) := by decide +kernel
theorem dX6_passOf_21 : decode cX6_passOf 21 = .ok (.iconst 0, 1) := by decide +kernel
theorem dX6_passOf_22 : decode cX6_passOf 22 = .ok (.iconst 5, 1) := by decide +kernel
theorem dX6_passOf_23 : decode cX6_passOf 23 = .ok (.invokestatic 41, 3) := by decide +kernel
theorem dX6_passOf_26 : decode cX6_passOf 26 = .ok (.ifCond .eq 6, 3) := by decide +kernel
theorem dX6_passOf_29 : decode cX6_passOf 29 = .ok (.ldc 45, 2) := by decide +kernel
theorem dX6_passOf_31 : decode cX6_passOf 31 = .ok (.ireturn, 1) := by decide +kernel
theorem dX6_passOf_32 : decode cX6_passOf 32 = .ok (.aload_n 0, 1) := by decide +kernel
theorem dX6_passOf_33 : decode cX6_passOf 33 = .ok (.invokevirtual 113, 3) := by decide +kernel
theorem dX6_passOf_36 : decode cX6_passOf 36 = .ok (.iload_n 1, 1) := by decide +kernel
theorem dX6_passOf_37 : decode cX6_passOf 37 = .ok (.iload_n 2, 1) := by decide +kernel
theorem dX6_passOf_38 : decode cX6_passOf 38 = .ok (.invokevirtual 128, 3) := by decide +kernel
theorem dX6_passOf_41 : decode cX6_passOf 41 = .ok (.istore 4, 2) := by decide +kernel
theorem dX6_passOf_43 : decode cX6_passOf 43 = .ok (.iload 4, 2) := by decide +kernel
theorem dX6_passOf_45 : decode cX6_passOf 45 = .ok (.ifCond .ge 8, 3) := by decide +kernel
theorem dX6_passOf_48 : decode cX6_passOf 48 = .ok (.ldc 87, 2) := by decide +kernel
theorem dX6_passOf_50 : decode cX6_passOf 50 = .ok (.goto 16, 3) := by decide +kernel
theorem dX6_passOf_53 : decode cX6_passOf 53 = .ok (.aload_n 0, 1) := by decide +kernel
theorem dX6_passOf_54 : decode cX6_passOf 54 = .ok (.getfield 26, 3) := by decide +kernel
theorem dX6_passOf_57 : decode cX6_passOf 57 = .ok (.getfield 131, 3) := by decide +kernel
theorem dX6_passOf_60 : decode cX6_passOf 60 = .ok (.iload 4, 2) := by decide +kernel
theorem dX6_passOf_62 : decode cX6_passOf 62 = .ok (.iload_n 3, 1) := by decide +kernel
theorem dX6_passOf_63 : decode cX6_passOf 63 = .ok (.invokevirtual 109, 3) := by decide +kernel
theorem dX6_passOf_66 : decode cX6_passOf 66 = .ok (.ireturn, 1) := by decide +kernel
theorem dX6_spillOf_0 : decode cX6_spillOf 0 = .ok (.iload_n 1, 1) := by decide +kernel
theorem dX6_spillOf_1 : decode cX6_spillOf 1 = .ok (.ifCond .lt 12, 3) := by decide +kernel
theorem dX6_spillOf_4 : decode cX6_spillOf 4 = .ok (.iload_n 2, 1) := by decide +kernel
theorem dX6_spillOf_5 : decode cX6_spillOf 5 = .ok (.iconst 0, 1) := by decide +kernel
theorem dX6_spillOf_6 : decode cX6_spillOf 6 = .ok (.iconst 4, 1) := by decide +kernel
theorem dX6_spillOf_7 : decode cX6_spillOf 7 = .ok (.invokestatic 41, 3) := by decide +kernel
theorem dX6_spillOf_10 : decode cX6_spillOf 10 = .ok (.ifCond .eq 6, 3) := by decide +kernel
theorem dX6_spillOf_13 : decode cX6_spillOf 13 = .ok (.ldc 45, 2) := by decide +kernel
theorem dX6_spillOf_15 : decode cX6_spillOf 15 = .ok (.ireturn, 1) := by decide +kernel
theorem dX6_spillOf_16 : decode cX6_spillOf 16 = .ok (.aload_n 0, 1) := by decide +kernel
theorem dX6_spillOf_17 : decode cX6_spillOf 17 = .ok (.invokevirtual 113, 3) := by decide +kernel
theorem dX6_spillOf_20 : decode cX6_spillOf 20 = .ok (.getfield 133, 3) := by decide +kernel
theorem dX6_spillOf_23 : decode cX6_spillOf 23 = .ok (.astore_n 3, 1) := by decide +kernel
theorem dX6_spillOf_24 : decode cX6_spillOf 24 = .ok (.iload_n 1, 1) := by decide +kernel
theorem dX6_spillOf_25 : decode cX6_spillOf 25 = .ok (.aload_n 3, 1) := by decide +kernel
theorem dX6_spillOf_26 : decode cX6_spillOf 26 = .ok (.invokevirtual 50, 3) := by decide +kernel
theorem dX6_spillOf_29 : decode cX6_spillOf 29 = .ok (.if_icmp .lt 8, 3) := by decide +kernel
theorem dX6_spillOf_32 : decode cX6_spillOf 32 = .ok (.ldc 87, 2) := by decide +kernel
theorem dX6_spillOf_34 : decode cX6_spillOf 34 = .ok (.goto 9, 3) := by decide +kernel
theorem dX6_spillOf_37 : decode cX6_spillOf 37 = .ok (.aload_n 3, 1) := by decide +kernel
theorem dX6_spillOf_38 : decode cX6_spillOf 38 = .ok (.iload_n 1, 1) := by decide +kernel
theorem dX6_spillOf_39 : decode cX6_spillOf 39 = .ok (.iload_n 2, 1) := by decide +kernel
theorem dX6_spillOf_40 : decode cX6_spillOf 40 = .ok (.invokevirtual 109, 3) := by decide +kernel
theorem dX6_spillOf_43 : decode cX6_spillOf 43 = .ok (.ireturn, 1) := by decide +kernel
theorem dX6_total_0 : decode cX6_total 0 = .ok (.aload_n 0, 1) := by decide +kernel
theorem dX6_total_1 : decode cX6_total 1 = .ok (.invokevirtual 113, 3) := by decide +kernel
theorem dX6_total_4 : decode cX6_total 4 = .ok (.astore_n 2, 1) := by decide +kernel
theorem dX6_total_5 : decode cX6_total 5 = .ok (.iload_n 1, 1) := by decide +kernel
theorem dX6_total_6 : decode cX6_total 6 = .ok (.tableswitch 104 0 7 #[46, 54, 62, 70, 75, 80, 90, 99], 46) := by decide +kernel
theorem dX6_total_52 : decode cX6_total 52 = .ok (.aload_n 2, 1) := by decide +kernel
theorem dX6_total_53 : decode cX6_total 53 = .ok (.getfield 120, 3) := by decide +kernel
theorem dX6_total_56 : decode cX6_total 56 = .ok (.invokevirtual 50, 3) := by decide +kernel
theorem dX6_total_59 : decode cX6_total 59 = .ok (.ireturn, 1) := by decide +kernel
theorem dX6_total_60 : decode cX6_total 60 = .ok (.aload_n 2, 1) := by decide +kernel
theorem dX6_total_61 : decode cX6_total 61 = .ok (.getfield 131, 3) := by decide +kernel
theorem dX6_total_64 : decode cX6_total 64 = .ok (.invokevirtual 50, 3) := by decide +kernel
theorem dX6_total_67 : decode cX6_total 67 = .ok (.ireturn, 1) := by decide +kernel
theorem dX6_total_68 : decode cX6_total 68 = .ok (.aload_n 2, 1) := by decide +kernel
theorem dX6_total_69 : decode cX6_total 69 = .ok (.getfield 133, 3) := by decide +kernel
theorem dX6_total_72 : decode cX6_total 72 = .ok (.invokevirtual 50, 3) := by decide +kernel
theorem dX6_total_75 : decode cX6_total 75 = .ok (.ireturn, 1) := by decide +kernel
theorem dX6_total_76 : decode cX6_total 76 = .ok (.aload_n 2, 1) := by decide +kernel
theorem dX6_total_77 : decode cX6_total 77 = .ok (.invokevirtual 136, 3) := by decide +kernel
theorem dX6_total_80 : decode cX6_total 80 = .ok (.ireturn, 1) := by decide +kernel
theorem dX6_total_81 : decode cX6_total 81 = .ok (.aload_n 2, 1) := by decide +kernel
theorem dX6_total_82 : decode cX6_total 82 = .ok (.invokevirtual 139, 3) := by decide +kernel
theorem dX6_total_85 : decode cX6_total 85 = .ok (.ireturn, 1) := by decide +kernel
theorem dX6_total_86 : decode cX6_total 86 = .ok (.aload_n 2, 1) := by decide +kernel
theorem dX6_total_87 : decode cX6_total 87 = .ok (.getfield 131, 3) := by decide +kernel
theorem dX6_total_90 : decode cX6_total 90 = .ok (.bipush 6, 2) := by decide +kernel
theorem dX6_total_92 : decode cX6_total 92 = .ok (.invokevirtual 142, 3) := by decide +kernel
theorem dX6_total_95 : decode cX6_total 95 = .ok (.ireturn, 1) := by decide +kernel
theorem dX6_total_96 : decode cX6_total 96 = .ok (.aload_n 2, 1) := by decide +kernel
theorem dX6_total_97 : decode cX6_total 97 = .ok (.getfield 131, 3) := by decide +kernel
theorem dX6_total_100 : decode cX6_total 100 = .ok (.iconst 4, 1) := by decide +kernel
theorem dX6_total_101 : decode cX6_total 101 = .ok (.invokevirtual 142, 3) := by decide +kernel
theorem dX6_total_104 : decode cX6_total 104 = .ok (.ireturn, 1) := by decide +kernel
theorem dX6_total_105 : decode cX6_total 105 = .ok (.aload_n 2, 1) := by decide +kernel
theorem dX6_total_106 : decode cX6_total 106 = .ok (.getfield 145, 3) := by decide +kernel
theorem dX6_total_109 : decode cX6_total 109 = .ok (.ireturn, 1) := by decide +kernel
theorem dX6_total_110 : decode cX6_total 110 = .ok (.ldc 45, 2) := by decide +kernel
theorem dX6_total_112 : decode cX6_total 112 = .ok (.ireturn, 1) := by decide +kernel
theorem dX6_written_0 : decode cX6_written 0 = .ok (.iload_n 1, 1) := by decide +kernel
theorem dX6_written_1 : decode cX6_written 1 = .ok (.iconst 1, 1) := by decide +kernel
theorem dX6_written_2 : decode cX6_written 2 = .ok (.bipush 12, 2) := by decide +kernel
theorem dX6_written_4 : decode cX6_written 4 = .ok (.invokestatic 41, 3) := by decide +kernel
theorem dX6_written_7 : decode cX6_written 7 = .ok (.ifCond .ne 12, 3) := by decide +kernel
theorem dX6_written_10 : decode cX6_written 10 = .ok (.iload_n 2, 1) := by decide +kernel
theorem dX6_written_11 : decode cX6_written 11 = .ok (.iconst 1, 1) := by decide +kernel
theorem dX6_written_12 : decode cX6_written 12 = .ok (.iconst 4, 1) := by decide +kernel
theorem dX6_written_13 : decode cX6_written 13 = .ok (.invokestatic 41, 3) := by decide +kernel
theorem dX6_written_16 : decode cX6_written 16 = .ok (.ifCond .eq 6, 3) := by decide +kernel
theorem dX6_written_19 : decode cX6_written 19 = .ok (.ldc 45, 2) := by decide +kernel
theorem dX6_written_21 : decode cX6_written 21 = .ok (.ireturn, 1) := by decide +kernel
theorem dX6_written_22 : decode cX6_written 22 = .ok (.aload_n 0, 1) := by decide +kernel
theorem dX6_written_23 : decode cX6_written 23 = .ok (.iload_n 1, 1) := by decide +kernel
theorem dX6_written_24 : decode cX6_written 24 = .ok (.iload_n 2, 1) := by decide +kernel
theorem dX6_written_25 : decode cX6_written 25 = .ok (.invokevirtual 149, 3) := by decide +kernel
theorem dX6_written_28 : decode cX6_written 28 = .ok (.invokevirtual 136, 3) := by decide +kernel
theorem dX6_written_31 : decode cX6_written 31 = .ok (.ireturn, 1) := by decide +kernel
theorem dX6_bestBits_0 : decode cX6_bestBits 0 = .ok (.iload_n 1, 1) := by decide +kernel
theorem dX6_bestBits_1 : decode cX6_bestBits 1 = .ok (.iconst 1, 1) := by decide +kernel
theorem dX6_bestBits_2 : decode cX6_bestBits 2 = .ok (.bipush 12, 2) := by decide +kernel
theorem dX6_bestBits_4 : decode cX6_bestBits 4 = .ok (.invokestatic 41, 3) := by decide +kernel
theorem dX6_bestBits_7 : decode cX6_bestBits 7 = .ok (.ifCond .ne 12, 3) := by decide +kernel
theorem dX6_bestBits_10 : decode cX6_bestBits 10 = .ok (.iload_n 2, 1) := by decide +kernel
theorem dX6_bestBits_11 : decode cX6_bestBits 11 = .ok (.iconst 0, 1) := by decide +kernel
theorem dX6_bestBits_12 : decode cX6_bestBits 12 = .ok (.iconst 1, 1) := by decide +kernel
theorem dX6_bestBits_13 : decode cX6_bestBits 13 = .ok (.invokestatic 41, 3) := by decide +kernel
theorem dX6_bestBits_16 : decode cX6_bestBits 16 = .ok (.ifCond .eq 6, 3) := by decide +kernel
theorem dX6_bestBits_19 : decode cX6_bestBits 19 = .ok (.ldc 45, 2) := by decide +kernel
theorem dX6_bestBits_21 : decode cX6_bestBits 21 = .ok (.ireturn, 1) := by decide +kernel
theorem dX6_bestBits_22 : decode cX6_bestBits 22 = .ok (.iconst 1, 1) := by decide +kernel
theorem dX6_bestBits_23 : decode cX6_bestBits 23 = .ok (.istore_n 3, 1) := by decide +kernel
theorem dX6_bestBits_24 : decode cX6_bestBits 24 = .ok (.aload_n 0, 1) := by decide +kernel
theorem dX6_bestBits_25 : decode cX6_bestBits 25 = .ok (.iload_n 1, 1) := by decide +kernel
theorem dX6_bestBits_26 : decode cX6_bestBits 26 = .ok (.iconst 1, 1) := by decide +kernel
theorem dX6_bestBits_27 : decode cX6_bestBits 27 = .ok (.invokevirtual 149, 3) := by decide +kernel
theorem dX6_bestBits_30 : decode cX6_bestBits 30 = .ok (.invokevirtual 136, 3) := by decide +kernel
theorem dX6_bestBits_33 : decode cX6_bestBits 33 = .ok (.istore 4, 2) := by decide +kernel
theorem dX6_bestBits_35 : decode cX6_bestBits 35 = .ok (.iconst 2, 1) := by decide +kernel
theorem dX6_bestBits_36 : decode cX6_bestBits 36 = .ok (.istore 5, 2) := by decide +kernel
theorem dX6_bestBits_38 : decode cX6_bestBits 38 = .ok (.iload 5, 2) := by decide +kernel
theorem dX6_bestBits_40 : decode cX6_bestBits 40 = .ok (.iconst 4, 1) := by decide +kernel
theorem dX6_bestBits_41 : decode cX6_bestBits 41 = .ok (.if_icmp .gt 35, 3) := by decide +kernel
theorem dX6_bestBits_44 : decode cX6_bestBits 44 = .ok (.aload_n 0, 1) := by decide +kernel
theorem dX6_bestBits_45 : decode cX6_bestBits 45 = .ok (.iload_n 1, 1) := by decide +kernel
theorem dX6_bestBits_46 : decode cX6_bestBits 46 = .ok (.iload 5, 2) := by decide +kernel
theorem dX6_bestBits_48 : decode cX6_bestBits 48 = .ok (.invokevirtual 149, 3) := by decide +kernel
theorem dX6_bestBits_51 : decode cX6_bestBits 51 = .ok (.invokevirtual 136, 3) := by decide +kernel
theorem dX6_bestBits_54 : decode cX6_bestBits 54 = .ok (.istore 6, 2) := by decide +kernel
theorem dX6_bestBits_56 : decode cX6_bestBits 56 = .ok (.iload 6, 2) := by decide +kernel
theorem dX6_bestBits_58 : decode cX6_bestBits 58 = .ok (.iload 4, 2) := by decide +kernel
theorem dX6_bestBits_60 : decode cX6_bestBits 60 = .ok (.if_icmp .ge 10, 3) := by decide +kernel
theorem dX6_bestBits_63 : decode cX6_bestBits 63 = .ok (.iload 5, 2) := by decide +kernel
theorem dX6_bestBits_65 : decode cX6_bestBits 65 = .ok (.istore_n 3, 1) := by decide +kernel
theorem dX6_bestBits_66 : decode cX6_bestBits 66 = .ok (.iload 6, 2) := by decide +kernel
theorem dX6_bestBits_68 : decode cX6_bestBits 68 = .ok (.istore 4, 2) := by decide +kernel
theorem dX6_bestBits_70 : decode cX6_bestBits 70 = .ok (.iinc 5 1, 3) := by decide +kernel
theorem dX6_bestBits_73 : decode cX6_bestBits 73 = .ok (.goto (-35), 3) := by decide +kernel
theorem dX6_bestBits_76 : decode cX6_bestBits 76 = .ok (.iload_n 2, 1) := by decide +kernel
theorem dX6_bestBits_77 : decode cX6_bestBits 77 = .ok (.ifCond .ne 7, 3) := by decide +kernel
theorem dX6_bestBits_80 : decode cX6_bestBits 80 = .ok (.iload_n 3, 1) := by decide +kernel
theorem dX6_bestBits_81 : decode cX6_bestBits 81 = .ok (.goto 5, 3) := by decide +kernel
theorem dX6_bestBits_84 : decode cX6_bestBits 84 = .ok (.iload 4, 2) := by decide +kernel
theorem dX6_bestBits_86 : decode cX6_bestBits 86 = .ok (.ireturn, 1) := by decide +kernel
theorem dX6_enough_0 : decode cX6_enough 0 = .ok (.aload_n 0, 1) := by decide +kernel
theorem dX6_enough_1 : decode cX6_enough 1 = .ok (.invokevirtual 100, 3) := by decide +kernel
theorem dX6_enough_4 : decode cX6_enough 4 = .ok (.getfield 104, 3) := by decide +kernel
theorem dX6_enough_7 : decode cX6_enough 7 = .ok (.invokevirtual 50, 3) := by decide +kernel
theorem dX6_enough_10 : decode cX6_enough 10 = .ok (.iconst 1, 1) := by decide +kernel
theorem dX6_enough_11 : decode cX6_enough 11 = .ok (.invokestatic 153, 3) := by decide +kernel
theorem dX6_enough_14 : decode cX6_enough 14 = .ok (.istore_n 1, 1) := by decide +kernel
theorem dX6_enough_15 : decode cX6_enough 15 = .ok (.iload_n 1, 1) := by decide +kernel
theorem dX6_enough_16 : decode cX6_enough 16 = .ok (.bipush 12, 2) := by decide +kernel
theorem dX6_enough_18 : decode cX6_enough 18 = .ok (.if_icmp .le 8, 3) := by decide +kernel
theorem dX6_enough_21 : decode cX6_enough 21 = .ok (.ldc 87, 2) := by decide +kernel
theorem dX6_enough_23 : decode cX6_enough 23 = .ok (.goto 4, 3) := by decide +kernel
theorem dX6_enough_26 : decode cX6_enough 26 = .ok (.iload_n 1, 1) := by decide +kernel
theorem dX6_enough_27 : decode cX6_enough 27 = .ok (.ireturn, 1) := by decide +kernel
theorem dX6_skewed_0 : decode cX6_skewed 0 = .ok (.iload_n 1, 1) := by decide +kernel
theorem dX6_skewed_1 : decode cX6_skewed 1 = .ok (.iconst 0, 1) := by decide +kernel
theorem dX6_skewed_2 : decode cX6_skewed 2 = .ok (.iconst 2, 1) := by decide +kernel
theorem dX6_skewed_3 : decode cX6_skewed 3 = .ok (.invokestatic 41, 3) := by decide +kernel
theorem dX6_skewed_6 : decode cX6_skewed 6 = .ok (.ifCond .eq 6, 3) := by decide +kernel
theorem dX6_skewed_9 : decode cX6_skewed 9 = .ok (.ldc 45, 2) := by decide +kernel
theorem dX6_skewed_11 : decode cX6_skewed 11 = .ok (.ireturn, 1) := by decide +kernel
theorem dX6_skewed_12 : decode cX6_skewed 12 = .ok (.aload_n 0, 1) := by decide +kernel
theorem dX6_skewed_13 : decode cX6_skewed 13 = .ok (.getfield 10, 3) := by decide +kernel
theorem dX6_skewed_16 : decode cX6_skewed 16 = .ok (.getfield 46, 3) := by decide +kernel
theorem dX6_skewed_19 : decode cX6_skewed 19 = .ok (.invokevirtual 50, 3) := by decide +kernel
theorem dX6_skewed_22 : decode cX6_skewed 22 = .ok (.ifCond .ne 6, 3) := by decide +kernel
theorem dX6_skewed_25 : decode cX6_skewed 25 = .ok (.ldc 87, 2) := by decide +kernel
theorem dX6_skewed_27 : decode cX6_skewed 27 = .ok (.ireturn, 1) := by decide +kernel
theorem dX6_skewed_28 : decode cX6_skewed 28 = .ok (.iconst 0, 1) := by decide +kernel
theorem dX6_skewed_29 : decode cX6_skewed 29 = .ok (.istore_n 2, 1) := by decide +kernel
theorem dX6_skewed_30 : decode cX6_skewed 30 = .ok (.iconst 0, 1) := by decide +kernel
theorem dX6_skewed_31 : decode cX6_skewed 31 = .ok (.istore_n 3, 1) := by decide +kernel
theorem dX6_skewed_32 : decode cX6_skewed 32 = .ok (.iconst 0, 1) := by decide +kernel
theorem dX6_skewed_33 : decode cX6_skewed 33 = .ok (.istore 4, 2) := by decide +kernel
theorem dX6_skewed_35 : decode cX6_skewed 35 = .ok (.iload 4, 2) := by decide +kernel
theorem dX6_skewed_37 : decode cX6_skewed 37 = .ok (.iconst 1, 1) := by decide +kernel
theorem dX6_skewed_38 : decode cX6_skewed 38 = .ok (.aload_n 0, 1) := by decide +kernel
theorem dX6_skewed_39 : decode cX6_skewed 39 = .ok (.getfield 10, 3) := by decide +kernel
theorem dX6_skewed_42 : decode cX6_skewed 42 = .ok (.iconst 1, 1) := by decide +kernel
theorem dX6_skewed_43 : decode cX6_skewed 43 = .ok (.invokevirtual 76, 3) := by decide +kernel
theorem dX6_skewed_46 : decode cX6_skewed 46 = .ok (.ishl, 1) := by decide +kernel
theorem dX6_skewed_47 : decode cX6_skewed 47 = .ok (.if_icmp .ge 29, 3) := by decide +kernel
theorem dX6_skewed_50 : decode cX6_skewed 50 = .ok (.aload_n 0, 1) := by decide +kernel
theorem dX6_skewed_51 : decode cX6_skewed 51 = .ok (.iload 4, 2) := by decide +kernel
theorem dX6_skewed_53 : decode cX6_skewed 53 = .ok (.invokevirtual 158, 3) := by decide +kernel
theorem dX6_skewed_56 : decode cX6_skewed 56 = .ok (.istore 5, 2) := by decide +kernel
theorem dX6_skewed_58 : decode cX6_skewed 58 = .ok (.iload 5, 2) := by decide +kernel
theorem dX6_skewed_60 : decode cX6_skewed 60 = .ok (.iload_n 3, 1) := by decide +kernel
theorem dX6_skewed_61 : decode cX6_skewed 61 = .ok (.if_icmp .le 9, 3) := by decide +kernel
theorem dX6_skewed_64 : decode cX6_skewed 64 = .ok (.iload 4, 2) := by decide +kernel
theorem dX6_skewed_66 : decode cX6_skewed 66 = .ok (.istore_n 2, 1) := by decide +kernel
theorem dX6_skewed_67 : decode cX6_skewed 67 = .ok (.iload 5, 2) := by decide +kernel
theorem dX6_skewed_69 : decode cX6_skewed 69 = .ok (.istore_n 3, 1) := by decide +kernel
theorem dX6_skewed_70 : decode cX6_skewed 70 = .ok (.iinc 4 1, 3) := by decide +kernel
theorem dX6_skewed_73 : decode cX6_skewed 73 = .ok (.goto (-38), 3) := by decide +kernel
theorem dX6_skewed_76 : decode cX6_skewed 76 = .ok (.iload_n 1, 1) := by decide +kernel
theorem dX6_skewed_77 : decode cX6_skewed 77 = .ok (.ifCond .ne 5, 3) := by decide +kernel
theorem dX6_skewed_80 : decode cX6_skewed 80 = .ok (.iload_n 2, 1) := by decide +kernel
theorem dX6_skewed_81 : decode cX6_skewed 81 = .ok (.ireturn, 1) := by decide +kernel
theorem dX6_skewed_82 : decode cX6_skewed 82 = .ok (.iload_n 1, 1) := by decide +kernel
theorem dX6_skewed_83 : decode cX6_skewed 83 = .ok (.iconst 1, 1) := by decide +kernel
theorem dX6_skewed_84 : decode cX6_skewed 84 = .ok (.if_icmp .ne 7, 3) := by decide +kernel
theorem dX6_skewed_87 : decode cX6_skewed 87 = .ok (.iload_n 3, 1) := by decide +kernel
theorem dX6_skewed_88 : decode cX6_skewed 88 = .ok (.goto 8, 3) := by decide +kernel
theorem dX6_skewed_91 : decode cX6_skewed 91 = .ok (.aload_n 0, 1) := by decide +kernel
theorem dX6_skewed_92 : decode cX6_skewed 92 = .ok (.iload_n 2, 1) := by decide +kernel
theorem dX6_skewed_93 : decode cX6_skewed 93 = .ok (.invokevirtual 161, 3) := by decide +kernel
theorem dX6_skewed_96 : decode cX6_skewed 96 = .ok (.ireturn, 1) := by decide +kernel
theorem dX6_count_0 : decode cX6_count 0 = .ok (.iload_n 1, 1) := by decide +kernel
theorem dX6_count_1 : decode cX6_count 1 = .ok (.tableswitch 172 0 22 #[107, 118, 130, 141, 149, 172, 172, 172, 172, 172, 172, 172, 172, 172, 172, 172, 172, 172, 172, 172, 160, 160, 160], 107) := by decide +kernel
theorem dX6_count_108 : decode cX6_count 108 = .ok (.aload_n 0, 1) := by decide +kernel
theorem dX6_count_109 : decode cX6_count 109 = .ok (.getfield 10, 3) := by decide +kernel
theorem dX6_count_112 : decode cX6_count 112 = .ok (.getfield 46, 3) := by decide +kernel
theorem dX6_count_115 : decode cX6_count 115 = .ok (.invokevirtual 50, 3) := by decide +kernel
theorem dX6_count_118 : decode cX6_count 118 = .ok (.ireturn, 1) := by decide +kernel
theorem dX6_count_119 : decode cX6_count 119 = .ok (.aload_n 0, 1) := by decide +kernel
theorem dX6_count_120 : decode cX6_count 120 = .ok (.getfield 10, 3) := by decide +kernel
theorem dX6_count_123 : decode cX6_count 123 = .ok (.getfield 46, 3) := by decide +kernel
theorem dX6_count_126 : decode cX6_count 126 = .ok (.iconst 1, 1) := by decide +kernel
theorem dX6_count_127 : decode cX6_count 127 = .ok (.invokevirtual 164, 3) := by decide +kernel
theorem dX6_count_130 : decode cX6_count 130 = .ok (.ireturn, 1) := by decide +kernel
theorem dX6_count_131 : decode cX6_count 131 = .ok (.aload_n 0, 1) := by decide +kernel
theorem dX6_count_132 : decode cX6_count 132 = .ok (.invokevirtual 100, 3) := by decide +kernel
theorem dX6_count_135 : decode cX6_count 135 = .ok (.getfield 104, 3) := by decide +kernel
theorem dX6_count_138 : decode cX6_count 138 = .ok (.invokevirtual 50, 3) := by decide +kernel
theorem dX6_count_141 : decode cX6_count 141 = .ok (.ireturn, 1) := by decide +kernel
theorem dX6_count_142 : decode cX6_count 142 = .ok (.aload_n 0, 1) := by decide +kernel
theorem dX6_count_143 : decode cX6_count 143 = .ok (.getfield 19, 3) := by decide +kernel
theorem dX6_count_146 : decode cX6_count 146 = .ok (.invokevirtual 167, 3) := by decide +kernel
theorem dX6_count_149 : decode cX6_count 149 = .ok (.ireturn, 1) := by decide +kernel
theorem dX6_count_150 : decode cX6_count 150 = .ok (.aload_n 0, 1) := by decide +kernel
theorem dX6_count_151 : decode cX6_count 151 = .ok (.getfield 33, 3) := by decide +kernel
theorem dX6_count_154 : decode cX6_count 154 = .ok (.getfield 168, 3) := by decide +kernel
theorem dX6_count_157 : decode cX6_count 157 = .ok (.invokevirtual 50, 3) := by decide +kernel
theorem dX6_count_160 : decode cX6_count 160 = .ok (.ireturn, 1) := by decide +kernel
theorem dX6_count_161 : decode cX6_count 161 = .ok (.aload_n 0, 1) := by decide +kernel
theorem dX6_count_162 : decode cX6_count 162 = .ok (.getfield 10, 3) := by decide +kernel
theorem dX6_count_165 : decode cX6_count 165 = .ok (.iload_n 1, 1) := by decide +kernel
theorem dX6_count_166 : decode cX6_count 166 = .ok (.bipush 20, 2) := by decide +kernel
theorem dX6_count_168 : decode cX6_count 168 = .ok (.isub, 1) := by decide +kernel
theorem dX6_count_169 : decode cX6_count 169 = .ok (.invokevirtual 76, 3) := by decide +kernel
theorem dX6_count_172 : decode cX6_count 172 = .ok (.ireturn, 1) := by decide +kernel
theorem dX6_count_173 : decode cX6_count 173 = .ok (.ldc 45, 2) := by decide +kernel
theorem dX6_count_175 : decode cX6_count 175 = .ok (.ireturn, 1) := by decide +kernel
theorem dX6_undo_0 : decode cX6_undo 0 = .ok (.aload_n 0, 1) := by decide +kernel
theorem dX6_undo_1 : decode cX6_undo 1 = .ok (.getfield 19, 3) := by decide +kernel
theorem dX6_undo_4 : decode cX6_undo 4 = .ok (.invokevirtual 167, 3) := by decide +kernel
theorem dX6_undo_7 : decode cX6_undo 7 = .ok (.ifCond .ne 6, 3) := by decide +kernel
theorem dX6_undo_10 : decode cX6_undo 10 = .ok (.ldc 64, 2) := by decide +kernel
theorem dX6_undo_12 : decode cX6_undo 12 = .ok (.ireturn, 1) := by decide +kernel
theorem dX6_undo_13 : decode cX6_undo 13 = .ok (.aload_n 0, 1) := by decide +kernel
theorem dX6_undo_14 : decode cX6_undo 14 = .ok (.getfield 19, 3) := by decide +kernel
theorem dX6_undo_17 : decode cX6_undo 17 = .ok (.aload_n 0, 1) := by decide +kernel
theorem dX6_undo_18 : decode cX6_undo 18 = .ok (.getfield 10, 3) := by decide +kernel
theorem dX6_undo_21 : decode cX6_undo 21 = .ok (.invokevirtual 171, 3) := by decide +kernel
theorem dX6_undo_24 : decode cX6_undo 24 = .ok (.aload_n 0, 1) := by decide +kernel
theorem dX6_undo_25 : decode cX6_undo 25 = .ok (.iconst 1, 1) := by decide +kernel
theorem dX6_undo_26 : decode cX6_undo 26 = .ok (.putfield 37, 3) := by decide +kernel
theorem dX6_undo_29 : decode cX6_undo 29 = .ok (.aload_n 0, 1) := by decide +kernel
theorem dX6_undo_30 : decode cX6_undo 30 = .ok (.getfield 19, 3) := by decide +kernel
theorem dX6_undo_33 : decode cX6_undo 33 = .ok (.invokevirtual 167, 3) := by decide +kernel
theorem dX6_undo_36 : decode cX6_undo 36 = .ok (.ireturn, 1) := by decide +kernel
theorem dX6_type_0 : decode cX6_type 0 = .ok (.iload_n 1, 1) := by decide +kernel
theorem dX6_type_1 : decode cX6_type 1 = .ok (.bipush 32, 2) := by decide +kernel
theorem dX6_type_3 : decode cX6_type 3 = .ok (.bipush 126, 2) := by decide +kernel
theorem dX6_type_5 : decode cX6_type 5 = .ok (.invokestatic 41, 3) := by decide +kernel
theorem dX6_type_8 : decode cX6_type 8 = .ok (.ifCond .eq 6, 3) := by decide +kernel
theorem dX6_type_11 : decode cX6_type 11 = .ok (.ldc 45, 2) := by decide +kernel
theorem dX6_type_13 : decode cX6_type 13 = .ok (.ireturn, 1) := by decide +kernel
theorem dX6_type_14 : decode cX6_type 14 = .ok (.aload_n 0, 1) := by decide +kernel
theorem dX6_type_15 : decode cX6_type 15 = .ok (.getfield 33, 3) := by decide +kernel
theorem dX6_type_18 : decode cX6_type 18 = .ok (.getfield 168, 3) := by decide +kernel
theorem dX6_type_21 : decode cX6_type 21 = .ok (.invokevirtual 50, 3) := by decide +kernel
theorem dX6_type_24 : decode cX6_type 24 = .ok (.bipush 60, 2) := by decide +kernel
theorem dX6_type_26 : decode cX6_type 26 = .ok (.if_icmp .lt 6, 3) := by decide +kernel
theorem dX6_type_29 : decode cX6_type 29 = .ok (.ldc 56, 2) := by decide +kernel
theorem dX6_type_31 : decode cX6_type 31 = .ok (.ireturn, 1) := by decide +kernel
theorem dX6_type_32 : decode cX6_type 32 = .ok (.aload_n 0, 1) := by decide +kernel
theorem dX6_type_33 : decode cX6_type 33 = .ok (.getfield 33, 3) := by decide +kernel
theorem dX6_type_36 : decode cX6_type 36 = .ok (.getfield 168, 3) := by decide +kernel
theorem dX6_type_39 : decode cX6_type 39 = .ok (.iload_n 1, 1) := by decide +kernel
theorem dX6_type_40 : decode cX6_type 40 = .ok (.invokevirtual 175, 3) := by decide +kernel
theorem dX6_type_43 : decode cX6_type 43 = .ok (.pop, 1) := by decide +kernel
theorem dX6_type_44 : decode cX6_type 44 = .ok (.aload_n 0, 1) := by decide +kernel
theorem dX6_type_45 : decode cX6_type 45 = .ok (.getfield 33, 3) := by decide +kernel
theorem dX6_type_48 : decode cX6_type 48 = .ok (.getfield 168, 3) := by decide +kernel
theorem dX6_type_51 : decode cX6_type 51 = .ok (.invokevirtual 50, 3) := by decide +kernel
theorem dX6_type_54 : decode cX6_type 54 = .ok (.ireturn, 1) := by decide +kernel
theorem dX6_clearText_0 : decode cX6_clearText 0 = .ok (.aload_n 0, 1) := by decide +kernel
theorem dX6_clearText_1 : decode cX6_clearText 1 = .ok (.getfield 33, 3) := by decide +kernel
theorem dX6_clearText_4 : decode cX6_clearText 4 = .ok (.getfield 168, 3) := by decide +kernel
theorem dX6_clearText_7 : decode cX6_clearText 7 = .ok (.invokevirtual 50, 3) := by decide +kernel
theorem dX6_clearText_10 : decode cX6_clearText 10 = .ok (.istore_n 1, 1) := by decide +kernel
theorem dX6_clearText_11 : decode cX6_clearText 11 = .ok (.aload_n 0, 1) := by decide +kernel
theorem dX6_clearText_12 : decode cX6_clearText 12 = .ok (.getfield 33, 3) := by decide +kernel
theorem dX6_clearText_15 : decode cX6_clearText 15 = .ok (.getfield 168, 3) := by decide +kernel
theorem dX6_clearText_18 : decode cX6_clearText 18 = .ok (.iconst 0, 1) := by decide +kernel
theorem dX6_clearText_19 : decode cX6_clearText 19 = .ok (.invokevirtual 69, 3) := by decide +kernel
theorem dX6_clearText_22 : decode cX6_clearText 22 = .ok (.iload_n 1, 1) := by decide +kernel
theorem dX6_clearText_23 : decode cX6_clearText 23 = .ok (.ireturn, 1) := by decide +kernel
theorem dX6_fault_0 : decode cX6_fault 0 = .ok (.iload_n 1, 1) := by decide +kernel
theorem dX6_fault_1 : decode cX6_fault 1 = .ok (.iconst 0, 1) := by decide +kernel
theorem dX6_fault_2 : decode cX6_fault 2 = .ok (.iconst 2, 1) := by decide +kernel
theorem dX6_fault_3 : decode cX6_fault 3 = .ok (.invokestatic 41, 3) := by decide +kernel
theorem dX6_fault_6 : decode cX6_fault 6 = .ok (.ifCond .eq 6, 3) := by decide +kernel
theorem dX6_fault_9 : decode cX6_fault 9 = .ok (.ldc 45, 2) := by decide +kernel
theorem dX6_fault_11 : decode cX6_fault 11 = .ok (.ireturn, 1) := by decide +kernel
theorem dX6_fault_12 : decode cX6_fault 12 = .ok (.aload_n 0, 1) := by decide +kernel
theorem dX6_fault_13 : decode cX6_fault 13 = .ok (.getfield 33, 3) := by decide +kernel
theorem dX6_fault_16 : decode cX6_fault 16 = .ok (.aload_n 0, 1) := by decide +kernel
theorem dX6_fault_17 : decode cX6_fault 17 = .ok (.getfield 10, 3) := by decide +kernel
theorem dX6_fault_20 : decode cX6_fault 20 = .ok (.getfield 46, 3) := by decide +kernel
theorem dX6_fault_23 : decode cX6_fault 23 = .ok (.invokevirtual 50, 3) := by decide +kernel
theorem dX6_fault_26 : decode cX6_fault 26 = .ok (.invokevirtual 178, 3) := by decide +kernel
theorem dX6_fault_29 : decode cX6_fault 29 = .ok (.aload_n 0, 1) := by decide +kernel
theorem dX6_fault_30 : decode cX6_fault 30 = .ok (.getfield 33, 3) := by decide +kernel
theorem dX6_fault_33 : decode cX6_fault 33 = .ok (.getfield 181, 3) := by decide +kernel
theorem dX6_fault_36 : decode cX6_fault 36 = .ok (.ifCond .ne 6, 3) := by decide +kernel
theorem dX6_fault_39 : decode cX6_fault 39 = .ok (.ldc 87, 2) := by decide +kernel
theorem dX6_fault_41 : decode cX6_fault 41 = .ok (.ireturn, 1) := by decide +kernel
theorem dX6_fault_42 : decode cX6_fault 42 = .ok (.iload_n 1, 1) := by decide +kernel
theorem dX6_fault_43 : decode cX6_fault 43 = .ok (.ifCond .ne 11, 3) := by decide +kernel
theorem dX6_fault_46 : decode cX6_fault 46 = .ok (.aload_n 0, 1) := by decide +kernel
theorem dX6_fault_47 : decode cX6_fault 47 = .ok (.getfield 33, 3) := by decide +kernel
theorem dX6_fault_50 : decode cX6_fault 50 = .ok (.getfield 184, 3) := by decide +kernel
theorem dX6_fault_53 : decode cX6_fault 53 = .ok (.ireturn, 1) := by decide +kernel
theorem dX6_fault_54 : decode cX6_fault 54 = .ok (.iload_n 1, 1) := by decide +kernel
theorem dX6_fault_55 : decode cX6_fault 55 = .ok (.iconst 1, 1) := by decide +kernel
theorem dX6_fault_56 : decode cX6_fault 56 = .ok (.if_icmp .ne 13, 3) := by decide +kernel
theorem dX6_fault_59 : decode cX6_fault 59 = .ok (.aload_n 0, 1) := by decide +kernel
theorem dX6_fault_60 : decode cX6_fault 60 = .ok (.getfield 33, 3) := by decide +kernel
theorem dX6_fault_63 : decode cX6_fault 63 = .ok (.getfield 181, 3) := by decide +kernel
theorem dX6_fault_66 : decode cX6_fault 66 = .ok (.goto 10, 3) := by decide +kernel
theorem dX6_fault_69 : decode cX6_fault 69 = .ok (.aload_n 0, 1) := by decide +kernel
theorem dX6_fault_70 : decode cX6_fault 70 = .ok (.getfield 33, 3) := by decide +kernel
theorem dX6_fault_73 : decode cX6_fault 73 = .ok (.getfield 187, 3) := by decide +kernel
theorem dX6_fault_76 : decode cX6_fault 76 = .ok (.ireturn, 1) := by decide +kernel
theorem dX6_play_0 : decode cX6_play 0 = .ok (.aload_n 0, 1) := by decide +kernel
theorem dX6_play_1 : decode cX6_play 1 = .ok (.getfield 33, 3) := by decide +kernel
theorem dX6_play_4 : decode cX6_play 4 = .ok (.aload_n 0, 1) := by decide +kernel
theorem dX6_play_5 : decode cX6_play 5 = .ok (.getfield 10, 3) := by decide +kernel
theorem dX6_play_8 : decode cX6_play 8 = .ok (.getfield 46, 3) := by decide +kernel
theorem dX6_play_11 : decode cX6_play 11 = .ok (.invokevirtual 50, 3) := by decide +kernel
theorem dX6_play_14 : decode cX6_play 14 = .ok (.invokevirtual 178, 3) := by decide +kernel
theorem dX6_play_17 : decode cX6_play 17 = .ok (.aload_n 0, 1) := by decide +kernel
theorem dX6_play_18 : decode cX6_play 18 = .ok (.getfield 33, 3) := by decide +kernel
theorem dX6_play_21 : decode cX6_play 21 = .ok (.getfield 181, 3) := by decide +kernel
theorem dX6_play_24 : decode cX6_play 24 = .ok (.ifCond .eq 6, 3) := by decide +kernel
theorem dX6_play_27 : decode cX6_play 27 = .ok (.ldc 64, 2) := by decide +kernel
theorem dX6_play_29 : decode cX6_play 29 = .ok (.ireturn, 1) := by decide +kernel
theorem dX6_play_30 : decode cX6_play 30 = .ok (.aload_n 0, 1) := by decide +kernel
theorem dX6_play_31 : decode cX6_play 31 = .ok (.invokevirtual 57, 3) := by decide +kernel
theorem dX6_play_34 : decode cX6_play 34 = .ok (.iconst 0, 1) := by decide +kernel
theorem dX6_play_35 : decode cX6_play 35 = .ok (.istore_n 1, 1) := by decide +kernel
theorem dX6_play_36 : decode cX6_play 36 = .ok (.iload_n 1, 1) := by decide +kernel
theorem dX6_play_37 : decode cX6_play 37 = .ok (.aload_n 0, 1) := by decide +kernel
theorem dX6_play_38 : decode cX6_play 38 = .ok (.getfield 33, 3) := by decide +kernel
theorem dX6_play_41 : decode cX6_play 41 = .ok (.getfield 190, 3) := by decide +kernel
theorem dX6_play_44 : decode cX6_play 44 = .ok (.invokevirtual 50, 3) := by decide +kernel
theorem dX6_play_47 : decode cX6_play 47 = .ok (.if_icmp .ge 40, 3) := by decide +kernel
theorem dX6_play_50 : decode cX6_play 50 = .ok (.aload_n 0, 1) := by decide +kernel
theorem dX6_play_51 : decode cX6_play 51 = .ok (.getfield 10, 3) := by decide +kernel
theorem dX6_play_54 : decode cX6_play 54 = .ok (.aload_n 0, 1) := by decide +kernel
theorem dX6_play_55 : decode cX6_play 55 = .ok (.getfield 33, 3) := by decide +kernel
theorem dX6_play_58 : decode cX6_play 58 = .ok (.getfield 190, 3) := by decide +kernel
theorem dX6_play_61 : decode cX6_play 61 = .ok (.iload_n 1, 1) := by decide +kernel
theorem dX6_play_62 : decode cX6_play 62 = .ok (.iconst 0, 1) := by decide +kernel
theorem dX6_play_63 : decode cX6_play 63 = .ok (.invokevirtual 109, 3) := by decide +kernel
theorem dX6_play_66 : decode cX6_play 66 = .ok (.aload_n 0, 1) := by decide +kernel
theorem dX6_play_67 : decode cX6_play 67 = .ok (.getfield 33, 3) := by decide +kernel
theorem dX6_play_70 : decode cX6_play 70 = .ok (.getfield 190, 3) := by decide +kernel
theorem dX6_play_73 : decode cX6_play 73 = .ok (.iload_n 1, 1) := by decide +kernel
theorem dX6_play_74 : decode cX6_play 74 = .ok (.iconst 1, 1) := by decide +kernel
theorem dX6_play_75 : decode cX6_play 75 = .ok (.invokevirtual 109, 3) := by decide +kernel
theorem dX6_play_78 : decode cX6_play 78 = .ok (.invokevirtual 60, 3) := by decide +kernel
theorem dX6_play_81 : decode cX6_play 81 = .ok (.iinc 1 1, 3) := by decide +kernel
theorem dX6_play_84 : decode cX6_play 84 = .ok (.goto (-48), 3) := by decide +kernel
theorem dX6_play_87 : decode cX6_play 87 = .ok (.aload_n 0, 1) := by decide +kernel
theorem dX6_play_88 : decode cX6_play 88 = .ok (.getfield 10, 3) := by decide +kernel
theorem dX6_play_91 : decode cX6_play 91 = .ok (.getfield 46, 3) := by decide +kernel
theorem dX6_play_94 : decode cX6_play 94 = .ok (.invokevirtual 50, 3) := by decide +kernel
theorem dX6_play_97 : decode cX6_play 97 = .ok (.ireturn, 1) := by decide +kernel
theorem dX6_isOutside_0 : decode cX6_isOutside 0 = .ok (.iload_n 0, 1) := by decide +kernel
theorem dX6_isOutside_1 : decode cX6_isOutside 1 = .ok (.iload_n 1, 1) := by decide +kernel
theorem dX6_isOutside_2 : decode cX6_isOutside 2 = .ok (.if_icmp .lt 8, 3) := by decide +kernel
theorem dX6_isOutside_5 : decode cX6_isOutside 5 = .ok (.iload_n 0, 1) := by decide +kernel
theorem dX6_isOutside_6 : decode cX6_isOutside 6 = .ok (.iload_n 2, 1) := by decide +kernel
theorem dX6_isOutside_7 : decode cX6_isOutside 7 = .ok (.if_icmp .le 7, 3) := by decide +kernel
theorem dX6_isOutside_10 : decode cX6_isOutside 10 = .ok (.iconst 1, 1) := by decide +kernel
theorem dX6_isOutside_11 : decode cX6_isOutside 11 = .ok (.goto 4, 3) := by decide +kernel
theorem dX6_isOutside_14 : decode cX6_isOutside 14 = .ok (.iconst 0, 1) := by decide +kernel
theorem dX6_isOutside_15 : decode cX6_isOutside 15 = .ok (.ireturn, 1) := by decide +kernel
theorem dX6_isSettingValue_0 : decode cX6_isSettingValue 0 = .ok (.iload_n 0, 1) := by decide +kernel
theorem dX6_isSettingValue_1 : decode cX6_isSettingValue 1 = .ok (.tableswitch 81 0 2 #[27, 43, 58], 27) := by decide +kernel
theorem dX6_isSettingValue_28 : decode cX6_isSettingValue 28 = .ok (.iload_n 1, 1) := by decide +kernel
theorem dX6_isSettingValue_29 : decode cX6_isSettingValue 29 = .ok (.iconst 1, 1) := by decide +kernel
theorem dX6_isSettingValue_30 : decode cX6_isSettingValue 30 = .ok (.bipush 12, 2) := by decide +kernel
theorem dX6_isSettingValue_32 : decode cX6_isSettingValue 32 = .ok (.invokestatic 41, 3) := by decide +kernel
theorem dX6_isSettingValue_35 : decode cX6_isSettingValue 35 = .ok (.ifCond .ne 7, 3) := by decide +kernel
theorem dX6_isSettingValue_38 : decode cX6_isSettingValue 38 = .ok (.iconst 1, 1) := by decide +kernel
theorem dX6_isSettingValue_39 : decode cX6_isSettingValue 39 = .ok (.goto 4, 3) := by decide +kernel
theorem dX6_isSettingValue_42 : decode cX6_isSettingValue 42 = .ok (.iconst 0, 1) := by decide +kernel
theorem dX6_isSettingValue_43 : decode cX6_isSettingValue 43 = .ok (.ireturn, 1) := by decide +kernel
theorem dX6_isSettingValue_44 : decode cX6_isSettingValue 44 = .ok (.iload_n 1, 1) := by decide +kernel
theorem dX6_isSettingValue_45 : decode cX6_isSettingValue 45 = .ok (.iconst 1, 1) := by decide +kernel
theorem dX6_isSettingValue_46 : decode cX6_isSettingValue 46 = .ok (.iconst 4, 1) := by decide +kernel
theorem dX6_isSettingValue_47 : decode cX6_isSettingValue 47 = .ok (.invokestatic 41, 3) := by decide +kernel
theorem dX6_isSettingValue_50 : decode cX6_isSettingValue 50 = .ok (.ifCond .ne 7, 3) := by decide +kernel
theorem dX6_isSettingValue_53 : decode cX6_isSettingValue 53 = .ok (.iconst 1, 1) := by decide +kernel
theorem dX6_isSettingValue_54 : decode cX6_isSettingValue 54 = .ok (.goto 4, 3) := by decide +kernel
theorem dX6_isSettingValue_57 : decode cX6_isSettingValue 57 = .ok (.iconst 0, 1) := by decide +kernel
theorem dX6_isSettingValue_58 : decode cX6_isSettingValue 58 = .ok (.ireturn, 1) := by decide +kernel
theorem dX6_isSettingValue_59 : decode cX6_isSettingValue 59 = .ok (.iload_n 1, 1) := by decide +kernel
theorem dX6_isSettingValue_60 : decode cX6_isSettingValue 60 = .ok (.iconst 1, 1) := by decide +kernel
theorem dX6_isSettingValue_61 : decode cX6_isSettingValue 61 = .ok (.ldc 127, 2) := by decide +kernel
theorem dX6_isSettingValue_63 : decode cX6_isSettingValue 63 = .ok (.invokestatic 41, 3) := by decide +kernel
theorem dX6_isSettingValue_66 : decode cX6_isSettingValue 66 = .ok (.ifCond .ne 14, 3) := by decide +kernel
theorem dX6_isSettingValue_69 : decode cX6_isSettingValue 69 = .ok (.iload_n 1, 1) := by decide +kernel
theorem dX6_isSettingValue_70 : decode cX6_isSettingValue 70 = .ok (.iconst 1, 1) := by decide +kernel
theorem dX6_isSettingValue_71 : decode cX6_isSettingValue 71 = .ok (.iand, 1) := by decide +kernel
theorem dX6_isSettingValue_72 : decode cX6_isSettingValue 72 = .ok (.iconst 1, 1) := by decide +kernel
theorem dX6_isSettingValue_73 : decode cX6_isSettingValue 73 = .ok (.if_icmp .ne 7, 3) := by decide +kernel
theorem dX6_isSettingValue_76 : decode cX6_isSettingValue 76 = .ok (.iconst 1, 1) := by decide +kernel
theorem dX6_isSettingValue_77 : decode cX6_isSettingValue 77 = .ok (.goto 4, 3) := by decide +kernel
theorem dX6_isSettingValue_80 : decode cX6_isSettingValue 80 = .ok (.iconst 0, 1) := by decide +kernel
theorem dX6_isSettingValue_81 : decode cX6_isSettingValue 81 = .ok (.ireturn, 1) := by decide +kernel
theorem dX6_isSettingValue_82 : decode cX6_isSettingValue 82 = .ok (.iconst 0, 1) := by decide +kernel
theorem dX6_isSettingValue_83 : decode cX6_isSettingValue 83 = .ok (.ireturn, 1) := by decide +kernel
theorem dX6_beginChange_0 : decode cX6_beginChange 0 = .ok (.aload_n 0, 1) := by decide +kernel
theorem dX6_beginChange_1 : decode cX6_beginChange 1 = .ok (.getfield 19, 3) := by decide +kernel
theorem dX6_beginChange_4 : decode cX6_beginChange 4 = .ok (.aload_n 0, 1) := by decide +kernel
theorem dX6_beginChange_5 : decode cX6_beginChange 5 = .ok (.getfield 10, 3) := by decide +kernel
theorem dX6_beginChange_8 : decode cX6_beginChange 8 = .ok (.invokevirtual 191, 3) := by decide +kernel
theorem dX6_beginChange_11 : decode cX6_beginChange 11 = .ok (.aload_n 0, 1) := by decide +kernel
theorem dX6_beginChange_12 : decode cX6_beginChange 12 = .ok (.iconst 1, 1) := by decide +kernel
theorem dX6_beginChange_13 : decode cX6_beginChange 13 = .ok (.putfield 37, 3) := by decide +kernel
theorem dX6_beginChange_16 : decode cX6_beginChange 16 = .ok (.return_, 1) := by decide +kernel
theorem dX6_groupsNow_0 : decode cX6_groupsNow 0 = .ok (.aload_n 0, 1) := by decide +kernel
theorem dX6_groupsNow_1 : decode cX6_groupsNow 1 = .ok (.getfield 37, 3) := by decide +kernel
theorem dX6_groupsNow_4 : decode cX6_groupsNow 4 = .ok (.ifCond .eq 29, 3) := by decide +kernel
theorem dX6_groupsNow_7 : decode cX6_groupsNow 7 = .ok (.aload_n 0, 1) := by decide +kernel
theorem dX6_groupsNow_8 : decode cX6_groupsNow 8 = .ok (.getfield 26, 3) := by decide +kernel
theorem dX6_groupsNow_11 : decode cX6_groupsNow 11 = .ok (.getfield 123, 3) := by decide +kernel
theorem dX6_groupsNow_14 : decode cX6_groupsNow 14 = .ok (.aload_n 0, 1) := by decide +kernel
theorem dX6_groupsNow_15 : decode cX6_groupsNow 15 = .ok (.getfield 10, 3) := by decide +kernel
theorem dX6_groupsNow_18 : decode cX6_groupsNow 18 = .ok (.invokevirtual 194, 3) := by decide +kernel
theorem dX6_groupsNow_21 : decode cX6_groupsNow 21 = .ok (.aload_n 0, 1) := by decide +kernel
theorem dX6_groupsNow_22 : decode cX6_groupsNow 22 = .ok (.getfield 26, 3) := by decide +kernel
theorem dX6_groupsNow_25 : decode cX6_groupsNow 25 = .ok (.invokevirtual 197, 3) := by decide +kernel
theorem dX6_groupsNow_28 : decode cX6_groupsNow 28 = .ok (.aload_n 0, 1) := by decide +kernel
theorem dX6_groupsNow_29 : decode cX6_groupsNow 29 = .ok (.iconst 0, 1) := by decide +kernel
theorem dX6_groupsNow_30 : decode cX6_groupsNow 30 = .ok (.putfield 37, 3) := by decide +kernel
theorem dX6_groupsNow_33 : decode cX6_groupsNow 33 = .ok (.aload_n 0, 1) := by decide +kernel
theorem dX6_groupsNow_34 : decode cX6_groupsNow 34 = .ok (.getfield 26, 3) := by decide +kernel
theorem dX6_groupsNow_37 : decode cX6_groupsNow 37 = .ok (.getfield 123, 3) := by decide +kernel
theorem dX6_groupsNow_40 : decode cX6_groupsNow 40 = .ok (.areturn, 1) := by decide +kernel
theorem dX6_passesNow_0 : decode cX6_passesNow 0 = .ok (.aload_n 0, 1) := by decide +kernel
theorem dX6_passesNow_1 : decode cX6_passesNow 1 = .ok (.invokevirtual 100, 3) := by decide +kernel
theorem dX6_passesNow_4 : decode cX6_passesNow 4 = .ok (.pop, 1) := by decide +kernel
theorem dX6_passesNow_5 : decode cX6_passesNow 5 = .ok (.aload_n 0, 1) := by decide +kernel
theorem dX6_passesNow_6 : decode cX6_passesNow 6 = .ok (.getfield 26, 3) := by decide +kernel
theorem dX6_passesNow_9 : decode cX6_passesNow 9 = .ok (.aload_n 0, 1) := by decide +kernel
theorem dX6_passesNow_10 : decode cX6_passesNow 10 = .ok (.getfield 10, 3) := by decide +kernel
theorem dX6_passesNow_13 : decode cX6_passesNow 13 = .ok (.iconst 0, 1) := by decide +kernel
theorem dX6_passesNow_14 : decode cX6_passesNow 14 = .ok (.invokevirtual 76, 3) := by decide +kernel
theorem dX6_passesNow_17 : decode cX6_passesNow 17 = .ok (.aload_n 0, 1) := by decide +kernel
theorem dX6_passesNow_18 : decode cX6_passesNow 18 = .ok (.getfield 10, 3) := by decide +kernel
theorem dX6_passesNow_21 : decode cX6_passesNow 21 = .ok (.iconst 1, 1) := by decide +kernel
theorem dX6_passesNow_22 : decode cX6_passesNow 22 = .ok (.invokevirtual 76, 3) := by decide +kernel
theorem dX6_passesNow_25 : decode cX6_passesNow 25 = .ok (.invokevirtual 200, 3) := by decide +kernel
theorem dX6_passesNow_28 : decode cX6_passesNow 28 = .ok (.aload_n 0, 1) := by decide +kernel
theorem dX6_passesNow_29 : decode cX6_passesNow 29 = .ok (.getfield 26, 3) := by decide +kernel
theorem dX6_passesNow_32 : decode cX6_passesNow 32 = .ok (.areturn, 1) := by decide +kernel
theorem dX6_passesBy_0 : decode cX6_passesBy 0 = .ok (.aload_n 0, 1) := by decide +kernel
theorem dX6_passesBy_1 : decode cX6_passesBy 1 = .ok (.invokevirtual 100, 3) := by decide +kernel
theorem dX6_passesBy_4 : decode cX6_passesBy 4 = .ok (.pop, 1) := by decide +kernel
theorem dX6_passesBy_5 : decode cX6_passesBy 5 = .ok (.aload_n 0, 1) := by decide +kernel
theorem dX6_passesBy_6 : decode cX6_passesBy 6 = .ok (.getfield 26, 3) := by decide +kernel
theorem dX6_passesBy_9 : decode cX6_passesBy 9 = .ok (.iload_n 1, 1) := by decide +kernel
theorem dX6_passesBy_10 : decode cX6_passesBy 10 = .ok (.iload_n 2, 1) := by decide +kernel
theorem dX6_passesBy_11 : decode cX6_passesBy 11 = .ok (.invokevirtual 200, 3) := by decide +kernel
theorem dX6_passesBy_14 : decode cX6_passesBy 14 = .ok (.aload_n 0, 1) := by decide +kernel
theorem dX6_passesBy_15 : decode cX6_passesBy 15 = .ok (.getfield 26, 3) := by decide +kernel
theorem dX6_passesBy_18 : decode cX6_passesBy 18 = .ok (.areturn, 1) := by decide +kernel
theorem dX6_firstPart_0 : decode cX6_firstPart 0 = .ok (.iload_n 1, 1) := by decide +kernel
theorem dX6_firstPart_1 : decode cX6_firstPart 1 = .ok (.bipush 16, 2) := by decide +kernel
theorem dX6_firstPart_3 : decode cX6_firstPart 3 = .ok (.aload_n 0, 1) := by decide +kernel
theorem dX6_firstPart_4 : decode cX6_firstPart 4 = .ok (.getfield 10, 3) := by decide +kernel
theorem dX6_firstPart_7 : decode cX6_firstPart 7 = .ok (.iconst 1, 1) := by decide +kernel
theorem dX6_firstPart_8 : decode cX6_firstPart 8 = .ok (.invokevirtual 76, 3) := by decide +kernel
theorem dX6_firstPart_11 : decode cX6_firstPart 11 = .ok (.isub, 1) := by decide +kernel
theorem dX6_firstPart_12 : decode cX6_firstPart 12 = .ok (.ishr, 1) := by decide +kernel
theorem dX6_firstPart_13 : decode cX6_firstPart 13 = .ok (.ireturn, 1) := by decide +kernel
theorem dX6_rowsInPart_0 : decode cX6_rowsInPart 0 = .ok (.iconst 0, 1) := by decide +kernel
theorem dX6_rowsInPart_1 : decode cX6_rowsInPart 1 = .ok (.istore_n 2, 1) := by decide +kernel
theorem dX6_rowsInPart_2 : decode cX6_rowsInPart 2 = .ok (.iconst 0, 1) := by decide +kernel
theorem dX6_rowsInPart_3 : decode cX6_rowsInPart 3 = .ok (.istore_n 3, 1) := by decide +kernel
theorem dX6_rowsInPart_4 : decode cX6_rowsInPart 4 = .ok (.iload_n 3, 1) := by decide +kernel
theorem dX6_rowsInPart_5 : decode cX6_rowsInPart 5 = .ok (.aload_n 0, 1) := by decide +kernel
theorem dX6_rowsInPart_6 : decode cX6_rowsInPart 6 = .ok (.getfield 10, 3) := by decide +kernel
theorem dX6_rowsInPart_9 : decode cX6_rowsInPart 9 = .ok (.getfield 46, 3) := by decide +kernel
theorem dX6_rowsInPart_12 : decode cX6_rowsInPart 12 = .ok (.invokevirtual 50, 3) := by decide +kernel
theorem dX6_rowsInPart_15 : decode cX6_rowsInPart 15 = .ok (.if_icmp .ge 28, 3) := by decide +kernel
theorem dX6_rowsInPart_18 : decode cX6_rowsInPart 18 = .ok (.aload_n 0, 1) := by decide +kernel
theorem dX6_rowsInPart_19 : decode cX6_rowsInPart 19 = .ok (.aload_n 0, 1) := by decide +kernel
theorem dX6_rowsInPart_20 : decode cX6_rowsInPart 20 = .ok (.getfield 10, 3) := by decide +kernel
theorem dX6_rowsInPart_23 : decode cX6_rowsInPart 23 = .ok (.iload_n 3, 1) := by decide +kernel
theorem dX6_rowsInPart_24 : decode cX6_rowsInPart 24 = .ok (.invokevirtual 94, 3) := by decide +kernel
theorem dX6_rowsInPart_27 : decode cX6_rowsInPart 27 = .ok (.invokevirtual 97, 3) := by decide +kernel
theorem dX6_rowsInPart_30 : decode cX6_rowsInPart 30 = .ok (.iload_n 1, 1) := by decide +kernel
theorem dX6_rowsInPart_31 : decode cX6_rowsInPart 31 = .ok (.if_icmp .ne 6, 3) := by decide +kernel
theorem dX6_rowsInPart_34 : decode cX6_rowsInPart 34 = .ok (.iinc 2 1, 3) := by decide +kernel
theorem dX6_rowsInPart_37 : decode cX6_rowsInPart 37 = .ok (.iinc 3 1, 3) := by decide +kernel
theorem dX6_rowsInPart_40 : decode cX6_rowsInPart 40 = .ok (.goto (-36), 3) := by decide +kernel
theorem dX6_rowsInPart_43 : decode cX6_rowsInPart 43 = .ok (.iload_n 2, 1) := by decide +kernel
theorem dX6_rowsInPart_44 : decode cX6_rowsInPart 44 = .ok (.ireturn, 1) := by decide +kernel
theorem dX6_groupsInPart_0 : decode cX6_groupsInPart 0 = .ok (.aload_n 0, 1) := by decide +kernel
theorem dX6_groupsInPart_1 : decode cX6_groupsInPart 1 = .ok (.invokevirtual 100, 3) := by decide +kernel
theorem dX6_groupsInPart_4 : decode cX6_groupsInPart 4 = .ok (.getfield 104, 3) := by decide +kernel
theorem dX6_groupsInPart_7 : decode cX6_groupsInPart 7 = .ok (.astore_n 2, 1) := by decide +kernel
theorem dX6_groupsInPart_8 : decode cX6_groupsInPart 8 = .ok (.iconst 0, 1) := by decide +kernel
theorem dX6_groupsInPart_9 : decode cX6_groupsInPart 9 = .ok (.istore_n 3, 1) := by decide +kernel
theorem dX6_groupsInPart_10 : decode cX6_groupsInPart 10 = .ok (.iconst 0, 1) := by decide +kernel
theorem dX6_groupsInPart_11 : decode cX6_groupsInPart 11 = .ok (.istore 4, 2) := by decide +kernel
theorem dX6_groupsInPart_13 : decode cX6_groupsInPart 13 = .ok (.iload 4, 2) := by decide +kernel
theorem dX6_groupsInPart_15 : decode cX6_groupsInPart 15 = .ok (.aload_n 2, 1) := by decide +kernel
theorem dX6_groupsInPart_16 : decode cX6_groupsInPart 16 = .ok (.invokevirtual 50, 3) := by decide +kernel
theorem dX6_groupsInPart_19 : decode cX6_groupsInPart 19 = .ok (.if_icmp .ge 27, 3) := by decide +kernel
theorem dX6_groupsInPart_22 : decode cX6_groupsInPart 22 = .ok (.aload_n 0, 1) := by decide +kernel
theorem dX6_groupsInPart_23 : decode cX6_groupsInPart 23 = .ok (.aload_n 2, 1) := by decide +kernel
theorem dX6_groupsInPart_24 : decode cX6_groupsInPart 24 = .ok (.iload 4, 2) := by decide +kernel
theorem dX6_groupsInPart_26 : decode cX6_groupsInPart 26 = .ok (.iconst 5, 1) := by decide +kernel
theorem dX6_groupsInPart_27 : decode cX6_groupsInPart 27 = .ok (.invokevirtual 109, 3) := by decide +kernel
theorem dX6_groupsInPart_30 : decode cX6_groupsInPart 30 = .ok (.invokevirtual 97, 3) := by decide +kernel
theorem dX6_groupsInPart_33 : decode cX6_groupsInPart 33 = .ok (.iload_n 1, 1) := by decide +kernel
theorem dX6_groupsInPart_34 : decode cX6_groupsInPart 34 = .ok (.if_icmp .ne 6, 3) := by decide +kernel
theorem dX6_groupsInPart_37 : decode cX6_groupsInPart 37 = .ok (.iinc 3 1, 3) := by decide +kernel
theorem dX6_groupsInPart_40 : decode cX6_groupsInPart 40 = .ok (.iinc 4 1, 3) := by decide +kernel
theorem dX6_groupsInPart_43 : decode cX6_groupsInPart 43 = .ok (.goto (-30), 3) := by decide +kernel
theorem dX6_groupsInPart_46 : decode cX6_groupsInPart 46 = .ok (.iload_n 3, 1) := by decide +kernel
theorem dX6_groupsInPart_47 : decode cX6_groupsInPart 47 = .ok (.ireturn, 1) := by decide +kernel
theorem dX7_init_0 : decode cX7_init 0 = .ok (.aload_n 0, 1) := by decide +kernel
theorem dX7_init_1 : decode cX7_init 1 = .ok (.invokespecial 1, 3) := by decide +kernel
theorem dX7_init_4 : decode cX7_init 4 = .ok (.aload_n 0, 1) := by decide +kernel
theorem dX7_init_5 : decode cX7_init 5 = .ok (.sipush 204, 3) := by decide +kernel
theorem dX7_init_8 : decode cX7_init 8 = .ok (.newarray .int, 2) := by decide +kernel
theorem dX7_init_10 : decode cX7_init 10 = .ok (.putfield 7, 3) := by decide +kernel
theorem dX7_init_13 : decode cX7_init 13 = .ok (.aload_n 0, 1) := by decide +kernel
theorem dX7_init_14 : decode cX7_init 14 = .ok (.sipush 816, 3) := by decide +kernel
theorem dX7_init_17 : decode cX7_init 17 = .ok (.newarray .int, 2) := by decide +kernel
theorem dX7_init_19 : decode cX7_init 19 = .ok (.putfield 13, 3) := by decide +kernel
theorem dX7_init_22 : decode cX7_init 22 = .ok (.aload_n 0, 1) := by decide +kernel
theorem dX7_init_23 : decode cX7_init 23 = .ok (.sipush 11400, 3) := by decide +kernel
theorem dX7_init_26 : decode cX7_init 26 = .ok (.newarray .int, 2) := by decide +kernel
theorem dX7_init_28 : decode cX7_init 28 = .ok (.putfield 16, 3) := by decide +kernel
theorem dX7_init_31 : decode cX7_init 31 = .ok (.aload_n 0, 1) := by decide +kernel
theorem dX7_init_32 : decode cX7_init 32 = .ok (.sipush 500, 3) := by decide +kernel
theorem dX7_init_35 : decode cX7_init 35 = .ok (.newarray .int, 2) := by decide +kernel
theorem dX7_init_37 : decode cX7_init 37 = .ok (.putfield 19, 3) := by decide +kernel
theorem dX7_init_40 : decode cX7_init 40 = .ok (.aload_n 0, 1) := by decide +kernel
theorem dX7_init_41 : decode cX7_init 41 = .ok (.sipush 13300, 3) := by decide +kernel
theorem dX7_init_44 : decode cX7_init 44 = .ok (.newarray .int, 2) := by decide +kernel
theorem dX7_init_46 : decode cX7_init 46 = .ok (.putfield 22, 3) := by decide +kernel
theorem dX7_init_49 : decode cX7_init 49 = .ok (.aload_n 0, 1) := by decide +kernel
theorem dX7_init_50 : decode cX7_init 50 = .ok (.sipush 9500, 3) := by decide +kernel
theorem dX7_init_53 : decode cX7_init 53 = .ok (.newarray .int, 2) := by decide +kernel
theorem dX7_init_55 : decode cX7_init 55 = .ok (.putfield 25, 3) := by decide +kernel
theorem dX7_init_58 : decode cX7_init 58 = .ok (.aload_n 0, 1) := by decide +kernel
theorem dX7_init_59 : decode cX7_init 59 = .ok (.sipush 700, 3) := by decide +kernel
theorem dX7_init_62 : decode cX7_init 62 = .ok (.newarray .int, 2) := by decide +kernel
theorem dX7_init_64 : decode cX7_init 64 = .ok (.putfield 28, 3) := by decide +kernel
theorem dX7_init_67 : decode cX7_init 67 = .ok (.aload_n 0, 1) := by decide +kernel
theorem dX7_init_68 : decode cX7_init 68 = .ok (.sipush 900, 3) := by decide +kernel
theorem dX7_init_71 : decode cX7_init 71 = .ok (.newarray .int, 2) := by decide +kernel
theorem dX7_init_73 : decode cX7_init 73 = .ok (.putfield 31, 3) := by decide +kernel
theorem dX7_init_76 : decode cX7_init 76 = .ok (.aload_n 0, 1) := by decide +kernel
theorem dX7_init_77 : decode cX7_init 77 = .ok (.bipush 16, 2) := by decide +kernel
theorem dX7_init_79 : decode cX7_init 79 = .ok (.newarray .int, 2) := by decide +kernel
theorem dX7_init_81 : decode cX7_init 81 = .ok (.putfield 34, 3) := by decide +kernel
theorem dX7_init_84 : decode cX7_init 84 = .ok (.aload_n 0, 1) := by decide +kernel
theorem dX7_init_85 : decode cX7_init 85 = .ok (.bipush 16, 2) := by decide +kernel
theorem dX7_init_87 : decode cX7_init 87 = .ok (.newarray .int, 2) := by decide +kernel
theorem dX7_init_89 : decode cX7_init 89 = .ok (.putfield 37, 3) := by decide +kernel
theorem dX7_init_92 : decode cX7_init 92 = .ok (.aload_n 0, 1) := by decide +kernel
theorem dX7_init_93 : decode cX7_init 93 = .ok (.bipush 16, 2) := by decide +kernel
theorem dX7_init_95 : decode cX7_init 95 = .ok (.newarray .int, 2) := by decide +kernel
theorem dX7_init_97 : decode cX7_init 97 = .ok (.putfield 40, 3) := by decide +kernel
theorem dX7_init_100 : decode cX7_init 100 = .ok (.aload_n 0, 1) := by decide +kernel
theorem dX7_init_101 : decode cX7_init 101 = .ok (.bipush 60, 2) := by decide +kernel
theorem dX7_init_103 : decode cX7_init 103 = .ok (.newarray .int, 2) := by decide +kernel
theorem dX7_init_105 : decode cX7_init 105 = .ok (.putfield 43, 3) := by decide +kernel
theorem dX7_init_108 : decode cX7_init 108 = .ok (.aload_n 0, 1) := by decide +kernel
theorem dX7_init_109 : decode cX7_init 109 = .ok (.getfield 7, 3) := by decide +kernel
theorem dX7_init_112 : decode cX7_init 112 = .ok (.iconst 1, 1) := by decide +kernel
theorem dX7_init_113 : decode cX7_init 113 = .ok (.iconst 3, 1) := by decide +kernel
theorem dX7_init_114 : decode cX7_init 114 = .ok (.iastore, 1) := by decide +kernel
theorem dX7_init_115 : decode cX7_init 115 = .ok (.aload_n 0, 1) := by decide +kernel
theorem dX7_init_116 : decode cX7_init 116 = .ok (.getfield 7, 3) := by decide +kernel
theorem dX7_init_119 : decode cX7_init 119 = .ok (.iconst 2, 1) := by decide +kernel
theorem dX7_init_120 : decode cX7_init 120 = .ok (.iconst 2, 1) := by decide +kernel
theorem dX7_init_121 : decode cX7_init 121 = .ok (.iastore, 1) := by decide +kernel
theorem dX7_init_122 : decode cX7_init 122 = .ok (.aload_n 0, 1) := by decide +kernel
theorem dX7_init_123 : decode cX7_init 123 = .ok (.getfield 7, 3) := by decide +kernel
theorem dX7_init_126 : decode cX7_init 126 = .ok (.iconst 3, 1) := by decide +kernel
theorem dX7_init_127 : decode cX7_init 127 = .ok (.ldc 46, 2) := by decide +kernel
theorem dX7_init_129 : decode cX7_init 129 = .ok (.iastore, 1) := by decide +kernel
theorem dX7_init_130 : decode cX7_init 130 = .ok (.return_, 1) := by decide +kernel
theorem dX7_in_0 : decode cX7_in 0 = .ok (.lload_n 0, 1) := by decide +kernel
theorem dX7_in_1 : decode cX7_in 1 = .ok (.lload_n 2, 1) := by decide +kernel
theorem dX7_in_2 : decode cX7_in 2 = .ok (.lcmp, 1) := by decide +kernel
theorem dX7_in_3 : decode cX7_in 3 = .ok (.ifCond .lt 14, 3) := by decide +kernel
theorem dX7_in_6 : decode cX7_in 6 = .ok (.lload_n 0, 1) := by decide +kernel
theorem dX7_in_7 : decode cX7_in 7 = .ok (.lload 4, 2) := by decide +kernel
theorem dX7_in_9 : decode cX7_in 9 = .ok (.lcmp, 1) := by decide +kernel
theorem dX7_in_10 : decode cX7_in 10 = .ok (.ifCond .gt 7, 3) := by decide +kernel
theorem dX7_in_13 : decode cX7_in 13 = .ok (.iconst 1, 1) := by decide +kernel
theorem dX7_in_14 : decode cX7_in 14 = .ok (.goto 4, 3) := by decide +kernel
theorem dX7_in_17 : decode cX7_in 17 = .ok (.iconst 0, 1) := by decide +kernel
theorem dX7_in_18 : decode cX7_in 18 = .ok (.ireturn, 1) := by decide +kernel
theorem dX7_record_0 : decode cX7_record 0 = .ok (.aload_n 0, 1) := by decide +kernel
theorem dX7_record_1 : decode cX7_record 1 = .ok (.getfield 47, 3) := by decide +kernel
theorem dX7_record_4 : decode cX7_record 4 = .ok (.iconst 4, 1) := by decide +kernel
theorem dX7_record_5 : decode cX7_record 5 = .ok (.if_icmp .ne 44, 3) := by decide +kernel
theorem dX7_record_8 : decode cX7_record 8 = .ok (.iconst 0, 1) := by decide +kernel
theorem dX7_record_9 : decode cX7_record 9 = .ok (.istore_n 1, 1) := by decide +kernel
theorem dX7_record_10 : decode cX7_record 10 = .ok (.iload_n 1, 1) := by decide +kernel
theorem dX7_record_11 : decode cX7_record 11 = .ok (.sipush 612, 3) := by decide +kernel
theorem dX7_record_14 : decode cX7_record 14 = .ok (.if_icmp .ge 25, 3) := by decide +kernel
theorem dX7_record_17 : decode cX7_record 17 = .ok (.aload_n 0, 1) := by decide +kernel
theorem dX7_record_18 : decode cX7_record 18 = .ok (.getfield 13, 3) := by decide +kernel
theorem dX7_record_21 : decode cX7_record 21 = .ok (.iload_n 1, 1) := by decide +kernel
theorem dX7_record_22 : decode cX7_record 22 = .ok (.aload_n 0, 1) := by decide +kernel
theorem dX7_record_23 : decode cX7_record 23 = .ok (.getfield 13, 3) := by decide +kernel
theorem dX7_record_26 : decode cX7_record 26 = .ok (.iload_n 1, 1) := by decide +kernel
theorem dX7_record_27 : decode cX7_record 27 = .ok (.sipush 204, 3) := by decide +kernel
theorem dX7_record_30 : decode cX7_record 30 = .ok (.iadd, 1) := by decide +kernel
theorem dX7_record_31 : decode cX7_record 31 = .ok (.iaload, 1) := by decide +kernel
theorem dX7_record_32 : decode cX7_record 32 = .ok (.iastore, 1) := by decide +kernel
theorem dX7_record_33 : decode cX7_record 33 = .ok (.iinc 1 1, 3) := by decide +kernel
theorem dX7_record_36 : decode cX7_record 36 = .ok (.goto (-26), 3) := by decide +kernel
theorem dX7_record_39 : decode cX7_record 39 = .ok (.aload_n 0, 1) := by decide +kernel
theorem dX7_record_40 : decode cX7_record 40 = .ok (.dup, 1) := by decide +kernel
theorem dX7_record_41 : decode cX7_record 41 = .ok (.getfield 47, 3) := by decide +kernel
theorem dX7_record_44 : decode cX7_record 44 = .ok (.iconst 1, 1) := by decide +kernel
theorem dX7_record_45 : decode cX7_record 45 = .ok (.isub, 1) := by decide +kernel
theorem dX7_record_46 : decode cX7_record 46 = .ok (.putfield 47, 3) := by decide +kernel
theorem dX7_record_49 : decode cX7_record 49 = .ok (.iconst 0, 1) := by decide +kernel
theorem dX7_record_50 : decode cX7_record 50 = .ok (.istore_n 1, 1) := by decide +kernel
theorem dX7_record_51 : decode cX7_record 51 = .ok (.iload_n 1, 1) := by decide +kernel
theorem dX7_record_52 : decode cX7_record 52 = .ok (.sipush 204, 3) := by decide +kernel
theorem dX7_record_55 : decode cX7_record 55 = .ok (.if_icmp .ge 30, 3) := by decide +kernel
theorem dX7_record_58 : decode cX7_record 58 = .ok (.aload_n 0, 1) := by decide +kernel
theorem dX7_record_59 : decode cX7_record 59 = .ok (.getfield 13, 3) := by decide +kernel
theorem dX7_record_62 : decode cX7_record 62 = .ok (.sipush 204, 3) := by decide +kernel
theorem dX7_record_65 : decode cX7_record 65 = .ok (.aload_n 0, 1) := by decide +kernel
theorem dX7_record_66 : decode cX7_record 66 = .ok (.getfield 47, 3) := by decide +kernel
theorem dX7_record_69 : decode cX7_record 69 = .ok (.imul, 1) := by decide +kernel
theorem dX7_record_70 : decode cX7_record 70 = .ok (.iload_n 1, 1) := by decide +kernel
theorem dX7_record_71 : decode cX7_record 71 = .ok (.iadd, 1) := by decide +kernel
theorem dX7_record_72 : decode cX7_record 72 = .ok (.aload_n 0, 1) := by decide +kernel
theorem dX7_record_73 : decode cX7_record 73 = .ok (.getfield 7, 3) := by decide +kernel
theorem dX7_record_76 : decode cX7_record 76 = .ok (.iload_n 1, 1) := by decide +kernel
theorem dX7_record_77 : decode cX7_record 77 = .ok (.iaload, 1) := by decide +kernel
theorem dX7_record_78 : decode cX7_record 78 = .ok (.iastore, 1) := by decide +kernel
theorem dX7_record_79 : decode cX7_record 79 = .ok (.iinc 1 1, 3) := by decide +kernel
theorem dX7_record_82 : decode cX7_record 82 = .ok (.goto (-31), 3) := by decide +kernel
theorem dX7_record_85 : decode cX7_record 85 = .ok (.aload_n 0, 1) := by decide +kernel
theorem dX7_record_86 : decode cX7_record 86 = .ok (.dup, 1) := by decide +kernel
theorem dX7_record_87 : decode cX7_record 87 = .ok (.getfield 47, 3) := by decide +kernel
theorem dX7_record_90 : decode cX7_record 90 = .ok (.iconst 1, 1) := by decide +kernel
theorem dX7_record_91 : decode cX7_record 91 = .ok (.iadd, 1) := by decide +kernel
theorem dX7_record_92 : decode cX7_record 92 = .ok (.putfield 47, 3) := by decide +kernel
theorem dX7_record_95 : decode cX7_record 95 = .ok (.return_, 1) := by decide +kernel
theorem dX7_isRow_0 : decode cX7_isRow 0 = .ok (.iload_n 0, 1) := by decide +kernel
theorem dX7_isRow_1 : decode cX7_isRow 1 = .ok (.i2l, 1) := by decide +kernel
theorem dX7_isRow_2 : decode cX7_isRow 2 = .ok (.lconst 0, 1) := by decide +kernel
theorem dX7_isRow_3 : decode cX7_isRow 3 = .ok (.ldc2_w 51, 3) := by decide +kernel
theorem dX7_isRow_6 : decode cX7_isRow 6 = .ok (.invokestatic 53, 3) := by decide +kernel
theorem dX7_isRow_9 : decode cX7_isRow 9 = .ok (.ifCond .eq 21, 3) := by decide +kernel
theorem dX7_isRow_12 : decode cX7_isRow 12 = .ok (.iload_n 1, 1) := by decide +kernel
theorem dX7_isRow_13 : decode cX7_isRow 13 = .ok (.i2l, 1) := by decide +kernel
theorem dX7_isRow_14 : decode cX7_isRow 14 = .ok (.ldc2_w 57, 3) := by decide +kernel
theorem dX7_isRow_17 : decode cX7_isRow 17 = .ok (.ldc2_w 59, 3) := by decide +kernel
theorem dX7_isRow_20 : decode cX7_isRow 20 = .ok (.invokestatic 53, 3) := by decide +kernel
theorem dX7_isRow_23 : decode cX7_isRow 23 = .ok (.ifCond .eq 7, 3) := by decide +kernel
theorem dX7_isRow_26 : decode cX7_isRow 26 = .ok (.iconst 1, 1) := by decide +kernel
theorem dX7_isRow_27 : decode cX7_isRow 27 = .ok (.goto 4, 3) := by decide +kernel
theorem dX7_isRow_30 : decode cX7_isRow 30 = .ok (.iconst 0, 1) := by decide +kernel
theorem dX7_isRow_31 : decode cX7_isRow 31 = .ok (.ireturn, 1) := by decide +kernel
theorem dX7_adds_0 : decode cX7_adds 0 = .ok (.aload_n 0, 1) := by decide +kernel
theorem dX7_adds_1 : decode cX7_adds 1 = .ok (.getfield 7, 3) := by decide +kernel
theorem dX7_adds_4 : decode cX7_adds 4 = .ok (.iconst 4, 1) := by decide +kernel
theorem dX7_adds_5 : decode cX7_adds 5 = .ok (.aload_n 0, 1) := by decide +kernel
theorem dX7_adds_6 : decode cX7_adds 6 = .ok (.getfield 7, 3) := by decide +kernel
theorem dX7_adds_9 : decode cX7_adds 9 = .ok (.iconst 0, 1) := by decide +kernel
theorem dX7_adds_10 : decode cX7_adds 10 = .ok (.iaload, 1) := by decide +kernel
theorem dX7_adds_11 : decode cX7_adds 11 = .ok (.iadd, 1) := by decide +kernel
theorem dX7_adds_12 : decode cX7_adds 12 = .ok (.iload_n 1, 1) := by decide +kernel
theorem dX7_adds_13 : decode cX7_adds 13 = .ok (.iastore, 1) := by decide +kernel
theorem dX7_adds_14 : decode cX7_adds 14 = .ok (.aload_n 0, 1) := by decide +kernel
theorem dX7_adds_15 : decode cX7_adds 15 = .ok (.getfield 7, 3) := by decide +kernel
theorem dX7_adds_18 : decode cX7_adds 18 = .ok (.bipush 104, 2) := by decide +kernel
theorem dX7_adds_20 : decode cX7_adds 20 = .ok (.aload_n 0, 1) := by decide +kernel
theorem dX7_adds_21 : decode cX7_adds 21 = .ok (.getfield 7, 3) := by decide +kernel
theorem dX7_adds_24 : decode cX7_adds 24 = .ok (.iconst 0, 1) := by decide +kernel
theorem dX7_adds_25 : decode cX7_adds 25 = .ok (.iaload, 1) := by decide +kernel
theorem dX7_adds_26 : decode cX7_adds 26 = .ok (.iadd, 1) := by decide +kernel
theorem dX7_adds_27 : decode cX7_adds 27 = .ok (.iload_n 2, 1) := by decide +kernel
theorem dX7_adds_28 : decode cX7_adds 28 = .ok (.iastore, 1) := by decide +kernel
theorem dX7_adds_29 : decode cX7_adds 29 = .ok (.aload_n 0, 1) := by decide +kernel
theorem dX7_adds_30 : decode cX7_adds 30 = .ok (.getfield 7, 3) := by decide +kernel
theorem dX7_adds_33 : decode cX7_adds 33 = .ok (.iconst 0, 1) := by decide +kernel
theorem dX7_adds_34 : decode cX7_adds 34 = .ok (.dup2, 1) := by decide +kernel
theorem dX7_adds_35 : decode cX7_adds 35 = .ok (.iaload, 1) := by decide +kernel
theorem dX7_adds_36 : decode cX7_adds 36 = .ok (.iconst 1, 1) := by decide +kernel
theorem dX7_adds_37 : decode cX7_adds 37 = .ok (.iadd, 1) := by decide +kernel
theorem dX7_adds_38 : decode cX7_adds 38 = .ok (.iastore, 1) := by decide +kernel
theorem dX7_adds_39 : decode cX7_adds 39 = .ok (.return_, 1) := by decide +kernel
theorem dX7_row_0 : decode cX7_row 0 = .ok (.iload_n 1, 1) := by decide +kernel
theorem dX7_row_1 : decode cX7_row 1 = .ok (.iload_n 2, 1) := by decide +kernel
theorem dX7_row_2 : decode cX7_row 2 = .ok (.invokestatic 61, 3) := by decide +kernel
theorem dX7_row_5 : decode cX7_row 5 = .ok (.ifCond .ne 6, 3) := by decide +kernel
theorem dX7_row_8 : decode cX7_row 8 = .ok (.ldc 65, 2) := by decide +kernel
theorem dX7_row_10 : decode cX7_row 10 = .ok (.ireturn, 1) := by decide +kernel
theorem dX7_row_11 : decode cX7_row 11 = .ok (.aload_n 0, 1) := by decide +kernel
theorem dX7_row_12 : decode cX7_row 12 = .ok (.getfield 7, 3) := by decide +kernel
theorem dX7_row_15 : decode cX7_row 15 = .ok (.iconst 0, 1) := by decide +kernel
theorem dX7_row_16 : decode cX7_row 16 = .ok (.iaload, 1) := by decide +kernel
theorem dX7_row_17 : decode cX7_row 17 = .ok (.bipush 100, 2) := by decide +kernel
theorem dX7_row_19 : decode cX7_row 19 = .ok (.if_icmp .ne 6, 3) := by decide +kernel
theorem dX7_row_22 : decode cX7_row 22 = .ok (.ldc 66, 2) := by decide +kernel
theorem dX7_row_24 : decode cX7_row 24 = .ok (.ireturn, 1) := by decide +kernel
theorem dX7_row_25 : decode cX7_row 25 = .ok (.aload_n 0, 1) := by decide +kernel
theorem dX7_row_26 : decode cX7_row 26 = .ok (.invokevirtual 67, 3) := by decide +kernel
theorem dX7_row_29 : decode cX7_row 29 = .ok (.aload_n 0, 1) := by decide +kernel
theorem dX7_row_30 : decode cX7_row 30 = .ok (.iload_n 1, 1) := by decide +kernel
theorem dX7_row_31 : decode cX7_row 31 = .ok (.iload_n 2, 1) := by decide +kernel
theorem dX7_row_32 : decode cX7_row 32 = .ok (.invokevirtual 70, 3) := by decide +kernel
theorem dX7_row_35 : decode cX7_row 35 = .ok (.aload_n 0, 1) := by decide +kernel
theorem dX7_row_36 : decode cX7_row 36 = .ok (.getfield 7, 3) := by decide +kernel
theorem dX7_row_39 : decode cX7_row 39 = .ok (.iconst 0, 1) := by decide +kernel
theorem dX7_row_40 : decode cX7_row 40 = .ok (.iaload, 1) := by decide +kernel
theorem dX7_row_41 : decode cX7_row 41 = .ok (.iconst 1, 1) := by decide +kernel
theorem dX7_row_42 : decode cX7_row 42 = .ok (.isub, 1) := by decide +kernel
theorem dX7_row_43 : decode cX7_row 43 = .ok (.ireturn, 1) := by decide +kernel
theorem dX7_drop_0 : decode cX7_drop 0 = .ok (.iload_n 1, 1) := by decide +kernel
theorem dX7_drop_1 : decode cX7_drop 1 = .ok (.ifCond .ge 6, 3) := by decide +kernel
theorem dX7_drop_4 : decode cX7_drop 4 = .ok (.ldc 65, 2) := by decide +kernel
theorem dX7_drop_6 : decode cX7_drop 6 = .ok (.ireturn, 1) := by decide +kernel
theorem dX7_drop_7 : decode cX7_drop 7 = .ok (.iload_n 1, 1) := by decide +kernel
theorem dX7_drop_8 : decode cX7_drop 8 = .ok (.aload_n 0, 1) := by decide +kernel
theorem dX7_drop_9 : decode cX7_drop 9 = .ok (.getfield 7, 3) := by decide +kernel
theorem dX7_drop_12 : decode cX7_drop 12 = .ok (.iconst 0, 1) := by decide +kernel
theorem dX7_drop_13 : decode cX7_drop 13 = .ok (.iaload, 1) := by decide +kernel
theorem dX7_drop_14 : decode cX7_drop 14 = .ok (.if_icmp .lt 6, 3) := by decide +kernel
theorem dX7_drop_17 : decode cX7_drop 17 = .ok (.ldc 74, 2) := by decide +kernel
theorem dX7_drop_19 : decode cX7_drop 19 = .ok (.ireturn, 1) := by decide +kernel
theorem dX7_drop_20 : decode cX7_drop 20 = .ok (.aload_n 0, 1) := by decide +kernel
theorem dX7_drop_21 : decode cX7_drop 21 = .ok (.invokevirtual 67, 3) := by decide +kernel
theorem dX7_drop_24 : decode cX7_drop 24 = .ok (.aload_n 0, 1) := by decide +kernel
theorem dX7_drop_25 : decode cX7_drop 25 = .ok (.getfield 7, 3) := by decide +kernel
theorem dX7_drop_28 : decode cX7_drop 28 = .ok (.iconst 0, 1) := by decide +kernel
theorem dX7_drop_29 : decode cX7_drop 29 = .ok (.dup2, 1) := by decide +kernel
theorem dX7_drop_30 : decode cX7_drop 30 = .ok (.iaload, 1) := by decide +kernel
theorem dX7_drop_31 : decode cX7_drop 31 = .ok (.iconst 1, 1) := by decide +kernel
theorem dX7_drop_32 : decode cX7_drop 32 = .ok (.isub, 1) := by decide +kernel
theorem dX7_drop_33 : decode cX7_drop 33 = .ok (.iastore, 1) := by decide +kernel
theorem dX7_drop_34 : decode cX7_drop 34 = .ok (.iload_n 1, 1) := by decide +kernel
theorem dX7_drop_35 : decode cX7_drop 35 = .ok (.istore_n 2, 1) := by decide +kernel
theorem dX7_drop_36 : decode cX7_drop 36 = .ok (.iload_n 2, 1) := by decide +kernel
theorem dX7_drop_37 : decode cX7_drop 37 = .ok (.aload_n 0, 1) := by decide +kernel
theorem dX7_drop_38 : decode cX7_drop 38 = .ok (.getfield 7, 3) := by decide +kernel
theorem dX7_drop_41 : decode cX7_drop 41 = .ok (.iconst 0, 1) := by decide +kernel
theorem dX7_drop_42 : decode cX7_drop 42 = .ok (.iaload, 1) := by decide +kernel
theorem dX7_drop_43 : decode cX7_drop 43 = .ok (.if_icmp .ge 47, 3) := by decide +kernel
theorem dX7_drop_46 : decode cX7_drop 46 = .ok (.aload_n 0, 1) := by decide +kernel
theorem dX7_drop_47 : decode cX7_drop 47 = .ok (.getfield 7, 3) := by decide +kernel
theorem dX7_drop_50 : decode cX7_drop 50 = .ok (.iconst 4, 1) := by decide +kernel
theorem dX7_drop_51 : decode cX7_drop 51 = .ok (.iload_n 2, 1) := by decide +kernel
theorem dX7_drop_52 : decode cX7_drop 52 = .ok (.iadd, 1) := by decide +kernel
theorem dX7_drop_53 : decode cX7_drop 53 = .ok (.aload_n 0, 1) := by decide +kernel
theorem dX7_drop_54 : decode cX7_drop 54 = .ok (.getfield 7, 3) := by decide +kernel
theorem dX7_drop_57 : decode cX7_drop 57 = .ok (.iconst 4, 1) := by decide +kernel
theorem dX7_drop_58 : decode cX7_drop 58 = .ok (.iload_n 2, 1) := by decide +kernel
theorem dX7_drop_59 : decode cX7_drop 59 = .ok (.iadd, 1) := by decide +kernel
theorem dX7_drop_60 : decode cX7_drop 60 = .ok (.iconst 1, 1) := by decide +kernel
theorem dX7_drop_61 : decode cX7_drop 61 = .ok (.iadd, 1) := by decide +kernel
theorem dX7_drop_62 : decode cX7_drop 62 = .ok (.iaload, 1) := by decide +kernel
theorem dX7_drop_63 : decode cX7_drop 63 = .ok (.iastore, 1) := by decide +kernel
theorem dX7_drop_64 : decode cX7_drop 64 = .ok (.aload_n 0, 1) := by decide +kernel
theorem dX7_drop_65 : decode cX7_drop 65 = .ok (.getfield 7, 3) := by decide +kernel
theorem dX7_drop_68 : decode cX7_drop 68 = .ok (.bipush 104, 2) := by decide +kernel
theorem dX7_drop_70 : decode cX7_drop 70 = .ok (.iload_n 2, 1) := by decide +kernel
theorem dX7_drop_71 : decode cX7_drop 71 = .ok (.iadd, 1) := by decide +kernel
theorem dX7_drop_72 : decode cX7_drop 72 = .ok (.aload_n 0, 1) := by decide +kernel
theorem dX7_drop_73 : decode cX7_drop 73 = .ok (.getfield 7, 3) := by decide +kernel
theorem dX7_drop_76 : decode cX7_drop 76 = .ok (.bipush 104, 2) := by decide +kernel
theorem dX7_drop_78 : decode cX7_drop 78 = .ok (.iload_n 2, 1) := by decide +kernel
theorem dX7_drop_79 : decode cX7_drop 79 = .ok (.iadd, 1) := by decide +kernel
theorem dX7_drop_80 : decode cX7_drop 80 = .ok (.iconst 1, 1) := by decide +kernel
theorem dX7_drop_81 : decode cX7_drop 81 = .ok (.iadd, 1) := by decide +kernel
theorem dX7_drop_82 : decode cX7_drop 82 = .ok (.iaload, 1) := by decide +kernel
theorem dX7_drop_83 : decode cX7_drop 83 = .ok (.iastore, 1) := by decide +kernel
theorem dX7_drop_84 : decode cX7_drop 84 = .ok (.iinc 2 1, 3) := by decide +kernel
theorem dX7_drop_87 : decode cX7_drop 87 = .ok (.goto (-51), 3) := by decide +kernel
theorem dX7_drop_90 : decode cX7_drop 90 = .ok (.aload_n 0, 1) := by decide +kernel
theorem dX7_drop_91 : decode cX7_drop 91 = .ok (.getfield 7, 3) := by decide +kernel
theorem dX7_drop_94 : decode cX7_drop 94 = .ok (.iconst 0, 1) := by decide +kernel
theorem dX7_drop_95 : decode cX7_drop 95 = .ok (.iaload, 1) := by decide +kernel
theorem dX7_drop_96 : decode cX7_drop 96 = .ok (.ireturn, 1) := by decide +kernel
theorem dX7_clear_0 : decode cX7_clear 0 = .ok (.aload_n 0, 1) := by decide +kernel
theorem dX7_clear_1 : decode cX7_clear 1 = .ok (.invokevirtual 67, 3) := by decide +kernel
theorem dX7_clear_4 : decode cX7_clear 4 = .ok (.aload_n 0, 1) := by decide +kernel
theorem dX7_clear_5 : decode cX7_clear 5 = .ok (.getfield 7, 3) := by decide +kernel
theorem dX7_clear_8 : decode cX7_clear 8 = .ok (.iconst 0, 1) := by decide +kernel
theorem dX7_clear_9 : decode cX7_clear 9 = .ok (.iaload, 1) := by decide +kernel
theorem dX7_clear_10 : decode cX7_clear 10 = .ok (.istore_n 1, 1) := by decide +kernel
theorem dX7_clear_11 : decode cX7_clear 11 = .ok (.aload_n 0, 1) := by decide +kernel
theorem dX7_clear_12 : decode cX7_clear 12 = .ok (.getfield 7, 3) := by decide +kernel
theorem dX7_clear_15 : decode cX7_clear 15 = .ok (.iconst 0, 1) := by decide +kernel
theorem dX7_clear_16 : decode cX7_clear 16 = .ok (.iconst 0, 1) := by decide +kernel
theorem dX7_clear_17 : decode cX7_clear 17 = .ok (.iastore, 1) := by decide +kernel
theorem dX7_clear_18 : decode cX7_clear 18 = .ok (.iload_n 1, 1) := by decide +kernel
theorem dX7_clear_19 : decode cX7_clear 19 = .ok (.ireturn, 1) := by decide +kernel
theorem dX7_set_0 : decode cX7_set 0 = .ok (.iload_n 1, 1) := by decide +kernel
theorem dX7_set_1 : decode cX7_set 1 = .ok (.ifCond .ne 15, 3) := by decide +kernel
theorem dX7_set_4 : decode cX7_set 4 = .ok (.iload_n 2, 1) := by decide +kernel
theorem dX7_set_5 : decode cX7_set 5 = .ok (.i2l, 1) := by decide +kernel
theorem dX7_set_6 : decode cX7_set 6 = .ok (.lconst 1, 1) := by decide +kernel
theorem dX7_set_7 : decode cX7_set 7 = .ok (.ldc2_w 75, 3) := by decide +kernel
theorem dX7_set_10 : decode cX7_set 10 = .ok (.invokestatic 53, 3) := by decide +kernel
theorem dX7_set_13 : decode cX7_set 13 = .ok (.goto 49, 3) := by decide +kernel
theorem dX7_set_16 : decode cX7_set 16 = .ok (.iload_n 1, 1) := by decide +kernel
theorem dX7_set_17 : decode cX7_set 17 = .ok (.iconst 1, 1) := by decide +kernel
theorem dX7_set_18 : decode cX7_set 18 = .ok (.if_icmp .ne 15, 3) := by decide +kernel
theorem dX7_set_21 : decode cX7_set 21 = .ok (.iload_n 2, 1) := by decide +kernel
theorem dX7_set_22 : decode cX7_set 22 = .ok (.i2l, 1) := by decide +kernel
theorem dX7_set_23 : decode cX7_set 23 = .ok (.lconst 1, 1) := by decide +kernel
theorem dX7_set_24 : decode cX7_set 24 = .ok (.ldc2_w 77, 3) := by decide +kernel
theorem dX7_set_27 : decode cX7_set 27 = .ok (.invokestatic 53, 3) := by decide +kernel
theorem dX7_set_30 : decode cX7_set 30 = .ok (.goto 32, 3) := by decide +kernel
theorem dX7_set_33 : decode cX7_set 33 = .ok (.iload_n 1, 1) := by decide +kernel
theorem dX7_set_34 : decode cX7_set 34 = .ok (.iconst 2, 1) := by decide +kernel
theorem dX7_set_35 : decode cX7_set 35 = .ok (.if_icmp .ne 26, 3) := by decide +kernel
theorem dX7_set_38 : decode cX7_set 38 = .ok (.iload_n 2, 1) := by decide +kernel
theorem dX7_set_39 : decode cX7_set 39 = .ok (.i2l, 1) := by decide +kernel
theorem dX7_set_40 : decode cX7_set 40 = .ok (.lconst 1, 1) := by decide +kernel
theorem dX7_set_41 : decode cX7_set 41 = .ok (.ldc2_w 79, 3) := by decide +kernel
theorem dX7_set_44 : decode cX7_set 44 = .ok (.invokestatic 53, 3) := by decide +kernel
theorem dX7_set_47 : decode cX7_set 47 = .ok (.ifCond .eq 14, 3) := by decide +kernel
theorem dX7_set_50 : decode cX7_set 50 = .ok (.iload_n 2, 1) := by decide +kernel
theorem dX7_set_51 : decode cX7_set 51 = .ok (.iconst 2, 1) := by decide +kernel
theorem dX7_set_52 : decode cX7_set 52 = .ok (.irem, 1) := by decide +kernel
theorem dX7_set_53 : decode cX7_set 53 = .ok (.iconst 1, 1) := by decide +kernel
theorem dX7_set_54 : decode cX7_set 54 = .ok (.if_icmp .ne 7, 3) := by decide +kernel
theorem dX7_set_57 : decode cX7_set 57 = .ok (.iconst 1, 1) := by decide +kernel
theorem dX7_set_58 : decode cX7_set 58 = .ok (.goto 4, 3) := by decide +kernel
theorem dX7_set_61 : decode cX7_set 61 = .ok (.iconst 0, 1) := by decide +kernel
theorem dX7_set_62 : decode cX7_set 62 = .ok (.istore_n 3, 1) := by decide +kernel
theorem dX7_set_63 : decode cX7_set 63 = .ok (.iload_n 3, 1) := by decide +kernel
theorem dX7_set_64 : decode cX7_set 64 = .ok (.ifCond .ne 6, 3) := by decide +kernel
theorem dX7_set_67 : decode cX7_set 67 = .ok (.ldc 65, 2) := by decide +kernel
theorem dX7_set_69 : decode cX7_set 69 = .ok (.ireturn, 1) := by decide +kernel
theorem dX7_set_70 : decode cX7_set 70 = .ok (.aload_n 0, 1) := by decide +kernel
theorem dX7_set_71 : decode cX7_set 71 = .ok (.invokevirtual 67, 3) := by decide +kernel
theorem dX7_set_74 : decode cX7_set 74 = .ok (.aload_n 0, 1) := by decide +kernel
theorem dX7_set_75 : decode cX7_set 75 = .ok (.getfield 7, 3) := by decide +kernel
theorem dX7_set_78 : decode cX7_set 78 = .ok (.iconst 1, 1) := by decide +kernel
theorem dX7_set_79 : decode cX7_set 79 = .ok (.iload_n 1, 1) := by decide +kernel
theorem dX7_set_80 : decode cX7_set 80 = .ok (.iadd, 1) := by decide +kernel
theorem dX7_set_81 : decode cX7_set 81 = .ok (.iaload, 1) := by decide +kernel
theorem dX7_set_82 : decode cX7_set 82 = .ok (.istore 4, 2) := by decide +kernel
theorem dX7_set_84 : decode cX7_set 84 = .ok (.aload_n 0, 1) := by decide +kernel
theorem dX7_set_85 : decode cX7_set 85 = .ok (.getfield 7, 3) := by decide +kernel
theorem dX7_set_88 : decode cX7_set 88 = .ok (.iconst 1, 1) := by decide +kernel
theorem dX7_set_89 : decode cX7_set 89 = .ok (.iload_n 1, 1) := by decide +kernel
theorem dX7_set_90 : decode cX7_set 90 = .ok (.iadd, 1) := by decide +kernel
theorem dX7_set_91 : decode cX7_set 91 = .ok (.iload_n 2, 1) := by decide +kernel
theorem dX7_set_92 : decode cX7_set 92 = .ok (.iastore, 1) := by decide +kernel
theorem dX7_set_93 : decode cX7_set 93 = .ok (.iload 4, 2) := by decide +kernel
theorem dX7_set_95 : decode cX7_set 95 = .ok (.ireturn, 1) := by decide +kernel
theorem dX7_hashOf_0 : decode cX7_hashOf 0 = .ok (.iload_n 1, 1) := by decide +kernel
theorem dX7_hashOf_1 : decode cX7_hashOf 1 = .ok (.aload_n 0, 1) := by decide +kernel
theorem dX7_hashOf_2 : decode cX7_hashOf 2 = .ok (.getfield 7, 3) := by decide +kernel
theorem dX7_hashOf_5 : decode cX7_hashOf 5 = .ok (.iconst 3, 1) := by decide +kernel
theorem dX7_hashOf_6 : decode cX7_hashOf 6 = .ok (.iaload, 1) := by decide +kernel
theorem dX7_hashOf_7 : decode cX7_hashOf 7 = .ok (.imul, 1) := by decide +kernel
theorem dX7_hashOf_8 : decode cX7_hashOf 8 = .ok (.sipush 7919, 3) := by decide +kernel
theorem dX7_hashOf_11 : decode cX7_hashOf 11 = .ok (.iadd, 1) := by decide +kernel
theorem dX7_hashOf_12 : decode cX7_hashOf 12 = .ok (.ldc 81, 2) := by decide +kernel
theorem dX7_hashOf_14 : decode cX7_hashOf 14 = .ok (.irem, 1) := by decide +kernel
theorem dX7_hashOf_15 : decode cX7_hashOf 15 = .ok (.ireturn, 1) := by decide +kernel
theorem dX7_partOf_0 : decode cX7_partOf 0 = .ok (.aload_n 0, 1) := by decide +kernel
theorem dX7_partOf_1 : decode cX7_partOf 1 = .ok (.iload_n 1, 1) := by decide +kernel
theorem dX7_partOf_2 : decode cX7_partOf 2 = .ok (.invokevirtual 82, 3) := by decide +kernel
theorem dX7_partOf_5 : decode cX7_partOf 5 = .ok (.bipush 16, 2) := by decide +kernel
theorem dX7_partOf_7 : decode cX7_partOf 7 = .ok (.iload_n 2, 1) := by decide +kernel
theorem dX7_partOf_8 : decode cX7_partOf 8 = .ok (.iconst 1, 1) := by decide +kernel
theorem dX7_partOf_9 : decode cX7_partOf 9 = .ok (.iadd, 1) := by decide +kernel
theorem dX7_partOf_10 : decode cX7_partOf 10 = .ok (.iload_n 3, 1) := by decide +kernel
theorem dX7_partOf_11 : decode cX7_partOf 11 = .ok (.imul, 1) := by decide +kernel
theorem dX7_partOf_12 : decode cX7_partOf 12 = .ok (.isub, 1) := by decide +kernel
theorem dX7_partOf_13 : decode cX7_partOf 13 = .ok (.ishr, 1) := by decide +kernel
theorem dX7_partOf_14 : decode cX7_partOf 14 = .ok (.iconst 1, 1) := by decide +kernel
theorem dX7_partOf_15 : decode cX7_partOf 15 = .ok (.iload_n 3, 1) := by decide +kernel
theorem dX7_partOf_16 : decode cX7_partOf 16 = .ok (.ishl, 1) := by decide +kernel
theorem dX7_partOf_17 : decode cX7_partOf 17 = .ok (.iconst 1, 1) := by decide +kernel
theorem dX7_partOf_18 : decode cX7_partOf 18 = .ok (.isub, 1) := by decide +kernel
theorem dX7_partOf_19 : decode cX7_partOf 19 = .ok (.iand, 1) := by decide +kernel
theorem dX7_partOf_20 : decode cX7_partOf 20 = .ok (.ireturn, 1) := by decide +kernel
theorem dX7_rowOf_0 : decode cX7_rowOf 0 = .ok (.iload_n 1, 1) := by decide +kernel
theorem dX7_rowOf_1 : decode cX7_rowOf 1 = .ok (.ifCond .lt 15, 3) := by decide +kernel
theorem dX7_rowOf_4 : decode cX7_rowOf 4 = .ok (.iload_n 2, 1) := by decide +kernel
theorem dX7_rowOf_5 : decode cX7_rowOf 5 = .ok (.i2l, 1) := by decide +kernel
theorem dX7_rowOf_6 : decode cX7_rowOf 6 = .ok (.lconst 0, 1) := by decide +kernel
theorem dX7_rowOf_7 : decode cX7_rowOf 7 = .ok (.ldc2_w 86, 3) := by decide +kernel
theorem dX7_rowOf_10 : decode cX7_rowOf 10 = .ok (.invokestatic 53, 3) := by decide +kernel
theorem dX7_rowOf_13 : decode cX7_rowOf 13 = .ok (.ifCond .ne 6, 3) := by decide +kernel
theorem dX7_rowOf_16 : decode cX7_rowOf 16 = .ok (.ldc 65, 2) := by decide +kernel
theorem dX7_rowOf_18 : decode cX7_rowOf 18 = .ok (.ireturn, 1) := by decide +kernel
theorem dX7_rowOf_19 : decode cX7_rowOf 19 = .ok (.iload_n 1, 1) := by decide +kernel
theorem dX7_rowOf_20 : decode cX7_rowOf 20 = .ok (.aload_n 0, 1) := by decide +kernel
theorem dX7_rowOf_21 : decode cX7_rowOf 21 = .ok (.getfield 7, 3) := by decide +kernel
theorem dX7_rowOf_24 : decode cX7_rowOf 24 = .ok (.iconst 0, 1) := by decide +kernel
theorem dX7_rowOf_25 : decode cX7_rowOf 25 = .ok (.iaload, 1) := by decide +kernel
theorem dX7_rowOf_26 : decode cX7_rowOf 26 = .ok (.if_icmp .lt 6, 3) := by decide +kernel
theorem dX7_rowOf_29 : decode cX7_rowOf 29 = .ok (.ldc 88, 2) := by decide +kernel
theorem dX7_rowOf_31 : decode cX7_rowOf 31 = .ok (.ireturn, 1) := by decide +kernel
theorem dX7_rowOf_32 : decode cX7_rowOf 32 = .ok (.aload_n 0, 1) := by decide +kernel
theorem dX7_rowOf_33 : decode cX7_rowOf 33 = .ok (.getfield 7, 3) := by decide +kernel
theorem dX7_rowOf_36 : decode cX7_rowOf 36 = .ok (.iconst 4, 1) := by decide +kernel
theorem dX7_rowOf_37 : decode cX7_rowOf 37 = .ok (.iload_n 1, 1) := by decide +kernel
theorem dX7_rowOf_38 : decode cX7_rowOf 38 = .ok (.iadd, 1) := by decide +kernel
theorem dX7_rowOf_39 : decode cX7_rowOf 39 = .ok (.iaload, 1) := by decide +kernel
theorem dX7_rowOf_40 : decode cX7_rowOf 40 = .ok (.istore_n 3, 1) := by decide +kernel
theorem dX7_rowOf_41 : decode cX7_rowOf 41 = .ok (.iload_n 2, 1) := by decide +kernel
theorem dX7_rowOf_42 : decode cX7_rowOf 42 = .ok (.ifCond .ne 7, 3) := by decide +kernel
theorem dX7_rowOf_45 : decode cX7_rowOf 45 = .ok (.iload_n 3, 1) := by decide +kernel
theorem dX7_rowOf_46 : decode cX7_rowOf 46 = .ok (.goto 45, 3) := by decide +kernel
theorem dX7_rowOf_49 : decode cX7_rowOf 49 = .ok (.iload_n 2, 1) := by decide +kernel
theorem dX7_rowOf_50 : decode cX7_rowOf 50 = .ok (.iconst 1, 1) := by decide +kernel
theorem dX7_rowOf_51 : decode cX7_rowOf 51 = .ok (.if_icmp .ne 15, 3) := by decide +kernel
theorem dX7_rowOf_54 : decode cX7_rowOf 54 = .ok (.aload_n 0, 1) := by decide +kernel
theorem dX7_rowOf_55 : decode cX7_rowOf 55 = .ok (.getfield 7, 3) := by decide +kernel
theorem dX7_rowOf_58 : decode cX7_rowOf 58 = .ok (.bipush 104, 2) := by decide +kernel
theorem dX7_rowOf_60 : decode cX7_rowOf 60 = .ok (.iload_n 1, 1) := by decide +kernel
theorem dX7_rowOf_61 : decode cX7_rowOf 61 = .ok (.iadd, 1) := by decide +kernel
theorem dX7_rowOf_62 : decode cX7_rowOf 62 = .ok (.iaload, 1) := by decide +kernel
theorem dX7_rowOf_63 : decode cX7_rowOf 63 = .ok (.goto 28, 3) := by decide +kernel
theorem dX7_rowOf_66 : decode cX7_rowOf 66 = .ok (.iload_n 2, 1) := by decide +kernel
theorem dX7_rowOf_67 : decode cX7_rowOf 67 = .ok (.iconst 2, 1) := by decide +kernel
theorem dX7_rowOf_68 : decode cX7_rowOf 68 = .ok (.if_icmp .ne 11, 3) := by decide +kernel
theorem dX7_rowOf_71 : decode cX7_rowOf 71 = .ok (.aload_n 0, 1) := by decide +kernel
theorem dX7_rowOf_72 : decode cX7_rowOf 72 = .ok (.iload_n 3, 1) := by decide +kernel
theorem dX7_rowOf_73 : decode cX7_rowOf 73 = .ok (.invokevirtual 82, 3) := by decide +kernel
theorem dX7_rowOf_76 : decode cX7_rowOf 76 = .ok (.goto 15, 3) := by decide +kernel
theorem dX7_rowOf_79 : decode cX7_rowOf 79 = .ok (.aload_n 0, 1) := by decide +kernel
theorem dX7_rowOf_80 : decode cX7_rowOf 80 = .ok (.iload_n 3, 1) := by decide +kernel
theorem dX7_rowOf_81 : decode cX7_rowOf 81 = .ok (.iconst 0, 1) := by decide +kernel
theorem dX7_rowOf_82 : decode cX7_rowOf 82 = .ok (.aload_n 0, 1) := by decide +kernel
theorem dX7_rowOf_83 : decode cX7_rowOf 83 = .ok (.getfield 7, 3) := by decide +kernel
theorem dX7_rowOf_86 : decode cX7_rowOf 86 = .ok (.iconst 2, 1) := by decide +kernel
theorem dX7_rowOf_87 : decode cX7_rowOf 87 = .ok (.iaload, 1) := by decide +kernel
theorem dX7_rowOf_88 : decode cX7_rowOf 88 = .ok (.invokevirtual 89, 3) := by decide +kernel
theorem dX7_rowOf_91 : decode cX7_rowOf 91 = .ok (.ireturn, 1) := by decide +kernel
theorem dX7_makes_0 : decode cX7_makes 0 = .ok (.bipush 6, 2) := by decide +kernel
theorem dX7_makes_2 : decode cX7_makes 2 = .ok (.aload_n 0, 1) := by decide +kernel
theorem dX7_makes_3 : decode cX7_makes 3 = .ok (.getfield 93, 3) := by decide +kernel
theorem dX7_makes_6 : decode cX7_makes 6 = .ok (.imul, 1) := by decide +kernel
theorem dX7_makes_7 : decode cX7_makes 7 = .ok (.istore 6, 2) := by decide +kernel
theorem dX7_makes_9 : decode cX7_makes 9 = .ok (.aload_n 0, 1) := by decide +kernel
theorem dX7_makes_10 : decode cX7_makes 10 = .ok (.getfield 16, 3) := by decide +kernel
theorem dX7_makes_13 : decode cX7_makes 13 = .ok (.iload 6, 2) := by decide +kernel
theorem dX7_makes_15 : decode cX7_makes 15 = .ok (.iload_n 1, 1) := by decide +kernel
theorem dX7_makes_16 : decode cX7_makes 16 = .ok (.iastore, 1) := by decide +kernel
theorem dX7_makes_17 : decode cX7_makes 17 = .ok (.aload_n 0, 1) := by decide +kernel
theorem dX7_makes_18 : decode cX7_makes 18 = .ok (.getfield 16, 3) := by decide +kernel
theorem dX7_makes_21 : decode cX7_makes 21 = .ok (.iload 6, 2) := by decide +kernel
theorem dX7_makes_23 : decode cX7_makes 23 = .ok (.iconst 1, 1) := by decide +kernel
theorem dX7_makes_24 : decode cX7_makes 24 = .ok (.iadd, 1) := by decide +kernel
theorem dX7_makes_25 : decode cX7_makes 25 = .ok (.iload_n 2, 1) := by decide +kernel
theorem dX7_makes_26 : decode cX7_makes 26 = .ok (.iastore, 1) := by decide +kernel
theorem dX7_makes_27 : decode cX7_makes 27 = .ok (.aload_n 0, 1) := by decide +kernel
theorem dX7_makes_28 : decode cX7_makes 28 = .ok (.getfield 16, 3) := by decide +kernel
theorem dX7_makes_31 : decode cX7_makes 31 = .ok (.iload 6, 2) := by decide +kernel
theorem dX7_makes_33 : decode cX7_makes 33 = .ok (.iconst 2, 1) := by decide +kernel
theorem dX7_makes_34 : decode cX7_makes 34 = .ok (.iadd, 1) := by decide +kernel
theorem dX7_makes_35 : decode cX7_makes 35 = .ok (.iload_n 3, 1) := by decide +kernel
theorem dX7_makes_36 : decode cX7_makes 36 = .ok (.iastore, 1) := by decide +kernel
theorem dX7_makes_37 : decode cX7_makes 37 = .ok (.aload_n 0, 1) := by decide +kernel
theorem dX7_makes_38 : decode cX7_makes 38 = .ok (.getfield 16, 3) := by decide +kernel
theorem dX7_makes_41 : decode cX7_makes 41 = .ok (.iload 6, 2) := by decide +kernel
theorem dX7_makes_43 : decode cX7_makes 43 = .ok (.iconst 3, 1) := by decide +kernel
theorem dX7_makes_44 : decode cX7_makes 44 = .ok (.iadd, 1) := by decide +kernel
theorem dX7_makes_45 : decode cX7_makes 45 = .ok (.iload 4, 2) := by decide +kernel
theorem dX7_makes_47 : decode cX7_makes 47 = .ok (.iastore, 1) := by decide +kernel
theorem dX7_makes_48 : decode cX7_makes 48 = .ok (.aload_n 0, 1) := by decide +kernel
theorem dX7_makes_49 : decode cX7_makes 49 = .ok (.getfield 16, 3) := by decide +kernel
theorem dX7_makes_52 : decode cX7_makes 52 = .ok (.iload 6, 2) := by decide +kernel
theorem dX7_makes_54 : decode cX7_makes 54 = .ok (.iconst 4, 1) := by decide +kernel
theorem dX7_makes_55 : decode cX7_makes 55 = .ok (.iadd, 1) := by decide +kernel
theorem dX7_makes_56 : decode cX7_makes 56 = .ok (.iload 5, 2) := by decide +kernel
theorem dX7_makes_58 : decode cX7_makes 58 = .ok (.iastore, 1) := by decide +kernel
theorem dX7_makes_59 : decode cX7_makes 59 = .ok (.aload_n 0, 1) := by decide +kernel
theorem dX7_makes_60 : decode cX7_makes 60 = .ok (.getfield 16, 3) := by decide +kernel
theorem dX7_makes_63 : decode cX7_makes 63 = .ok (.iload 6, 2) := by decide +kernel
theorem dX7_makes_65 : decode cX7_makes 65 = .ok (.iconst 5, 1) := by decide +kernel
theorem dX7_makes_66 : decode cX7_makes 66 = .ok (.iadd, 1) := by decide +kernel
theorem dX7_makes_67 : decode cX7_makes 67 = .ok (.iconst (-1), 1) := by decide +kernel
theorem dX7_makes_68 : decode cX7_makes 68 = .ok (.iastore, 1) := by decide +kernel
theorem dX7_makes_69 : decode cX7_makes 69 = .ok (.aload_n 0, 1) := by decide +kernel
theorem dX7_makes_70 : decode cX7_makes 70 = .ok (.dup, 1) := by decide +kernel
theorem dX7_makes_71 : decode cX7_makes 71 = .ok (.getfield 93, 3) := by decide +kernel
theorem dX7_makes_74 : decode cX7_makes 74 = .ok (.iconst 1, 1) := by decide +kernel
theorem dX7_makes_75 : decode cX7_makes 75 = .ok (.iadd, 1) := by decide +kernel
theorem dX7_makes_76 : decode cX7_makes 76 = .ok (.putfield 93, 3) := by decide +kernel
theorem dX7_makes_79 : decode cX7_makes 79 = .ok (.aload_n 0, 1) := by decide +kernel
theorem dX7_makes_80 : decode cX7_makes 80 = .ok (.getfield 93, 3) := by decide +kernel
theorem dX7_makes_83 : decode cX7_makes 83 = .ok (.iconst 1, 1) := by decide +kernel
theorem dX7_makes_84 : decode cX7_makes 84 = .ok (.isub, 1) := by decide +kernel
theorem dX7_makes_85 : decode cX7_makes 85 = .ok (.ireturn, 1) := by decide +kernel
theorem dX7_of_0 : decode cX7_of 0 = .ok (.aload_n 0, 1) := by decide +kernel
theorem dX7_of_1 : decode cX7_of 1 = .ok (.getfield 16, 3) := by decide +kernel
theorem dX7_of_4 : decode cX7_of 4 = .ok (.bipush 6, 2) := by decide +kernel
theorem dX7_of_6 : decode cX7_of 6 = .ok (.iload_n 1, 1) := by decide +kernel
theorem dX7_of_7 : decode cX7_of 7 = .ok (.imul, 1) := by decide +kernel
theorem dX7_of_8 : decode cX7_of 8 = .ok (.iload_n 2, 1) := by decide +kernel
theorem dX7_of_9 : decode cX7_of 9 = .ok (.iadd, 1) := by decide +kernel
theorem dX7_of_10 : decode cX7_of 10 = .ok (.iaload, 1) := by decide +kernel
theorem dX7_of_11 : decode cX7_of 11 = .ok (.ireturn, 1) := by decide +kernel
theorem dX7_inMemory_0 : decode cX7_inMemory 0 = .ok (.iconst 0, 1) := by decide +kernel
theorem dX7_inMemory_1 : decode cX7_inMemory 1 = .ok (.istore_n 2, 1) := by decide +kernel
theorem dX7_inMemory_2 : decode cX7_inMemory 2 = .ok (.iload_n 2, 1) := by decide +kernel
theorem dX7_inMemory_3 : decode cX7_inMemory 3 = .ok (.aload_n 0, 1) := by decide +kernel
theorem dX7_inMemory_4 : decode cX7_inMemory 4 = .ok (.getfield 96, 3) := by decide +kernel
theorem dX7_inMemory_7 : decode cX7_inMemory 7 = .ok (.if_icmp .ge 21, 3) := by decide +kernel
theorem dX7_inMemory_10 : decode cX7_inMemory 10 = .ok (.aload_n 0, 1) := by decide +kernel
theorem dX7_inMemory_11 : decode cX7_inMemory 11 = .ok (.getfield 19, 3) := by decide +kernel
theorem dX7_inMemory_14 : decode cX7_inMemory 14 = .ok (.iconst 5, 1) := by decide +kernel
theorem dX7_inMemory_15 : decode cX7_inMemory 15 = .ok (.iload_n 2, 1) := by decide +kernel
theorem dX7_inMemory_16 : decode cX7_inMemory 16 = .ok (.imul, 1) := by decide +kernel
theorem dX7_inMemory_17 : decode cX7_inMemory 17 = .ok (.iaload, 1) := by decide +kernel
theorem dX7_inMemory_18 : decode cX7_inMemory 18 = .ok (.iload_n 1, 1) := by decide +kernel
theorem dX7_inMemory_19 : decode cX7_inMemory 19 = .ok (.if_icmp .eq 9, 3) := by decide +kernel
theorem dX7_inMemory_22 : decode cX7_inMemory 22 = .ok (.iinc 2 1, 3) := by decide +kernel
theorem dX7_inMemory_25 : decode cX7_inMemory 25 = .ok (.goto (-23), 3) := by decide +kernel
theorem dX7_inMemory_28 : decode cX7_inMemory 28 = .ok (.iload_n 2, 1) := by decide +kernel
theorem dX7_inMemory_29 : decode cX7_inMemory 29 = .ok (.aload_n 0, 1) := by decide +kernel
theorem dX7_inMemory_30 : decode cX7_inMemory 30 = .ok (.getfield 96, 3) := by decide +kernel
theorem dX7_inMemory_33 : decode cX7_inMemory 33 = .ok (.if_icmp .ge 7, 3) := by decide +kernel
theorem dX7_inMemory_36 : decode cX7_inMemory 36 = .ok (.iload_n 2, 1) := by decide +kernel
theorem dX7_inMemory_37 : decode cX7_inMemory 37 = .ok (.goto 4, 3) := by decide +kernel
theorem dX7_inMemory_40 : decode cX7_inMemory 40 = .ok (.iconst (-1), 1) := by decide +kernel
theorem dX7_inMemory_41 : decode cX7_inMemory 41 = .ok (.ireturn, 1) := by decide +kernel
theorem dX7_addsTo_0 : decode cX7_addsTo 0 = .ok (.aload_n 0, 1) := by decide +kernel
theorem dX7_addsTo_1 : decode cX7_addsTo 1 = .ok (.getfield 19, 3) := by decide +kernel
theorem dX7_addsTo_4 : decode cX7_addsTo 4 = .ok (.iconst 5, 1) := by decide +kernel
theorem dX7_addsTo_5 : decode cX7_addsTo 5 = .ok (.iload_n 1, 1) := by decide +kernel
theorem dX7_addsTo_6 : decode cX7_addsTo 6 = .ok (.imul, 1) := by decide +kernel
theorem dX7_addsTo_7 : decode cX7_addsTo 7 = .ok (.iconst 1, 1) := by decide +kernel
theorem dX7_addsTo_8 : decode cX7_addsTo 8 = .ok (.iadd, 1) := by decide +kernel
theorem dX7_addsTo_9 : decode cX7_addsTo 9 = .ok (.dup2, 1) := by decide +kernel
theorem dX7_addsTo_10 : decode cX7_addsTo 10 = .ok (.iaload, 1) := by decide +kernel
theorem dX7_addsTo_11 : decode cX7_addsTo 11 = .ok (.aload_n 0, 1) := by decide +kernel
theorem dX7_addsTo_12 : decode cX7_addsTo 12 = .ok (.iload_n 2, 1) := by decide +kernel
theorem dX7_addsTo_13 : decode cX7_addsTo 13 = .ok (.iconst 1, 1) := by decide +kernel
theorem dX7_addsTo_14 : decode cX7_addsTo 14 = .ok (.invokevirtual 99, 3) := by decide +kernel
theorem dX7_addsTo_17 : decode cX7_addsTo 17 = .ok (.iadd, 1) := by decide +kernel
theorem dX7_addsTo_18 : decode cX7_addsTo 18 = .ok (.iastore, 1) := by decide +kernel
theorem dX7_addsTo_19 : decode cX7_addsTo 19 = .ok (.aload_n 0, 1) := by decide +kernel
theorem dX7_addsTo_20 : decode cX7_addsTo 20 = .ok (.getfield 19, 3) := by decide +kernel
theorem dX7_addsTo_23 : decode cX7_addsTo 23 = .ok (.iconst 5, 1) := by decide +kernel
theorem dX7_addsTo_24 : decode cX7_addsTo 24 = .ok (.iload_n 1, 1) := by decide +kernel
theorem dX7_addsTo_25 : decode cX7_addsTo 25 = .ok (.imul, 1) := by decide +kernel
theorem dX7_addsTo_26 : decode cX7_addsTo 26 = .ok (.iconst 2, 1) := by decide +kernel
theorem dX7_addsTo_27 : decode cX7_addsTo 27 = .ok (.iadd, 1) := by decide +kernel
theorem dX7_addsTo_28 : decode cX7_addsTo 28 = .ok (.dup2, 1) := by decide +kernel
theorem dX7_addsTo_29 : decode cX7_addsTo 29 = .ok (.iaload, 1) := by decide +kernel
theorem dX7_addsTo_30 : decode cX7_addsTo 30 = .ok (.aload_n 0, 1) := by decide +kernel
theorem dX7_addsTo_31 : decode cX7_addsTo 31 = .ok (.iload_n 2, 1) := by decide +kernel
theorem dX7_addsTo_32 : decode cX7_addsTo 32 = .ok (.iconst 2, 1) := by decide +kernel
theorem dX7_addsTo_33 : decode cX7_addsTo 33 = .ok (.invokevirtual 99, 3) := by decide +kernel
theorem dX7_addsTo_36 : decode cX7_addsTo 36 = .ok (.iadd, 1) := by decide +kernel
theorem dX7_addsTo_37 : decode cX7_addsTo 37 = .ok (.iastore, 1) := by decide +kernel
theorem dX7_addsTo_38 : decode cX7_addsTo 38 = .ok (.aload_n 0, 1) := by decide +kernel
theorem dX7_addsTo_39 : decode cX7_addsTo 39 = .ok (.getfield 19, 3) := by decide +kernel
theorem dX7_addsTo_42 : decode cX7_addsTo 42 = .ok (.iconst 5, 1) := by decide +kernel
theorem dX7_addsTo_43 : decode cX7_addsTo 43 = .ok (.iload_n 1, 1) := by decide +kernel
theorem dX7_addsTo_44 : decode cX7_addsTo 44 = .ok (.imul, 1) := by decide +kernel
theorem dX7_addsTo_45 : decode cX7_addsTo 45 = .ok (.iconst 3, 1) := by decide +kernel
theorem dX7_addsTo_46 : decode cX7_addsTo 46 = .ok (.iadd, 1) := by decide +kernel
theorem dX7_addsTo_47 : decode cX7_addsTo 47 = .ok (.aload_n 0, 1) := by decide +kernel
theorem dX7_addsTo_48 : decode cX7_addsTo 48 = .ok (.iload_n 2, 1) := by decide +kernel
theorem dX7_addsTo_49 : decode cX7_addsTo 49 = .ok (.iconst 3, 1) := by decide +kernel
theorem dX7_addsTo_50 : decode cX7_addsTo 50 = .ok (.invokevirtual 99, 3) := by decide +kernel
theorem dX7_addsTo_53 : decode cX7_addsTo 53 = .ok (.aload_n 0, 1) := by decide +kernel
theorem dX7_addsTo_54 : decode cX7_addsTo 54 = .ok (.getfield 19, 3) := by decide +kernel
theorem dX7_addsTo_57 : decode cX7_addsTo 57 = .ok (.iconst 5, 1) := by decide +kernel
theorem dX7_addsTo_58 : decode cX7_addsTo 58 = .ok (.iload_n 1, 1) := by decide +kernel
theorem dX7_addsTo_59 : decode cX7_addsTo 59 = .ok (.imul, 1) := by decide +kernel
theorem dX7_addsTo_60 : decode cX7_addsTo 60 = .ok (.iconst 3, 1) := by decide +kernel
theorem dX7_addsTo_61 : decode cX7_addsTo 61 = .ok (.iadd, 1) := by decide +kernel
theorem dX7_addsTo_62 : decode cX7_addsTo 62 = .ok (.iaload, 1) := by decide +kernel
theorem dX7_addsTo_63 : decode cX7_addsTo 63 = .ok (.if_icmp .ge 12, 3) := by decide +kernel
theorem dX7_addsTo_66 : decode cX7_addsTo 66 = .ok (.aload_n 0, 1) := by decide +kernel
theorem dX7_addsTo_67 : decode cX7_addsTo 67 = .ok (.iload_n 2, 1) := by decide +kernel
theorem dX7_addsTo_68 : decode cX7_addsTo 68 = .ok (.iconst 3, 1) := by decide +kernel
theorem dX7_addsTo_69 : decode cX7_addsTo 69 = .ok (.invokevirtual 99, 3) := by decide +kernel
theorem dX7_addsTo_72 : decode cX7_addsTo 72 = .ok (.goto 13, 3) := by decide +kernel
theorem dX7_addsTo_75 : decode cX7_addsTo 75 = .ok (.aload_n 0, 1) := by decide +kernel
theorem dX7_addsTo_76 : decode cX7_addsTo 76 = .ok (.getfield 19, 3) := by decide +kernel
theorem dX7_addsTo_79 : decode cX7_addsTo 79 = .ok (.iconst 5, 1) := by decide +kernel
theorem dX7_addsTo_80 : decode cX7_addsTo 80 = .ok (.iload_n 1, 1) := by decide +kernel
theorem dX7_addsTo_81 : decode cX7_addsTo 81 = .ok (.imul, 1) := by decide +kernel
theorem dX7_addsTo_82 : decode cX7_addsTo 82 = .ok (.iconst 3, 1) := by decide +kernel
theorem dX7_addsTo_83 : decode cX7_addsTo 83 = .ok (.iadd, 1) := by decide +kernel
theorem dX7_addsTo_84 : decode cX7_addsTo 84 = .ok (.iaload, 1) := by decide +kernel
theorem dX7_addsTo_85 : decode cX7_addsTo 85 = .ok (.iastore, 1) := by decide +kernel
theorem dX7_addsTo_86 : decode cX7_addsTo 86 = .ok (.aload_n 0, 1) := by decide +kernel
theorem dX7_addsTo_87 : decode cX7_addsTo 87 = .ok (.getfield 19, 3) := by decide +kernel
theorem dX7_addsTo_90 : decode cX7_addsTo 90 = .ok (.iconst 5, 1) := by decide +kernel
theorem dX7_addsTo_91 : decode cX7_addsTo 91 = .ok (.iload_n 1, 1) := by decide +kernel
theorem dX7_addsTo_92 : decode cX7_addsTo 92 = .ok (.imul, 1) := by decide +kernel
theorem dX7_addsTo_93 : decode cX7_addsTo 93 = .ok (.iconst 4, 1) := by decide +kernel
theorem dX7_addsTo_94 : decode cX7_addsTo 94 = .ok (.iadd, 1) := by decide +kernel
theorem dX7_addsTo_95 : decode cX7_addsTo 95 = .ok (.aload_n 0, 1) := by decide +kernel
theorem dX7_addsTo_96 : decode cX7_addsTo 96 = .ok (.iload_n 2, 1) := by decide +kernel
theorem dX7_addsTo_97 : decode cX7_addsTo 97 = .ok (.iconst 4, 1) := by decide +kernel
theorem dX7_addsTo_98 : decode cX7_addsTo 98 = .ok (.invokevirtual 99, 3) := by decide +kernel
theorem dX7_addsTo_101 : decode cX7_addsTo 101 = .ok (.aload_n 0, 1) := by decide +kernel
theorem dX7_addsTo_102 : decode cX7_addsTo 102 = .ok (.getfield 19, 3) := by decide +kernel
theorem dX7_addsTo_105 : decode cX7_addsTo 105 = .ok (.iconst 5, 1) := by decide +kernel
theorem dX7_addsTo_106 : decode cX7_addsTo 106 = .ok (.iload_n 1, 1) := by decide +kernel
theorem dX7_addsTo_107 : decode cX7_addsTo 107 = .ok (.imul, 1) := by decide +kernel
theorem dX7_addsTo_108 : decode cX7_addsTo 108 = .ok (.iconst 4, 1) := by decide +kernel
theorem dX7_addsTo_109 : decode cX7_addsTo 109 = .ok (.iadd, 1) := by decide +kernel
theorem dX7_addsTo_110 : decode cX7_addsTo 110 = .ok (.iaload, 1) := by decide +kernel
theorem dX7_addsTo_111 : decode cX7_addsTo 111 = .ok (.if_icmp .le 12, 3) := by decide +kernel
theorem dX7_addsTo_114 : decode cX7_addsTo 114 = .ok (.aload_n 0, 1) := by decide +kernel
theorem dX7_addsTo_115 : decode cX7_addsTo 115 = .ok (.iload_n 2, 1) := by decide +kernel
theorem dX7_addsTo_116 : decode cX7_addsTo 116 = .ok (.iconst 4, 1) := by decide +kernel
theorem dX7_addsTo_117 : decode cX7_addsTo 117 = .ok (.invokevirtual 99, 3) := by decide +kernel
theorem dX7_addsTo_120 : decode cX7_addsTo 120 = .ok (.goto 13, 3) := by decide +kernel
theorem dX7_addsTo_123 : decode cX7_addsTo 123 = .ok (.aload_n 0, 1) := by decide +kernel
theorem dX7_addsTo_124 : decode cX7_addsTo 124 = .ok (.getfield 19, 3) := by decide +kernel
theorem dX7_addsTo_127 : decode cX7_addsTo 127 = .ok (.iconst 5, 1) := by decide +kernel
theorem dX7_addsTo_128 : decode cX7_addsTo 128 = .ok (.iload_n 1, 1) := by decide +kernel
theorem dX7_addsTo_129 : decode cX7_addsTo 129 = .ok (.imul, 1) := by decide +kernel
theorem dX7_addsTo_130 : decode cX7_addsTo 130 = .ok (.iconst 4, 1) := by decide +kernel
theorem dX7_addsTo_131 : decode cX7_addsTo 131 = .ok (.iadd, 1) := by decide +kernel
theorem dX7_addsTo_132 : decode cX7_addsTo 132 = .ok (.iaload, 1) := by decide +kernel
theorem dX7_addsTo_133 : decode cX7_addsTo 133 = .ok (.iastore, 1) := by decide +kernel
theorem dX7_addsTo_134 : decode cX7_addsTo 134 = .ok (.return_, 1) := by decide +kernel
theorem dX7_laysGroup_0 : decode cX7_laysGroup 0 = .ok (.aload_n 0, 1) := by decide +kernel
theorem dX7_laysGroup_1 : decode cX7_laysGroup 1 = .ok (.getfield 96, 3) := by decide +kernel
theorem dX7_laysGroup_4 : decode cX7_laysGroup 4 = .ok (.istore_n 2, 1) := by decide +kernel
theorem dX7_laysGroup_5 : decode cX7_laysGroup 5 = .ok (.iload_n 2, 1) := by decide +kernel
theorem dX7_laysGroup_6 : decode cX7_laysGroup 6 = .ok (.ifCond .le 63, 3) := by decide +kernel
theorem dX7_laysGroup_9 : decode cX7_laysGroup 9 = .ok (.aload_n 0, 1) := by decide +kernel
theorem dX7_laysGroup_10 : decode cX7_laysGroup 10 = .ok (.getfield 19, 3) := by decide +kernel
theorem dX7_laysGroup_13 : decode cX7_laysGroup 13 = .ok (.iconst 5, 1) := by decide +kernel
theorem dX7_laysGroup_14 : decode cX7_laysGroup 14 = .ok (.iload_n 2, 1) := by decide +kernel
theorem dX7_laysGroup_15 : decode cX7_laysGroup 15 = .ok (.imul, 1) := by decide +kernel
theorem dX7_laysGroup_16 : decode cX7_laysGroup 16 = .ok (.iconst 5, 1) := by decide +kernel
theorem dX7_laysGroup_17 : decode cX7_laysGroup 17 = .ok (.isub, 1) := by decide +kernel
theorem dX7_laysGroup_18 : decode cX7_laysGroup 18 = .ok (.iaload, 1) := by decide +kernel
theorem dX7_laysGroup_19 : decode cX7_laysGroup 19 = .ok (.aload_n 0, 1) := by decide +kernel
theorem dX7_laysGroup_20 : decode cX7_laysGroup 20 = .ok (.iload_n 1, 1) := by decide +kernel
theorem dX7_laysGroup_21 : decode cX7_laysGroup 21 = .ok (.iconst 0, 1) := by decide +kernel
theorem dX7_laysGroup_22 : decode cX7_laysGroup 22 = .ok (.invokevirtual 99, 3) := by decide +kernel
theorem dX7_laysGroup_25 : decode cX7_laysGroup 25 = .ok (.if_icmp .le 44, 3) := by decide +kernel
theorem dX7_laysGroup_28 : decode cX7_laysGroup 28 = .ok (.iconst 0, 1) := by decide +kernel
theorem dX7_laysGroup_29 : decode cX7_laysGroup 29 = .ok (.istore_n 3, 1) := by decide +kernel
theorem dX7_laysGroup_30 : decode cX7_laysGroup 30 = .ok (.iload_n 3, 1) := by decide +kernel
theorem dX7_laysGroup_31 : decode cX7_laysGroup 31 = .ok (.iconst 5, 1) := by decide +kernel
theorem dX7_laysGroup_32 : decode cX7_laysGroup 32 = .ok (.if_icmp .ge 31, 3) := by decide +kernel
theorem dX7_laysGroup_35 : decode cX7_laysGroup 35 = .ok (.aload_n 0, 1) := by decide +kernel
theorem dX7_laysGroup_36 : decode cX7_laysGroup 36 = .ok (.getfield 19, 3) := by decide +kernel
theorem dX7_laysGroup_39 : decode cX7_laysGroup 39 = .ok (.iconst 5, 1) := by decide +kernel
theorem dX7_laysGroup_40 : decode cX7_laysGroup 40 = .ok (.iload_n 2, 1) := by decide +kernel
theorem dX7_laysGroup_41 : decode cX7_laysGroup 41 = .ok (.imul, 1) := by decide +kernel
theorem dX7_laysGroup_42 : decode cX7_laysGroup 42 = .ok (.iload_n 3, 1) := by decide +kernel
theorem dX7_laysGroup_43 : decode cX7_laysGroup 43 = .ok (.iadd, 1) := by decide +kernel
theorem dX7_laysGroup_44 : decode cX7_laysGroup 44 = .ok (.aload_n 0, 1) := by decide +kernel
theorem dX7_laysGroup_45 : decode cX7_laysGroup 45 = .ok (.getfield 19, 3) := by decide +kernel
theorem dX7_laysGroup_48 : decode cX7_laysGroup 48 = .ok (.iconst 5, 1) := by decide +kernel
theorem dX7_laysGroup_49 : decode cX7_laysGroup 49 = .ok (.iload_n 2, 1) := by decide +kernel
theorem dX7_laysGroup_50 : decode cX7_laysGroup 50 = .ok (.imul, 1) := by decide +kernel
theorem dX7_laysGroup_51 : decode cX7_laysGroup 51 = .ok (.iconst 5, 1) := by decide +kernel
theorem dX7_laysGroup_52 : decode cX7_laysGroup 52 = .ok (.isub, 1) := by decide +kernel
theorem dX7_laysGroup_53 : decode cX7_laysGroup 53 = .ok (.iload_n 3, 1) := by decide +kernel
theorem dX7_laysGroup_54 : decode cX7_laysGroup 54 = .ok (.iadd, 1) := by decide +kernel
theorem dX7_laysGroup_55 : decode cX7_laysGroup 55 = .ok (.iaload, 1) := by decide +kernel
theorem dX7_laysGroup_56 : decode cX7_laysGroup 56 = .ok (.iastore, 1) := by decide +kernel
theorem dX7_laysGroup_57 : decode cX7_laysGroup 57 = .ok (.iinc 3 1, 3) := by decide +kernel
theorem dX7_laysGroup_60 : decode cX7_laysGroup 60 = .ok (.goto (-30), 3) := by decide +kernel
theorem dX7_laysGroup_63 : decode cX7_laysGroup 63 = .ok (.iinc 2 (-1), 3) := by decide +kernel
theorem dX7_laysGroup_66 : decode cX7_laysGroup 66 = .ok (.goto (-61), 3) := by decide +kernel
theorem dX7_laysGroup_69 : decode cX7_laysGroup 69 = .ok (.iconst 0, 1) := by decide +kernel
theorem dX7_laysGroup_70 : decode cX7_laysGroup 70 = .ok (.istore_n 3, 1) := by decide +kernel
theorem dX7_laysGroup_71 : decode cX7_laysGroup 71 = .ok (.iload_n 3, 1) := by decide +kernel
theorem dX7_laysGroup_72 : decode cX7_laysGroup 72 = .ok (.iconst 5, 1) := by decide +kernel
theorem dX7_laysGroup_73 : decode cX7_laysGroup 73 = .ok (.if_icmp .ge 25, 3) := by decide +kernel
theorem dX7_laysGroup_76 : decode cX7_laysGroup 76 = .ok (.aload_n 0, 1) := by decide +kernel
theorem dX7_laysGroup_77 : decode cX7_laysGroup 77 = .ok (.getfield 19, 3) := by decide +kernel
theorem dX7_laysGroup_80 : decode cX7_laysGroup 80 = .ok (.iconst 5, 1) := by decide +kernel
theorem dX7_laysGroup_81 : decode cX7_laysGroup 81 = .ok (.iload_n 2, 1) := by decide +kernel
theorem dX7_laysGroup_82 : decode cX7_laysGroup 82 = .ok (.imul, 1) := by decide +kernel
theorem dX7_laysGroup_83 : decode cX7_laysGroup 83 = .ok (.iload_n 3, 1) := by decide +kernel
theorem dX7_laysGroup_84 : decode cX7_laysGroup 84 = .ok (.iadd, 1) := by decide +kernel
theorem dX7_laysGroup_85 : decode cX7_laysGroup 85 = .ok (.aload_n 0, 1) := by decide +kernel
theorem dX7_laysGroup_86 : decode cX7_laysGroup 86 = .ok (.iload_n 1, 1) := by decide +kernel
theorem dX7_laysGroup_87 : decode cX7_laysGroup 87 = .ok (.iload_n 3, 1) := by decide +kernel
theorem dX7_laysGroup_88 : decode cX7_laysGroup 88 = .ok (.invokevirtual 99, 3) := by decide +kernel
theorem dX7_laysGroup_91 : decode cX7_laysGroup 91 = .ok (.iastore, 1) := by decide +kernel
theorem dX7_laysGroup_92 : decode cX7_laysGroup 92 = .ok (.iinc 3 1, 3) := by decide +kernel
theorem dX7_laysGroup_95 : decode cX7_laysGroup 95 = .ok (.goto (-24), 3) := by decide +kernel
theorem dX7_laysGroup_98 : decode cX7_laysGroup 98 = .ok (.aload_n 0, 1) := by decide +kernel
theorem dX7_laysGroup_99 : decode cX7_laysGroup 99 = .ok (.dup, 1) := by decide +kernel
theorem dX7_laysGroup_100 : decode cX7_laysGroup 100 = .ok (.getfield 96, 3) := by decide +kernel
theorem dX7_laysGroup_103 : decode cX7_laysGroup 103 = .ok (.iconst 1, 1) := by decide +kernel
theorem dX7_laysGroup_104 : decode cX7_laysGroup 104 = .ok (.iadd, 1) := by decide +kernel
theorem dX7_laysGroup_105 : decode cX7_laysGroup 105 = .ok (.putfield 96, 3) := by decide +kernel
theorem dX7_laysGroup_108 : decode cX7_laysGroup 108 = .ok (.return_, 1) := by decide +kernel
theorem dX7_takesOut_0 : decode cX7_takesOut 0 = .ok (.aload_n 0, 1) := by decide +kernel
theorem dX7_takesOut_1 : decode cX7_takesOut 1 = .ok (.dup, 1) := by decide +kernel
theorem dX7_takesOut_2 : decode cX7_takesOut 2 = .ok (.getfield 96, 3) := by decide +kernel
theorem dX7_takesOut_5 : decode cX7_takesOut 5 = .ok (.iconst 1, 1) := by decide +kernel
theorem dX7_takesOut_6 : decode cX7_takesOut 6 = .ok (.isub, 1) := by decide +kernel
theorem dX7_takesOut_7 : decode cX7_takesOut 7 = .ok (.putfield 96, 3) := by decide +kernel
theorem dX7_takesOut_10 : decode cX7_takesOut 10 = .ok (.iconst 5, 1) := by decide +kernel
theorem dX7_takesOut_11 : decode cX7_takesOut 11 = .ok (.iload_n 1, 1) := by decide +kernel
theorem dX7_takesOut_12 : decode cX7_takesOut 12 = .ok (.imul, 1) := by decide +kernel
theorem dX7_takesOut_13 : decode cX7_takesOut 13 = .ok (.istore_n 2, 1) := by decide +kernel
theorem dX7_takesOut_14 : decode cX7_takesOut 14 = .ok (.iload_n 2, 1) := by decide +kernel
theorem dX7_takesOut_15 : decode cX7_takesOut 15 = .ok (.iconst 5, 1) := by decide +kernel
theorem dX7_takesOut_16 : decode cX7_takesOut 16 = .ok (.aload_n 0, 1) := by decide +kernel
theorem dX7_takesOut_17 : decode cX7_takesOut 17 = .ok (.getfield 96, 3) := by decide +kernel
theorem dX7_takesOut_20 : decode cX7_takesOut 20 = .ok (.imul, 1) := by decide +kernel
theorem dX7_takesOut_21 : decode cX7_takesOut 21 = .ok (.if_icmp .ge 23, 3) := by decide +kernel
theorem dX7_takesOut_24 : decode cX7_takesOut 24 = .ok (.aload_n 0, 1) := by decide +kernel
theorem dX7_takesOut_25 : decode cX7_takesOut 25 = .ok (.getfield 19, 3) := by decide +kernel
theorem dX7_takesOut_28 : decode cX7_takesOut 28 = .ok (.iload_n 2, 1) := by decide +kernel
theorem dX7_takesOut_29 : decode cX7_takesOut 29 = .ok (.aload_n 0, 1) := by decide +kernel
theorem dX7_takesOut_30 : decode cX7_takesOut 30 = .ok (.getfield 19, 3) := by decide +kernel
theorem dX7_takesOut_33 : decode cX7_takesOut 33 = .ok (.iload_n 2, 1) := by decide +kernel
theorem dX7_takesOut_34 : decode cX7_takesOut 34 = .ok (.iconst 5, 1) := by decide +kernel
theorem dX7_takesOut_35 : decode cX7_takesOut 35 = .ok (.iadd, 1) := by decide +kernel
theorem dX7_takesOut_36 : decode cX7_takesOut 36 = .ok (.iaload, 1) := by decide +kernel
theorem dX7_takesOut_37 : decode cX7_takesOut 37 = .ok (.iastore, 1) := by decide +kernel
theorem dX7_takesOut_38 : decode cX7_takesOut 38 = .ok (.iinc 2 1, 3) := by decide +kernel
theorem dX7_takesOut_41 : decode cX7_takesOut 41 = .ok (.goto (-27), 3) := by decide +kernel
theorem dX7_takesOut_44 : decode cX7_takesOut 44 = .ok (.return_, 1) := by decide +kernel
theorem dX7_last_0 : decode cX7_last 0 = .ok (.aload_n 0, 1) := by decide +kernel
theorem dX7_last_1 : decode cX7_last 1 = .ok (.getfield 22, 3) := by decide +kernel
theorem dX7_last_4 : decode cX7_last 4 = .ok (.bipush 7, 2) := by decide +kernel
theorem dX7_last_6 : decode cX7_last 6 = .ok (.aload_n 0, 1) := by decide +kernel
theorem dX7_last_7 : decode cX7_last 7 = .ok (.getfield 103, 3) := by decide +kernel
theorem dX7_last_10 : decode cX7_last 10 = .ok (.iconst 1, 1) := by decide +kernel
theorem dX7_last_11 : decode cX7_last 11 = .ok (.isub, 1) := by decide +kernel
theorem dX7_last_12 : decode cX7_last 12 = .ok (.imul, 1) := by decide +kernel
theorem dX7_last_13 : decode cX7_last 13 = .ok (.iload_n 1, 1) := by decide +kernel
theorem dX7_last_14 : decode cX7_last 14 = .ok (.iadd, 1) := by decide +kernel
theorem dX7_last_15 : decode cX7_last 15 = .ok (.iaload, 1) := by decide +kernel
theorem dX7_last_16 : decode cX7_last 16 = .ok (.ireturn, 1) := by decide +kernel
theorem dX7_counts_0 : decode cX7_counts 0 = .ok (.aload_n 0, 1) := by decide +kernel
theorem dX7_counts_1 : decode cX7_counts 1 = .ok (.getfield 22, 3) := by decide +kernel
theorem dX7_counts_4 : decode cX7_counts 4 = .ok (.bipush 7, 2) := by decide +kernel
theorem dX7_counts_6 : decode cX7_counts 6 = .ok (.aload_n 0, 1) := by decide +kernel
theorem dX7_counts_7 : decode cX7_counts 7 = .ok (.getfield 103, 3) := by decide +kernel
theorem dX7_counts_10 : decode cX7_counts 10 = .ok (.iconst 1, 1) := by decide +kernel
theorem dX7_counts_11 : decode cX7_counts 11 = .ok (.isub, 1) := by decide +kernel
theorem dX7_counts_12 : decode cX7_counts 12 = .ok (.imul, 1) := by decide +kernel
theorem dX7_counts_13 : decode cX7_counts 13 = .ok (.iload_n 1, 1) := by decide +kernel
theorem dX7_counts_14 : decode cX7_counts 14 = .ok (.iadd, 1) := by decide +kernel
theorem dX7_counts_15 : decode cX7_counts 15 = .ok (.dup2, 1) := by decide +kernel
theorem dX7_counts_16 : decode cX7_counts 16 = .ok (.iaload, 1) := by decide +kernel
theorem dX7_counts_17 : decode cX7_counts 17 = .ok (.iconst 1, 1) := by decide +kernel
theorem dX7_counts_18 : decode cX7_counts 18 = .ok (.iadd, 1) := by decide +kernel
theorem dX7_counts_19 : decode cX7_counts 19 = .ok (.iastore, 1) := by decide +kernel
theorem dX7_counts_20 : decode cX7_counts 20 = .ok (.return_, 1) := by decide +kernel
theorem dX7_writes_0 : decode cX7_writes 0 = .ok (.aload_n 0, 1) := by decide +kernel
theorem dX7_writes_1 : decode cX7_writes 1 = .ok (.getfield 16, 3) := by decide +kernel
theorem dX7_writes_4 : decode cX7_writes 4 = .ok (.bipush 6, 2) := by decide +kernel
theorem dX7_writes_6 : decode cX7_writes 6 = .ok (.iload_n 1, 1) := by decide +kernel
theorem dX7_writes_7 : decode cX7_writes 7 = .ok (.imul, 1) := by decide +kernel
theorem dX7_writes_8 : decode cX7_writes 8 = .ok (.iconst 5, 1) := by decide +kernel
theorem dX7_writes_9 : decode cX7_writes 9 = .ok (.iadd, 1) := by decide +kernel
theorem dX7_writes_10 : decode cX7_writes 10 = .ok (.iconst (-1), 1) := by decide +kernel
theorem dX7_writes_11 : decode cX7_writes 11 = .ok (.iastore, 1) := by decide +kernel
theorem dX7_writes_12 : decode cX7_writes 12 = .ok (.aload_n 0, 1) := by decide +kernel
theorem dX7_writes_13 : decode cX7_writes 13 = .ok (.getfield 40, 3) := by decide +kernel
theorem dX7_writes_16 : decode cX7_writes 16 = .ok (.iload_n 2, 1) := by decide +kernel
theorem dX7_writes_17 : decode cX7_writes 17 = .ok (.iaload, 1) := by decide +kernel
theorem dX7_writes_18 : decode cX7_writes 18 = .ok (.ifCond .ne 13, 3) := by decide +kernel
theorem dX7_writes_21 : decode cX7_writes 21 = .ok (.aload_n 0, 1) := by decide +kernel
theorem dX7_writes_22 : decode cX7_writes 22 = .ok (.getfield 34, 3) := by decide +kernel
theorem dX7_writes_25 : decode cX7_writes 25 = .ok (.iload_n 2, 1) := by decide +kernel
theorem dX7_writes_26 : decode cX7_writes 26 = .ok (.iload_n 1, 1) := by decide +kernel
theorem dX7_writes_27 : decode cX7_writes 27 = .ok (.iastore, 1) := by decide +kernel
theorem dX7_writes_28 : decode cX7_writes 28 = .ok (.goto 20, 3) := by decide +kernel
theorem dX7_writes_31 : decode cX7_writes 31 = .ok (.aload_n 0, 1) := by decide +kernel
theorem dX7_writes_32 : decode cX7_writes 32 = .ok (.getfield 16, 3) := by decide +kernel
theorem dX7_writes_35 : decode cX7_writes 35 = .ok (.bipush 6, 2) := by decide +kernel
theorem dX7_writes_37 : decode cX7_writes 37 = .ok (.aload_n 0, 1) := by decide +kernel
theorem dX7_writes_38 : decode cX7_writes 38 = .ok (.getfield 37, 3) := by decide +kernel
theorem dX7_writes_41 : decode cX7_writes 41 = .ok (.iload_n 2, 1) := by decide +kernel
theorem dX7_writes_42 : decode cX7_writes 42 = .ok (.iaload, 1) := by decide +kernel
theorem dX7_writes_43 : decode cX7_writes 43 = .ok (.imul, 1) := by decide +kernel
theorem dX7_writes_44 : decode cX7_writes 44 = .ok (.iconst 5, 1) := by decide +kernel
theorem dX7_writes_45 : decode cX7_writes 45 = .ok (.iadd, 1) := by decide +kernel
theorem dX7_writes_46 : decode cX7_writes 46 = .ok (.iload_n 1, 1) := by decide +kernel
theorem dX7_writes_47 : decode cX7_writes 47 = .ok (.iastore, 1) := by decide +kernel
theorem dX7_writes_48 : decode cX7_writes 48 = .ok (.aload_n 0, 1) := by decide +kernel
theorem dX7_writes_49 : decode cX7_writes 49 = .ok (.getfield 37, 3) := by decide +kernel
theorem dX7_writes_52 : decode cX7_writes 52 = .ok (.iload_n 2, 1) := by decide +kernel
theorem dX7_writes_53 : decode cX7_writes 53 = .ok (.iload_n 1, 1) := by decide +kernel
theorem dX7_writes_54 : decode cX7_writes 54 = .ok (.iastore, 1) := by decide +kernel
theorem dX7_writes_55 : decode cX7_writes 55 = .ok (.aload_n 0, 1) := by decide +kernel
theorem dX7_writes_56 : decode cX7_writes 56 = .ok (.getfield 40, 3) := by decide +kernel
theorem dX7_writes_59 : decode cX7_writes 59 = .ok (.iload_n 2, 1) := by decide +kernel
theorem dX7_writes_60 : decode cX7_writes 60 = .ok (.dup2, 1) := by decide +kernel
theorem dX7_writes_61 : decode cX7_writes 61 = .ok (.iaload, 1) := by decide +kernel
theorem dX7_writes_62 : decode cX7_writes 62 = .ok (.iconst 1, 1) := by decide +kernel
theorem dX7_writes_63 : decode cX7_writes 63 = .ok (.iadd, 1) := by decide +kernel
theorem dX7_writes_64 : decode cX7_writes 64 = .ok (.iastore, 1) := by decide +kernel
theorem dX7_writes_65 : decode cX7_writes 65 = .ok (.aload_n 0, 1) := by decide +kernel
theorem dX7_writes_66 : decode cX7_writes 66 = .ok (.iconst 5, 1) := by decide +kernel
theorem dX7_writes_67 : decode cX7_writes 67 = .ok (.invokevirtual 106, 3) := by decide +kernel
theorem dX7_writes_70 : decode cX7_writes 70 = .ok (.return_, 1) := by decide +kernel
theorem dX7_manyOf_0 : decode cX7_manyOf 0 = .ok (.iconst 0, 1) := by decide +kernel
theorem dX7_manyOf_1 : decode cX7_manyOf 1 = .ok (.istore_n 2, 1) := by decide +kernel
theorem dX7_manyOf_2 : decode cX7_manyOf 2 = .ok (.iconst 0, 1) := by decide +kernel
theorem dX7_manyOf_3 : decode cX7_manyOf 3 = .ok (.istore_n 3, 1) := by decide +kernel
theorem dX7_manyOf_4 : decode cX7_manyOf 4 = .ok (.iload_n 3, 1) := by decide +kernel
theorem dX7_manyOf_5 : decode cX7_manyOf 5 = .ok (.aload_n 0, 1) := by decide +kernel
theorem dX7_manyOf_6 : decode cX7_manyOf 6 = .ok (.getfield 96, 3) := by decide +kernel
theorem dX7_manyOf_9 : decode cX7_manyOf 9 = .ok (.if_icmp .ge 42, 3) := by decide +kernel
theorem dX7_manyOf_12 : decode cX7_manyOf 12 = .ok (.iload_n 2, 1) := by decide +kernel
theorem dX7_manyOf_13 : decode cX7_manyOf 13 = .ok (.aload_n 0, 1) := by decide +kernel
theorem dX7_manyOf_14 : decode cX7_manyOf 14 = .ok (.aload_n 0, 1) := by decide +kernel
theorem dX7_manyOf_15 : decode cX7_manyOf 15 = .ok (.getfield 19, 3) := by decide +kernel
theorem dX7_manyOf_18 : decode cX7_manyOf 18 = .ok (.iconst 5, 1) := by decide +kernel
theorem dX7_manyOf_19 : decode cX7_manyOf 19 = .ok (.iload_n 3, 1) := by decide +kernel
theorem dX7_manyOf_20 : decode cX7_manyOf 20 = .ok (.imul, 1) := by decide +kernel
theorem dX7_manyOf_21 : decode cX7_manyOf 21 = .ok (.iaload, 1) := by decide +kernel
theorem dX7_manyOf_22 : decode cX7_manyOf 22 = .ok (.aload_n 0, 1) := by decide +kernel
theorem dX7_manyOf_23 : decode cX7_manyOf 23 = .ok (.iconst 0, 1) := by decide +kernel
theorem dX7_manyOf_24 : decode cX7_manyOf 24 = .ok (.invokevirtual 110, 3) := by decide +kernel
theorem dX7_manyOf_27 : decode cX7_manyOf 27 = .ok (.aload_n 0, 1) := by decide +kernel
theorem dX7_manyOf_28 : decode cX7_manyOf 28 = .ok (.getfield 112, 3) := by decide +kernel
theorem dX7_manyOf_31 : decode cX7_manyOf 31 = .ok (.invokevirtual 89, 3) := by decide +kernel
theorem dX7_manyOf_34 : decode cX7_manyOf 34 = .ok (.iload_n 1, 1) := by decide +kernel
theorem dX7_manyOf_35 : decode cX7_manyOf 35 = .ok (.if_icmp .ne 7, 3) := by decide +kernel
theorem dX7_manyOf_38 : decode cX7_manyOf 38 = .ok (.iconst 1, 1) := by decide +kernel
theorem dX7_manyOf_39 : decode cX7_manyOf 39 = .ok (.goto 4, 3) := by decide +kernel
theorem dX7_manyOf_42 : decode cX7_manyOf 42 = .ok (.iconst 0, 1) := by decide +kernel
theorem dX7_manyOf_43 : decode cX7_manyOf 43 = .ok (.iadd, 1) := by decide +kernel
theorem dX7_manyOf_44 : decode cX7_manyOf 44 = .ok (.istore_n 2, 1) := by decide +kernel
theorem dX7_manyOf_45 : decode cX7_manyOf 45 = .ok (.iinc 3 1, 3) := by decide +kernel
theorem dX7_manyOf_48 : decode cX7_manyOf 48 = .ok (.goto (-44), 3) := by decide +kernel
theorem dX7_manyOf_51 : decode cX7_manyOf 51 = .ok (.iload_n 2, 1) := by decide +kernel
theorem dX7_manyOf_52 : decode cX7_manyOf 52 = .ok (.ireturn, 1) := by decide +kernel
theorem dX7_spillsOne_0 : decode cX7_spillsOne 0 = .ok (.iconst 0, 1) := by decide +kernel
theorem dX7_spillsOne_1 : decode cX7_spillsOne 1 = .ok (.istore_n 1, 1) := by decide +kernel
theorem dX7_spillsOne_2 : decode cX7_spillsOne 2 = .ok (.iconst 1, 1) := by decide +kernel
theorem dX7_spillsOne_3 : decode cX7_spillsOne 3 = .ok (.istore_n 2, 1) := by decide +kernel
theorem dX7_spillsOne_4 : decode cX7_spillsOne 4 = .ok (.iload_n 2, 1) := by decide +kernel
theorem dX7_spillsOne_5 : decode cX7_spillsOne 5 = .ok (.iconst 1, 1) := by decide +kernel
theorem dX7_spillsOne_6 : decode cX7_spillsOne 6 = .ok (.aload_n 0, 1) := by decide +kernel
theorem dX7_spillsOne_7 : decode cX7_spillsOne 7 = .ok (.getfield 112, 3) := by decide +kernel
theorem dX7_spillsOne_10 : decode cX7_spillsOne 10 = .ok (.ishl, 1) := by decide +kernel
theorem dX7_spillsOne_11 : decode cX7_spillsOne 11 = .ok (.if_icmp .ge 28, 3) := by decide +kernel
theorem dX7_spillsOne_14 : decode cX7_spillsOne 14 = .ok (.aload_n 0, 1) := by decide +kernel
theorem dX7_spillsOne_15 : decode cX7_spillsOne 15 = .ok (.iload_n 2, 1) := by decide +kernel
theorem dX7_spillsOne_16 : decode cX7_spillsOne 16 = .ok (.invokevirtual 115, 3) := by decide +kernel
theorem dX7_spillsOne_19 : decode cX7_spillsOne 19 = .ok (.aload_n 0, 1) := by decide +kernel
theorem dX7_spillsOne_20 : decode cX7_spillsOne 20 = .ok (.iload_n 1, 1) := by decide +kernel
theorem dX7_spillsOne_21 : decode cX7_spillsOne 21 = .ok (.invokevirtual 115, 3) := by decide +kernel
theorem dX7_spillsOne_24 : decode cX7_spillsOne 24 = .ok (.if_icmp .le 7, 3) := by decide +kernel
theorem dX7_spillsOne_27 : decode cX7_spillsOne 27 = .ok (.iload_n 2, 1) := by decide +kernel
theorem dX7_spillsOne_28 : decode cX7_spillsOne 28 = .ok (.goto 4, 3) := by decide +kernel
theorem dX7_spillsOne_31 : decode cX7_spillsOne 31 = .ok (.iload_n 1, 1) := by decide +kernel
theorem dX7_spillsOne_32 : decode cX7_spillsOne 32 = .ok (.istore_n 1, 1) := by decide +kernel
theorem dX7_spillsOne_33 : decode cX7_spillsOne 33 = .ok (.iinc 2 1, 3) := by decide +kernel
theorem dX7_spillsOne_36 : decode cX7_spillsOne 36 = .ok (.goto (-32), 3) := by decide +kernel
theorem dX7_spillsOne_39 : decode cX7_spillsOne 39 = .ok (.iconst 0, 1) := by decide +kernel
theorem dX7_spillsOne_40 : decode cX7_spillsOne 40 = .ok (.istore_n 2, 1) := by decide +kernel
theorem dX7_spillsOne_41 : decode cX7_spillsOne 41 = .ok (.iconst 0, 1) := by decide +kernel
theorem dX7_spillsOne_42 : decode cX7_spillsOne 42 = .ok (.istore_n 3, 1) := by decide +kernel
theorem dX7_spillsOne_43 : decode cX7_spillsOne 43 = .ok (.iload_n 3, 1) := by decide +kernel
theorem dX7_spillsOne_44 : decode cX7_spillsOne 44 = .ok (.aload_n 0, 1) := by decide +kernel
theorem dX7_spillsOne_45 : decode cX7_spillsOne 45 = .ok (.getfield 96, 3) := by decide +kernel
theorem dX7_spillsOne_48 : decode cX7_spillsOne 48 = .ok (.if_icmp .ge 102, 3) := by decide +kernel
theorem dX7_spillsOne_51 : decode cX7_spillsOne 51 = .ok (.aload_n 0, 1) := by decide +kernel
theorem dX7_spillsOne_52 : decode cX7_spillsOne 52 = .ok (.aload_n 0, 1) := by decide +kernel
theorem dX7_spillsOne_53 : decode cX7_spillsOne 53 = .ok (.getfield 19, 3) := by decide +kernel
theorem dX7_spillsOne_56 : decode cX7_spillsOne 56 = .ok (.iconst 5, 1) := by decide +kernel
theorem dX7_spillsOne_57 : decode cX7_spillsOne 57 = .ok (.iload_n 3, 1) := by decide +kernel
theorem dX7_spillsOne_58 : decode cX7_spillsOne 58 = .ok (.imul, 1) := by decide +kernel
theorem dX7_spillsOne_59 : decode cX7_spillsOne 59 = .ok (.iaload, 1) := by decide +kernel
theorem dX7_spillsOne_60 : decode cX7_spillsOne 60 = .ok (.aload_n 0, 1) := by decide +kernel
theorem dX7_spillsOne_61 : decode cX7_spillsOne 61 = .ok (.iconst 0, 1) := by decide +kernel
theorem dX7_spillsOne_62 : decode cX7_spillsOne 62 = .ok (.invokevirtual 110, 3) := by decide +kernel
theorem dX7_spillsOne_65 : decode cX7_spillsOne 65 = .ok (.aload_n 0, 1) := by decide +kernel
theorem dX7_spillsOne_66 : decode cX7_spillsOne 66 = .ok (.getfield 112, 3) := by decide +kernel
theorem dX7_spillsOne_69 : decode cX7_spillsOne 69 = .ok (.invokevirtual 89, 3) := by decide +kernel
theorem dX7_spillsOne_72 : decode cX7_spillsOne 72 = .ok (.iload_n 1, 1) := by decide +kernel
theorem dX7_spillsOne_73 : decode cX7_spillsOne 73 = .ok (.if_icmp .ne 71, 3) := by decide +kernel
theorem dX7_spillsOne_76 : decode cX7_spillsOne 76 = .ok (.aload_n 0, 1) := by decide +kernel
theorem dX7_spillsOne_77 : decode cX7_spillsOne 77 = .ok (.aload_n 0, 1) := by decide +kernel
theorem dX7_spillsOne_78 : decode cX7_spillsOne 78 = .ok (.aload_n 0, 1) := by decide +kernel
theorem dX7_spillsOne_79 : decode cX7_spillsOne 79 = .ok (.getfield 19, 3) := by decide +kernel
theorem dX7_spillsOne_82 : decode cX7_spillsOne 82 = .ok (.iconst 5, 1) := by decide +kernel
theorem dX7_spillsOne_83 : decode cX7_spillsOne 83 = .ok (.iload_n 3, 1) := by decide +kernel
theorem dX7_spillsOne_84 : decode cX7_spillsOne 84 = .ok (.imul, 1) := by decide +kernel
theorem dX7_spillsOne_85 : decode cX7_spillsOne 85 = .ok (.iaload, 1) := by decide +kernel
theorem dX7_spillsOne_86 : decode cX7_spillsOne 86 = .ok (.aload_n 0, 1) := by decide +kernel
theorem dX7_spillsOne_87 : decode cX7_spillsOne 87 = .ok (.getfield 19, 3) := by decide +kernel
theorem dX7_spillsOne_90 : decode cX7_spillsOne 90 = .ok (.iconst 5, 1) := by decide +kernel
theorem dX7_spillsOne_91 : decode cX7_spillsOne 91 = .ok (.iload_n 3, 1) := by decide +kernel
theorem dX7_spillsOne_92 : decode cX7_spillsOne 92 = .ok (.imul, 1) := by decide +kernel
theorem dX7_spillsOne_93 : decode cX7_spillsOne 93 = .ok (.iconst 1, 1) := by decide +kernel
theorem dX7_spillsOne_94 : decode cX7_spillsOne 94 = .ok (.iadd, 1) := by decide +kernel
theorem dX7_spillsOne_95 : decode cX7_spillsOne 95 = .ok (.iaload, 1) := by decide +kernel
theorem dX7_spillsOne_96 : decode cX7_spillsOne 96 = .ok (.aload_n 0, 1) := by decide +kernel
theorem dX7_spillsOne_97 : decode cX7_spillsOne 97 = .ok (.getfield 19, 3) := by decide +kernel
theorem dX7_spillsOne_100 : decode cX7_spillsOne 100 = .ok (.iconst 5, 1) := by decide +kernel
theorem dX7_spillsOne_101 : decode cX7_spillsOne 101 = .ok (.iload_n 3, 1) := by decide +kernel
theorem dX7_spillsOne_102 : decode cX7_spillsOne 102 = .ok (.imul, 1) := by decide +kernel
theorem dX7_spillsOne_103 : decode cX7_spillsOne 103 = .ok (.iconst 2, 1) := by decide +kernel
theorem dX7_spillsOne_104 : decode cX7_spillsOne 104 = .ok (.iadd, 1) := by decide +kernel
theorem dX7_spillsOne_105 : decode cX7_spillsOne 105 = .ok (.iaload, 1) := by decide +kernel
theorem dX7_spillsOne_106 : decode cX7_spillsOne 106 = .ok (.aload_n 0, 1) := by decide +kernel
theorem dX7_spillsOne_107 : decode cX7_spillsOne 107 = .ok (.getfield 19, 3) := by decide +kernel
theorem dX7_spillsOne_110 : decode cX7_spillsOne 110 = .ok (.iconst 5, 1) := by decide +kernel
theorem dX7_spillsOne_111 : decode cX7_spillsOne 111 = .ok (.iload_n 3, 1) := by decide +kernel
theorem dX7_spillsOne_112 : decode cX7_spillsOne 112 = .ok (.imul, 1) := by decide +kernel
theorem dX7_spillsOne_113 : decode cX7_spillsOne 113 = .ok (.iconst 3, 1) := by decide +kernel
theorem dX7_spillsOne_114 : decode cX7_spillsOne 114 = .ok (.iadd, 1) := by decide +kernel
theorem dX7_spillsOne_115 : decode cX7_spillsOne 115 = .ok (.iaload, 1) := by decide +kernel
theorem dX7_spillsOne_116 : decode cX7_spillsOne 116 = .ok (.aload_n 0, 1) := by decide +kernel
theorem dX7_spillsOne_117 : decode cX7_spillsOne 117 = .ok (.getfield 19, 3) := by decide +kernel
theorem dX7_spillsOne_120 : decode cX7_spillsOne 120 = .ok (.iconst 5, 1) := by decide +kernel
theorem dX7_spillsOne_121 : decode cX7_spillsOne 121 = .ok (.iload_n 3, 1) := by decide +kernel
theorem dX7_spillsOne_122 : decode cX7_spillsOne 122 = .ok (.imul, 1) := by decide +kernel
theorem dX7_spillsOne_123 : decode cX7_spillsOne 123 = .ok (.iconst 4, 1) := by decide +kernel
theorem dX7_spillsOne_124 : decode cX7_spillsOne 124 = .ok (.iadd, 1) := by decide +kernel
theorem dX7_spillsOne_125 : decode cX7_spillsOne 125 = .ok (.iaload, 1) := by decide +kernel
theorem dX7_spillsOne_126 : decode cX7_spillsOne 126 = .ok (.invokevirtual 118, 3) := by decide +kernel
theorem dX7_spillsOne_129 : decode cX7_spillsOne 129 = .ok (.iload_n 1, 1) := by decide +kernel
theorem dX7_spillsOne_130 : decode cX7_spillsOne 130 = .ok (.invokevirtual 122, 3) := by decide +kernel
theorem dX7_spillsOne_133 : decode cX7_spillsOne 133 = .ok (.aload_n 0, 1) := by decide +kernel
theorem dX7_spillsOne_134 : decode cX7_spillsOne 134 = .ok (.iload_n 3, 1) := by decide +kernel
theorem dX7_spillsOne_135 : decode cX7_spillsOne 135 = .ok (.invokevirtual 125, 3) := by decide +kernel
theorem dX7_spillsOne_138 : decode cX7_spillsOne 138 = .ok (.iinc 3 (-1), 3) := by decide +kernel
theorem dX7_spillsOne_141 : decode cX7_spillsOne 141 = .ok (.iinc 2 1, 3) := by decide +kernel
theorem dX7_spillsOne_144 : decode cX7_spillsOne 144 = .ok (.iinc 3 1, 3) := by decide +kernel
theorem dX7_spillsOne_147 : decode cX7_spillsOne 147 = .ok (.goto (-104), 3) := by decide +kernel
theorem dX7_spillsOne_150 : decode cX7_spillsOne 150 = .ok (.aload_n 0, 1) := by decide +kernel
theorem dX7_spillsOne_151 : decode cX7_spillsOne 151 = .ok (.getfield 22, 3) := by decide +kernel
theorem dX7_spillsOne_154 : decode cX7_spillsOne 154 = .ok (.bipush 7, 2) := by decide +kernel
theorem dX7_spillsOne_156 : decode cX7_spillsOne 156 = .ok (.aload_n 0, 1) := by decide +kernel
theorem dX7_spillsOne_157 : decode cX7_spillsOne 157 = .ok (.getfield 103, 3) := by decide +kernel
theorem dX7_spillsOne_160 : decode cX7_spillsOne 160 = .ok (.iconst 1, 1) := by decide +kernel
theorem dX7_spillsOne_161 : decode cX7_spillsOne 161 = .ok (.isub, 1) := by decide +kernel
theorem dX7_spillsOne_162 : decode cX7_spillsOne 162 = .ok (.imul, 1) := by decide +kernel
theorem dX7_spillsOne_163 : decode cX7_spillsOne 163 = .ok (.iconst 4, 1) := by decide +kernel
theorem dX7_spillsOne_164 : decode cX7_spillsOne 164 = .ok (.iadd, 1) := by decide +kernel
theorem dX7_spillsOne_165 : decode cX7_spillsOne 165 = .ok (.dup2, 1) := by decide +kernel
theorem dX7_spillsOne_166 : decode cX7_spillsOne 166 = .ok (.iaload, 1) := by decide +kernel
theorem dX7_spillsOne_167 : decode cX7_spillsOne 167 = .ok (.iconst 1, 1) := by decide +kernel
theorem dX7_spillsOne_168 : decode cX7_spillsOne 168 = .ok (.iload_n 1, 1) := by decide +kernel
theorem dX7_spillsOne_169 : decode cX7_spillsOne 169 = .ok (.ishl, 1) := by decide +kernel
theorem dX7_spillsOne_170 : decode cX7_spillsOne 170 = .ok (.ior, 1) := by decide +kernel
theorem dX7_spillsOne_171 : decode cX7_spillsOne 171 = .ok (.iastore, 1) := by decide +kernel
theorem dX7_spillsOne_172 : decode cX7_spillsOne 172 = .ok (.iconst 5, 1) := by decide +kernel
theorem dX7_spillsOne_173 : decode cX7_spillsOne 173 = .ok (.aload_n 0, 1) := by decide +kernel
theorem dX7_spillsOne_174 : decode cX7_spillsOne 174 = .ok (.getfield 128, 3) := by decide +kernel
theorem dX7_spillsOne_177 : decode cX7_spillsOne 177 = .ok (.imul, 1) := by decide +kernel
theorem dX7_spillsOne_178 : decode cX7_spillsOne 178 = .ok (.istore_n 3, 1) := by decide +kernel
theorem dX7_spillsOne_179 : decode cX7_spillsOne 179 = .ok (.aload_n 0, 1) := by decide +kernel
theorem dX7_spillsOne_180 : decode cX7_spillsOne 180 = .ok (.getfield 25, 3) := by decide +kernel
theorem dX7_spillsOne_183 : decode cX7_spillsOne 183 = .ok (.iload_n 3, 1) := by decide +kernel
theorem dX7_spillsOne_184 : decode cX7_spillsOne 184 = .ok (.aload_n 0, 1) := by decide +kernel
theorem dX7_spillsOne_185 : decode cX7_spillsOne 185 = .ok (.iconst 0, 1) := by decide +kernel
theorem dX7_spillsOne_186 : decode cX7_spillsOne 186 = .ok (.invokevirtual 110, 3) := by decide +kernel
theorem dX7_spillsOne_189 : decode cX7_spillsOne 189 = .ok (.iastore, 1) := by decide +kernel
theorem dX7_spillsOne_190 : decode cX7_spillsOne 190 = .ok (.aload_n 0, 1) := by decide +kernel
theorem dX7_spillsOne_191 : decode cX7_spillsOne 191 = .ok (.getfield 25, 3) := by decide +kernel
theorem dX7_spillsOne_194 : decode cX7_spillsOne 194 = .ok (.iload_n 3, 1) := by decide +kernel
theorem dX7_spillsOne_195 : decode cX7_spillsOne 195 = .ok (.iconst 1, 1) := by decide +kernel
theorem dX7_spillsOne_196 : decode cX7_spillsOne 196 = .ok (.iadd, 1) := by decide +kernel
theorem dX7_spillsOne_197 : decode cX7_spillsOne 197 = .ok (.aload_n 0, 1) := by decide +kernel
theorem dX7_spillsOne_198 : decode cX7_spillsOne 198 = .ok (.iconst 1, 1) := by decide +kernel
theorem dX7_spillsOne_199 : decode cX7_spillsOne 199 = .ok (.invokevirtual 110, 3) := by decide +kernel
theorem dX7_spillsOne_202 : decode cX7_spillsOne 202 = .ok (.iastore, 1) := by decide +kernel
theorem dX7_spillsOne_203 : decode cX7_spillsOne 203 = .ok (.aload_n 0, 1) := by decide +kernel
theorem dX7_spillsOne_204 : decode cX7_spillsOne 204 = .ok (.getfield 25, 3) := by decide +kernel
theorem dX7_spillsOne_207 : decode cX7_spillsOne 207 = .ok (.iload_n 3, 1) := by decide +kernel
theorem dX7_spillsOne_208 : decode cX7_spillsOne 208 = .ok (.iconst 2, 1) := by decide +kernel
theorem dX7_spillsOne_209 : decode cX7_spillsOne 209 = .ok (.iadd, 1) := by decide +kernel
theorem dX7_spillsOne_210 : decode cX7_spillsOne 210 = .ok (.iload_n 1, 1) := by decide +kernel
theorem dX7_spillsOne_211 : decode cX7_spillsOne 211 = .ok (.iastore, 1) := by decide +kernel
theorem dX7_spillsOne_212 : decode cX7_spillsOne 212 = .ok (.aload_n 0, 1) := by decide +kernel
theorem dX7_spillsOne_213 : decode cX7_spillsOne 213 = .ok (.getfield 25, 3) := by decide +kernel
theorem dX7_spillsOne_216 : decode cX7_spillsOne 216 = .ok (.iload_n 3, 1) := by decide +kernel
theorem dX7_spillsOne_217 : decode cX7_spillsOne 217 = .ok (.iconst 3, 1) := by decide +kernel
theorem dX7_spillsOne_218 : decode cX7_spillsOne 218 = .ok (.iadd, 1) := by decide +kernel
theorem dX7_spillsOne_219 : decode cX7_spillsOne 219 = .ok (.iload_n 2, 1) := by decide +kernel
theorem dX7_spillsOne_220 : decode cX7_spillsOne 220 = .ok (.iastore, 1) := by decide +kernel
theorem dX7_spillsOne_221 : decode cX7_spillsOne 221 = .ok (.aload_n 0, 1) := by decide +kernel
theorem dX7_spillsOne_222 : decode cX7_spillsOne 222 = .ok (.dup, 1) := by decide +kernel
theorem dX7_spillsOne_223 : decode cX7_spillsOne 223 = .ok (.getfield 128, 3) := by decide +kernel
theorem dX7_spillsOne_226 : decode cX7_spillsOne 226 = .ok (.iconst 1, 1) := by decide +kernel
theorem dX7_spillsOne_227 : decode cX7_spillsOne 227 = .ok (.iadd, 1) := by decide +kernel
theorem dX7_spillsOne_228 : decode cX7_spillsOne 228 = .ok (.putfield 128, 3) := by decide +kernel
theorem dX7_spillsOne_231 : decode cX7_spillsOne 231 = .ok (.return_, 1) := by decide +kernel
theorem dX7_takes_0 : decode cX7_takes 0 = .ok (.aload_n 0, 1) := by decide +kernel
theorem dX7_takes_1 : decode cX7_takes 1 = .ok (.aload_n 0, 1) := by decide +kernel
theorem dX7_takes_2 : decode cX7_takes 2 = .ok (.iload_n 1, 1) := by decide +kernel
theorem dX7_takes_3 : decode cX7_takes 3 = .ok (.iconst 0, 1) := by decide +kernel
theorem dX7_takes_4 : decode cX7_takes 4 = .ok (.invokevirtual 99, 3) := by decide +kernel
theorem dX7_takes_7 : decode cX7_takes 7 = .ok (.aload_n 0, 1) := by decide +kernel
theorem dX7_takes_8 : decode cX7_takes 8 = .ok (.iconst 0, 1) := by decide +kernel
theorem dX7_takes_9 : decode cX7_takes 9 = .ok (.invokevirtual 110, 3) := by decide +kernel
theorem dX7_takes_12 : decode cX7_takes 12 = .ok (.aload_n 0, 1) := by decide +kernel
theorem dX7_takes_13 : decode cX7_takes 13 = .ok (.getfield 112, 3) := by decide +kernel
theorem dX7_takes_16 : decode cX7_takes 16 = .ok (.invokevirtual 89, 3) := by decide +kernel
theorem dX7_takes_19 : decode cX7_takes 19 = .ok (.istore_n 2, 1) := by decide +kernel
theorem dX7_takes_20 : decode cX7_takes 20 = .ok (.aload_n 0, 1) := by decide +kernel
theorem dX7_takes_21 : decode cX7_takes 21 = .ok (.iconst 4, 1) := by decide +kernel
theorem dX7_takes_22 : decode cX7_takes 22 = .ok (.invokevirtual 110, 3) := by decide +kernel
theorem dX7_takes_25 : decode cX7_takes 25 = .ok (.iload_n 2, 1) := by decide +kernel
theorem dX7_takes_26 : decode cX7_takes 26 = .ok (.ishr, 1) := by decide +kernel
theorem dX7_takes_27 : decode cX7_takes 27 = .ok (.iconst 1, 1) := by decide +kernel
theorem dX7_takes_28 : decode cX7_takes 28 = .ok (.iand, 1) := by decide +kernel
theorem dX7_takes_29 : decode cX7_takes 29 = .ok (.iconst 1, 1) := by decide +kernel
theorem dX7_takes_30 : decode cX7_takes 30 = .ok (.if_icmp .ne 11, 3) := by decide +kernel
theorem dX7_takes_33 : decode cX7_takes 33 = .ok (.aload_n 0, 1) := by decide +kernel
theorem dX7_takes_34 : decode cX7_takes 34 = .ok (.iload_n 1, 1) := by decide +kernel
theorem dX7_takes_35 : decode cX7_takes 35 = .ok (.iload_n 2, 1) := by decide +kernel
theorem dX7_takes_36 : decode cX7_takes 36 = .ok (.invokevirtual 122, 3) := by decide +kernel
theorem dX7_takes_39 : decode cX7_takes 39 = .ok (.iconst 1, 1) := by decide +kernel
theorem dX7_takes_40 : decode cX7_takes 40 = .ok (.ireturn, 1) := by decide +kernel
theorem dX7_takes_41 : decode cX7_takes 41 = .ok (.aload_n 0, 1) := by decide +kernel
theorem dX7_takes_42 : decode cX7_takes 42 = .ok (.aload_n 0, 1) := by decide +kernel
theorem dX7_takes_43 : decode cX7_takes 43 = .ok (.iload_n 1, 1) := by decide +kernel
theorem dX7_takes_44 : decode cX7_takes 44 = .ok (.iconst 0, 1) := by decide +kernel
theorem dX7_takes_45 : decode cX7_takes 45 = .ok (.invokevirtual 99, 3) := by decide +kernel
theorem dX7_takes_48 : decode cX7_takes 48 = .ok (.invokevirtual 131, 3) := by decide +kernel
theorem dX7_takes_51 : decode cX7_takes 51 = .ok (.istore_n 3, 1) := by decide +kernel
theorem dX7_takes_52 : decode cX7_takes 52 = .ok (.iload_n 3, 1) := by decide +kernel
theorem dX7_takes_53 : decode cX7_takes 53 = .ok (.iconst (-1), 1) := by decide +kernel
theorem dX7_takes_54 : decode cX7_takes 54 = .ok (.if_icmp .eq 11, 3) := by decide +kernel
theorem dX7_takes_57 : decode cX7_takes 57 = .ok (.aload_n 0, 1) := by decide +kernel
theorem dX7_takes_58 : decode cX7_takes 58 = .ok (.iload_n 3, 1) := by decide +kernel
theorem dX7_takes_59 : decode cX7_takes 59 = .ok (.iload_n 1, 1) := by decide +kernel
theorem dX7_takes_60 : decode cX7_takes 60 = .ok (.invokevirtual 134, 3) := by decide +kernel
theorem dX7_takes_63 : decode cX7_takes 63 = .ok (.iconst 1, 1) := by decide +kernel
theorem dX7_takes_64 : decode cX7_takes 64 = .ok (.ireturn, 1) := by decide +kernel
theorem dX7_takes_65 : decode cX7_takes 65 = .ok (.aload_n 0, 1) := by decide +kernel
theorem dX7_takes_66 : decode cX7_takes 66 = .ok (.getfield 96, 3) := by decide +kernel
theorem dX7_takes_69 : decode cX7_takes 69 = .ok (.aload_n 0, 1) := by decide +kernel
theorem dX7_takes_70 : decode cX7_takes 70 = .ok (.getfield 137, 3) := by decide +kernel
theorem dX7_takes_73 : decode cX7_takes 73 = .ok (.if_icmp .lt 7, 3) := by decide +kernel
theorem dX7_takes_76 : decode cX7_takes 76 = .ok (.iconst 1, 1) := by decide +kernel
theorem dX7_takes_77 : decode cX7_takes 77 = .ok (.goto 4, 3) := by decide +kernel
theorem dX7_takes_80 : decode cX7_takes 80 = .ok (.iconst 0, 1) := by decide +kernel
theorem dX7_takes_81 : decode cX7_takes 81 = .ok (.istore 4, 2) := by decide +kernel
theorem dX7_takes_83 : decode cX7_takes 83 = .ok (.iload 4, 2) := by decide +kernel
theorem dX7_takes_85 : decode cX7_takes 85 = .ok (.ifCond .eq 26, 3) := by decide +kernel
theorem dX7_takes_88 : decode cX7_takes 88 = .ok (.aload_n 0, 1) := by decide +kernel
theorem dX7_takes_89 : decode cX7_takes 89 = .ok (.iconst 0, 1) := by decide +kernel
theorem dX7_takes_90 : decode cX7_takes 90 = .ok (.invokevirtual 110, 3) := by decide +kernel
theorem dX7_takes_93 : decode cX7_takes 93 = .ok (.bipush 16, 2) := by decide +kernel
theorem dX7_takes_95 : decode cX7_takes 95 = .ok (.aload_n 0, 1) := by decide +kernel
theorem dX7_takes_96 : decode cX7_takes 96 = .ok (.getfield 112, 3) := by decide +kernel
theorem dX7_takes_99 : decode cX7_takes 99 = .ok (.idiv, 1) := by decide +kernel
theorem dX7_takes_100 : decode cX7_takes 100 = .ok (.iconst 1, 1) := by decide +kernel
theorem dX7_takes_101 : decode cX7_takes 101 = .ok (.isub, 1) := by decide +kernel
theorem dX7_takes_102 : decode cX7_takes 102 = .ok (.if_icmp .ge 9, 3) := by decide +kernel
theorem dX7_takes_105 : decode cX7_takes 105 = .ok (.aload_n 0, 1) := by decide +kernel
theorem dX7_takes_106 : decode cX7_takes 106 = .ok (.invokevirtual 140, 3) := by decide +kernel
theorem dX7_takes_109 : decode cX7_takes 109 = .ok (.iconst 0, 1) := by decide +kernel
theorem dX7_takes_110 : decode cX7_takes 110 = .ok (.ireturn, 1) := by decide +kernel
theorem dX7_takes_111 : decode cX7_takes 111 = .ok (.aload_n 0, 1) := by decide +kernel
theorem dX7_takes_112 : decode cX7_takes 112 = .ok (.dup, 1) := by decide +kernel
theorem dX7_takes_113 : decode cX7_takes 113 = .ok (.getfield 143, 3) := by decide +kernel
theorem dX7_takes_116 : decode cX7_takes 116 = .ok (.iload 4, 2) := by decide +kernel
theorem dX7_takes_118 : decode cX7_takes 118 = .ok (.ifCond .eq 7, 3) := by decide +kernel
theorem dX7_takes_121 : decode cX7_takes 121 = .ok (.iconst 1, 1) := by decide +kernel
theorem dX7_takes_122 : decode cX7_takes 122 = .ok (.goto 4, 3) := by decide +kernel
theorem dX7_takes_125 : decode cX7_takes 125 = .ok (.iconst 0, 1) := by decide +kernel
theorem dX7_takes_126 : decode cX7_takes 126 = .ok (.iadd, 1) := by decide +kernel
theorem dX7_takes_127 : decode cX7_takes 127 = .ok (.putfield 143, 3) := by decide +kernel
theorem dX7_takes_130 : decode cX7_takes 130 = .ok (.aload_n 0, 1) := by decide +kernel
theorem dX7_takes_131 : decode cX7_takes 131 = .ok (.iload_n 1, 1) := by decide +kernel
theorem dX7_takes_132 : decode cX7_takes 132 = .ok (.invokevirtual 146, 3) := by decide +kernel
theorem dX7_takes_135 : decode cX7_takes 135 = .ok (.bipush 7, 2) := by decide +kernel
theorem dX7_takes_137 : decode cX7_takes 137 = .ok (.aload_n 0, 1) := by decide +kernel
theorem dX7_takes_138 : decode cX7_takes 138 = .ok (.getfield 103, 3) := by decide +kernel
theorem dX7_takes_141 : decode cX7_takes 141 = .ok (.iconst 1, 1) := by decide +kernel
theorem dX7_takes_142 : decode cX7_takes 142 = .ok (.isub, 1) := by decide +kernel
theorem dX7_takes_143 : decode cX7_takes 143 = .ok (.imul, 1) := by decide +kernel
theorem dX7_takes_144 : decode cX7_takes 144 = .ok (.bipush 6, 2) := by decide +kernel
theorem dX7_takes_146 : decode cX7_takes 146 = .ok (.iadd, 1) := by decide +kernel
theorem dX7_takes_147 : decode cX7_takes 147 = .ok (.istore 5, 2) := by decide +kernel
theorem dX7_takes_149 : decode cX7_takes 149 = .ok (.aload_n 0, 1) := by decide +kernel
theorem dX7_takes_150 : decode cX7_takes 150 = .ok (.getfield 22, 3) := by decide +kernel
theorem dX7_takes_153 : decode cX7_takes 153 = .ok (.iload 5, 2) := by decide +kernel
theorem dX7_takes_155 : decode cX7_takes 155 = .ok (.aload_n 0, 1) := by decide +kernel
theorem dX7_takes_156 : decode cX7_takes 156 = .ok (.getfield 96, 3) := by decide +kernel
theorem dX7_takes_159 : decode cX7_takes 159 = .ok (.aload_n 0, 1) := by decide +kernel
theorem dX7_takes_160 : decode cX7_takes 160 = .ok (.getfield 22, 3) := by decide +kernel
theorem dX7_takes_163 : decode cX7_takes 163 = .ok (.iload 5, 2) := by decide +kernel
theorem dX7_takes_165 : decode cX7_takes 165 = .ok (.iaload, 1) := by decide +kernel
theorem dX7_takes_166 : decode cX7_takes 166 = .ok (.if_icmp .le 10, 3) := by decide +kernel
theorem dX7_takes_169 : decode cX7_takes 169 = .ok (.aload_n 0, 1) := by decide +kernel
theorem dX7_takes_170 : decode cX7_takes 170 = .ok (.getfield 96, 3) := by decide +kernel
theorem dX7_takes_173 : decode cX7_takes 173 = .ok (.goto 10, 3) := by decide +kernel
theorem dX7_takes_176 : decode cX7_takes 176 = .ok (.aload_n 0, 1) := by decide +kernel
theorem dX7_takes_177 : decode cX7_takes 177 = .ok (.getfield 22, 3) := by decide +kernel
theorem dX7_takes_180 : decode cX7_takes 180 = .ok (.iload 5, 2) := by decide +kernel
theorem dX7_takes_182 : decode cX7_takes 182 = .ok (.iaload, 1) := by decide +kernel
theorem dX7_takes_183 : decode cX7_takes 183 = .ok (.iastore, 1) := by decide +kernel
theorem dX7_takes_184 : decode cX7_takes 184 = .ok (.iconst 1, 1) := by decide +kernel
theorem dX7_takes_185 : decode cX7_takes 185 = .ok (.ireturn, 1) := by decide +kernel
theorem dX7_finishes_0 : decode cX7_finishes 0 = .ok (.iconst 0, 1) := by decide +kernel
theorem dX7_finishes_1 : decode cX7_finishes 1 = .ok (.istore_n 1, 1) := by decide +kernel
theorem dX7_finishes_2 : decode cX7_finishes 2 = .ok (.iload_n 1, 1) := by decide +kernel
theorem dX7_finishes_3 : decode cX7_finishes 3 = .ok (.aload_n 0, 1) := by decide +kernel
theorem dX7_finishes_4 : decode cX7_finishes 4 = .ok (.getfield 96, 3) := by decide +kernel
theorem dX7_finishes_7 : decode cX7_finishes 7 = .ok (.if_icmp .ge 100, 3) := by decide +kernel
theorem dX7_finishes_10 : decode cX7_finishes 10 = .ok (.iconst 0, 1) := by decide +kernel
theorem dX7_finishes_11 : decode cX7_finishes 11 = .ok (.istore_n 2, 1) := by decide +kernel
theorem dX7_finishes_12 : decode cX7_finishes 12 = .ok (.iload_n 2, 1) := by decide +kernel
theorem dX7_finishes_13 : decode cX7_finishes 13 = .ok (.iconst 5, 1) := by decide +kernel
theorem dX7_finishes_14 : decode cX7_finishes 14 = .ok (.if_icmp .ge 33, 3) := by decide +kernel
theorem dX7_finishes_17 : decode cX7_finishes 17 = .ok (.aload_n 0, 1) := by decide +kernel
theorem dX7_finishes_18 : decode cX7_finishes 18 = .ok (.getfield 28, 3) := by decide +kernel
theorem dX7_finishes_21 : decode cX7_finishes 21 = .ok (.bipush 7, 2) := by decide +kernel
theorem dX7_finishes_23 : decode cX7_finishes 23 = .ok (.aload_n 0, 1) := by decide +kernel
theorem dX7_finishes_24 : decode cX7_finishes 24 = .ok (.getfield 149, 3) := by decide +kernel
theorem dX7_finishes_27 : decode cX7_finishes 27 = .ok (.imul, 1) := by decide +kernel
theorem dX7_finishes_28 : decode cX7_finishes 28 = .ok (.iload_n 2, 1) := by decide +kernel
theorem dX7_finishes_29 : decode cX7_finishes 29 = .ok (.iadd, 1) := by decide +kernel
theorem dX7_finishes_30 : decode cX7_finishes 30 = .ok (.aload_n 0, 1) := by decide +kernel
theorem dX7_finishes_31 : decode cX7_finishes 31 = .ok (.getfield 19, 3) := by decide +kernel
theorem dX7_finishes_34 : decode cX7_finishes 34 = .ok (.iconst 5, 1) := by decide +kernel
theorem dX7_finishes_35 : decode cX7_finishes 35 = .ok (.iload_n 1, 1) := by decide +kernel
theorem dX7_finishes_36 : decode cX7_finishes 36 = .ok (.imul, 1) := by decide +kernel
theorem dX7_finishes_37 : decode cX7_finishes 37 = .ok (.iload_n 2, 1) := by decide +kernel
theorem dX7_finishes_38 : decode cX7_finishes 38 = .ok (.iadd, 1) := by decide +kernel
theorem dX7_finishes_39 : decode cX7_finishes 39 = .ok (.iaload, 1) := by decide +kernel
theorem dX7_finishes_40 : decode cX7_finishes 40 = .ok (.iastore, 1) := by decide +kernel
theorem dX7_finishes_41 : decode cX7_finishes 41 = .ok (.iinc 2 1, 3) := by decide +kernel
theorem dX7_finishes_44 : decode cX7_finishes 44 = .ok (.goto (-32), 3) := by decide +kernel
theorem dX7_finishes_47 : decode cX7_finishes 47 = .ok (.aload_n 0, 1) := by decide +kernel
theorem dX7_finishes_48 : decode cX7_finishes 48 = .ok (.getfield 28, 3) := by decide +kernel
theorem dX7_finishes_51 : decode cX7_finishes 51 = .ok (.bipush 7, 2) := by decide +kernel
theorem dX7_finishes_53 : decode cX7_finishes 53 = .ok (.aload_n 0, 1) := by decide +kernel
theorem dX7_finishes_54 : decode cX7_finishes 54 = .ok (.getfield 149, 3) := by decide +kernel
theorem dX7_finishes_57 : decode cX7_finishes 57 = .ok (.imul, 1) := by decide +kernel
theorem dX7_finishes_58 : decode cX7_finishes 58 = .ok (.iconst 5, 1) := by decide +kernel
theorem dX7_finishes_59 : decode cX7_finishes 59 = .ok (.iadd, 1) := by decide +kernel
theorem dX7_finishes_60 : decode cX7_finishes 60 = .ok (.aload_n 0, 1) := by decide +kernel
theorem dX7_finishes_61 : decode cX7_finishes 61 = .ok (.iconst 0, 1) := by decide +kernel
theorem dX7_finishes_62 : decode cX7_finishes 62 = .ok (.invokevirtual 110, 3) := by decide +kernel
theorem dX7_finishes_65 : decode cX7_finishes 65 = .ok (.iastore, 1) := by decide +kernel
theorem dX7_finishes_66 : decode cX7_finishes 66 = .ok (.aload_n 0, 1) := by decide +kernel
theorem dX7_finishes_67 : decode cX7_finishes 67 = .ok (.getfield 28, 3) := by decide +kernel
theorem dX7_finishes_70 : decode cX7_finishes 70 = .ok (.bipush 7, 2) := by decide +kernel
theorem dX7_finishes_72 : decode cX7_finishes 72 = .ok (.aload_n 0, 1) := by decide +kernel
theorem dX7_finishes_73 : decode cX7_finishes 73 = .ok (.getfield 149, 3) := by decide +kernel
theorem dX7_finishes_76 : decode cX7_finishes 76 = .ok (.imul, 1) := by decide +kernel
theorem dX7_finishes_77 : decode cX7_finishes 77 = .ok (.bipush 6, 2) := by decide +kernel
theorem dX7_finishes_79 : decode cX7_finishes 79 = .ok (.iadd, 1) := by decide +kernel
theorem dX7_finishes_80 : decode cX7_finishes 80 = .ok (.aload_n 0, 1) := by decide +kernel
theorem dX7_finishes_81 : decode cX7_finishes 81 = .ok (.iconst 1, 1) := by decide +kernel
theorem dX7_finishes_82 : decode cX7_finishes 82 = .ok (.invokevirtual 110, 3) := by decide +kernel
theorem dX7_finishes_85 : decode cX7_finishes 85 = .ok (.iastore, 1) := by decide +kernel
theorem dX7_finishes_86 : decode cX7_finishes 86 = .ok (.aload_n 0, 1) := by decide +kernel
theorem dX7_finishes_87 : decode cX7_finishes 87 = .ok (.dup, 1) := by decide +kernel
theorem dX7_finishes_88 : decode cX7_finishes 88 = .ok (.getfield 149, 3) := by decide +kernel
theorem dX7_finishes_91 : decode cX7_finishes 91 = .ok (.iconst 1, 1) := by decide +kernel
theorem dX7_finishes_92 : decode cX7_finishes 92 = .ok (.iadd, 1) := by decide +kernel
theorem dX7_finishes_93 : decode cX7_finishes 93 = .ok (.putfield 149, 3) := by decide +kernel
theorem dX7_finishes_96 : decode cX7_finishes 96 = .ok (.aload_n 0, 1) := by decide +kernel
theorem dX7_finishes_97 : decode cX7_finishes 97 = .ok (.iconst 3, 1) := by decide +kernel
theorem dX7_finishes_98 : decode cX7_finishes 98 = .ok (.invokevirtual 106, 3) := by decide +kernel
theorem dX7_finishes_101 : decode cX7_finishes 101 = .ok (.iinc 1 1, 3) := by decide +kernel
theorem dX7_finishes_104 : decode cX7_finishes 104 = .ok (.goto (-102), 3) := by decide +kernel
theorem dX7_finishes_107 : decode cX7_finishes 107 = .ok (.aload_n 0, 1) := by decide +kernel
theorem dX7_finishes_108 : decode cX7_finishes 108 = .ok (.iconst 0, 1) := by decide +kernel
theorem dX7_finishes_109 : decode cX7_finishes 109 = .ok (.putfield 96, 3) := by decide +kernel
theorem dX7_finishes_112 : decode cX7_finishes 112 = .ok (.return_, 1) := by decide +kernel
theorem dX7_leavesFiles_0 : decode cX7_leavesFiles 0 = .ok (.iload_n 1, 1) := by decide +kernel
theorem dX7_leavesFiles_1 : decode cX7_leavesFiles 1 = .ok (.istore_n 2, 1) := by decide +kernel
theorem dX7_leavesFiles_2 : decode cX7_leavesFiles 2 = .ok (.iload_n 2, 1) := by decide +kernel
theorem dX7_leavesFiles_3 : decode cX7_leavesFiles 3 = .ok (.aload_n 0, 1) := by decide +kernel
theorem dX7_leavesFiles_4 : decode cX7_leavesFiles 4 = .ok (.getfield 128, 3) := by decide +kernel
theorem dX7_leavesFiles_7 : decode cX7_leavesFiles 7 = .ok (.if_icmp .ge 34, 3) := by decide +kernel
theorem dX7_leavesFiles_10 : decode cX7_leavesFiles 10 = .ok (.aload_n 0, 1) := by decide +kernel
theorem dX7_leavesFiles_11 : decode cX7_leavesFiles 11 = .ok (.getfield 25, 3) := by decide +kernel
theorem dX7_leavesFiles_14 : decode cX7_leavesFiles 14 = .ok (.iconst 5, 1) := by decide +kernel
theorem dX7_leavesFiles_15 : decode cX7_leavesFiles 15 = .ok (.iload_n 2, 1) := by decide +kernel
theorem dX7_leavesFiles_16 : decode cX7_leavesFiles 16 = .ok (.imul, 1) := by decide +kernel
theorem dX7_leavesFiles_17 : decode cX7_leavesFiles 17 = .ok (.iconst 4, 1) := by decide +kernel
theorem dX7_leavesFiles_18 : decode cX7_leavesFiles 18 = .ok (.iadd, 1) := by decide +kernel
theorem dX7_leavesFiles_19 : decode cX7_leavesFiles 19 = .ok (.aload_n 0, 1) := by decide +kernel
theorem dX7_leavesFiles_20 : decode cX7_leavesFiles 20 = .ok (.getfield 40, 3) := by decide +kernel
theorem dX7_leavesFiles_23 : decode cX7_leavesFiles 23 = .ok (.aload_n 0, 1) := by decide +kernel
theorem dX7_leavesFiles_24 : decode cX7_leavesFiles 24 = .ok (.getfield 25, 3) := by decide +kernel
theorem dX7_leavesFiles_27 : decode cX7_leavesFiles 27 = .ok (.iconst 5, 1) := by decide +kernel
theorem dX7_leavesFiles_28 : decode cX7_leavesFiles 28 = .ok (.iload_n 2, 1) := by decide +kernel
theorem dX7_leavesFiles_29 : decode cX7_leavesFiles 29 = .ok (.imul, 1) := by decide +kernel
theorem dX7_leavesFiles_30 : decode cX7_leavesFiles 30 = .ok (.iconst 2, 1) := by decide +kernel
theorem dX7_leavesFiles_31 : decode cX7_leavesFiles 31 = .ok (.iadd, 1) := by decide +kernel
theorem dX7_leavesFiles_32 : decode cX7_leavesFiles 32 = .ok (.iaload, 1) := by decide +kernel
theorem dX7_leavesFiles_33 : decode cX7_leavesFiles 33 = .ok (.iaload, 1) := by decide +kernel
theorem dX7_leavesFiles_34 : decode cX7_leavesFiles 34 = .ok (.iastore, 1) := by decide +kernel
theorem dX7_leavesFiles_35 : decode cX7_leavesFiles 35 = .ok (.iinc 2 1, 3) := by decide +kernel
theorem dX7_leavesFiles_38 : decode cX7_leavesFiles 38 = .ok (.goto (-36), 3) := by decide +kernel
theorem dX7_leavesFiles_41 : decode cX7_leavesFiles 41 = .ok (.iconst 1, 1) := by decide +kernel
theorem dX7_leavesFiles_42 : decode cX7_leavesFiles 42 = .ok (.aload_n 0, 1) := by decide +kernel
theorem dX7_leavesFiles_43 : decode cX7_leavesFiles 43 = .ok (.getfield 112, 3) := by decide +kernel
theorem dX7_leavesFiles_46 : decode cX7_leavesFiles 46 = .ok (.ishl, 1) := by decide +kernel
theorem dX7_leavesFiles_47 : decode cX7_leavesFiles 47 = .ok (.iconst 1, 1) := by decide +kernel
theorem dX7_leavesFiles_48 : decode cX7_leavesFiles 48 = .ok (.isub, 1) := by decide +kernel
theorem dX7_leavesFiles_49 : decode cX7_leavesFiles 49 = .ok (.istore_n 2, 1) := by decide +kernel
theorem dX7_leavesFiles_50 : decode cX7_leavesFiles 50 = .ok (.iload_n 2, 1) := by decide +kernel
theorem dX7_leavesFiles_51 : decode cX7_leavesFiles 51 = .ok (.ifCond .lt 94, 3) := by decide +kernel
theorem dX7_leavesFiles_54 : decode cX7_leavesFiles 54 = .ok (.aload_n 0, 1) := by decide +kernel
theorem dX7_leavesFiles_55 : decode cX7_leavesFiles 55 = .ok (.iconst 4, 1) := by decide +kernel
theorem dX7_leavesFiles_56 : decode cX7_leavesFiles 56 = .ok (.invokevirtual 110, 3) := by decide +kernel
theorem dX7_leavesFiles_59 : decode cX7_leavesFiles 59 = .ok (.iload_n 2, 1) := by decide +kernel
theorem dX7_leavesFiles_60 : decode cX7_leavesFiles 60 = .ok (.ishr, 1) := by decide +kernel
theorem dX7_leavesFiles_61 : decode cX7_leavesFiles 61 = .ok (.iconst 1, 1) := by decide +kernel
theorem dX7_leavesFiles_62 : decode cX7_leavesFiles 62 = .ok (.iand, 1) := by decide +kernel
theorem dX7_leavesFiles_63 : decode cX7_leavesFiles 63 = .ok (.iconst 1, 1) := by decide +kernel
theorem dX7_leavesFiles_64 : decode cX7_leavesFiles 64 = .ok (.if_icmp .ne 75, 3) := by decide +kernel
theorem dX7_leavesFiles_67 : decode cX7_leavesFiles 67 = .ok (.aload_n 0, 1) := by decide +kernel
theorem dX7_leavesFiles_68 : decode cX7_leavesFiles 68 = .ok (.getfield 31, 3) := by decide +kernel
theorem dX7_leavesFiles_71 : decode cX7_leavesFiles 71 = .ok (.iconst 3, 1) := by decide +kernel
theorem dX7_leavesFiles_72 : decode cX7_leavesFiles 72 = .ok (.aload_n 0, 1) := by decide +kernel
theorem dX7_leavesFiles_73 : decode cX7_leavesFiles 73 = .ok (.getfield 152, 3) := by decide +kernel
theorem dX7_leavesFiles_76 : decode cX7_leavesFiles 76 = .ok (.imul, 1) := by decide +kernel
theorem dX7_leavesFiles_77 : decode cX7_leavesFiles 77 = .ok (.aload_n 0, 1) := by decide +kernel
theorem dX7_leavesFiles_78 : decode cX7_leavesFiles 78 = .ok (.iconst 0, 1) := by decide +kernel
theorem dX7_leavesFiles_79 : decode cX7_leavesFiles 79 = .ok (.invokevirtual 110, 3) := by decide +kernel
theorem dX7_leavesFiles_82 : decode cX7_leavesFiles 82 = .ok (.iconst 1, 1) := by decide +kernel
theorem dX7_leavesFiles_83 : decode cX7_leavesFiles 83 = .ok (.iadd, 1) := by decide +kernel
theorem dX7_leavesFiles_84 : decode cX7_leavesFiles 84 = .ok (.iastore, 1) := by decide +kernel
theorem dX7_leavesFiles_85 : decode cX7_leavesFiles 85 = .ok (.aload_n 0, 1) := by decide +kernel
theorem dX7_leavesFiles_86 : decode cX7_leavesFiles 86 = .ok (.getfield 31, 3) := by decide +kernel
theorem dX7_leavesFiles_89 : decode cX7_leavesFiles 89 = .ok (.iconst 3, 1) := by decide +kernel
theorem dX7_leavesFiles_90 : decode cX7_leavesFiles 90 = .ok (.aload_n 0, 1) := by decide +kernel
theorem dX7_leavesFiles_91 : decode cX7_leavesFiles 91 = .ok (.getfield 152, 3) := by decide +kernel
theorem dX7_leavesFiles_94 : decode cX7_leavesFiles 94 = .ok (.imul, 1) := by decide +kernel
theorem dX7_leavesFiles_95 : decode cX7_leavesFiles 95 = .ok (.iconst 1, 1) := by decide +kernel
theorem dX7_leavesFiles_96 : decode cX7_leavesFiles 96 = .ok (.iadd, 1) := by decide +kernel
theorem dX7_leavesFiles_97 : decode cX7_leavesFiles 97 = .ok (.aload_n 0, 1) := by decide +kernel
theorem dX7_leavesFiles_98 : decode cX7_leavesFiles 98 = .ok (.iconst 1, 1) := by decide +kernel
theorem dX7_leavesFiles_99 : decode cX7_leavesFiles 99 = .ok (.invokevirtual 110, 3) := by decide +kernel
theorem dX7_leavesFiles_102 : decode cX7_leavesFiles 102 = .ok (.aload_n 0, 1) := by decide +kernel
theorem dX7_leavesFiles_103 : decode cX7_leavesFiles 103 = .ok (.getfield 112, 3) := by decide +kernel
theorem dX7_leavesFiles_106 : decode cX7_leavesFiles 106 = .ok (.ishl, 1) := by decide +kernel
theorem dX7_leavesFiles_107 : decode cX7_leavesFiles 107 = .ok (.iload_n 2, 1) := by decide +kernel
theorem dX7_leavesFiles_108 : decode cX7_leavesFiles 108 = .ok (.iadd, 1) := by decide +kernel
theorem dX7_leavesFiles_109 : decode cX7_leavesFiles 109 = .ok (.iastore, 1) := by decide +kernel
theorem dX7_leavesFiles_110 : decode cX7_leavesFiles 110 = .ok (.aload_n 0, 1) := by decide +kernel
theorem dX7_leavesFiles_111 : decode cX7_leavesFiles 111 = .ok (.getfield 31, 3) := by decide +kernel
theorem dX7_leavesFiles_114 : decode cX7_leavesFiles 114 = .ok (.iconst 3, 1) := by decide +kernel
theorem dX7_leavesFiles_115 : decode cX7_leavesFiles 115 = .ok (.aload_n 0, 1) := by decide +kernel
theorem dX7_leavesFiles_116 : decode cX7_leavesFiles 116 = .ok (.getfield 152, 3) := by decide +kernel
theorem dX7_leavesFiles_119 : decode cX7_leavesFiles 119 = .ok (.imul, 1) := by decide +kernel
theorem dX7_leavesFiles_120 : decode cX7_leavesFiles 120 = .ok (.iconst 2, 1) := by decide +kernel
theorem dX7_leavesFiles_121 : decode cX7_leavesFiles 121 = .ok (.iadd, 1) := by decide +kernel
theorem dX7_leavesFiles_122 : decode cX7_leavesFiles 122 = .ok (.aload_n 0, 1) := by decide +kernel
theorem dX7_leavesFiles_123 : decode cX7_leavesFiles 123 = .ok (.getfield 34, 3) := by decide +kernel
theorem dX7_leavesFiles_126 : decode cX7_leavesFiles 126 = .ok (.iload_n 2, 1) := by decide +kernel
theorem dX7_leavesFiles_127 : decode cX7_leavesFiles 127 = .ok (.iaload, 1) := by decide +kernel
theorem dX7_leavesFiles_128 : decode cX7_leavesFiles 128 = .ok (.iastore, 1) := by decide +kernel
theorem dX7_leavesFiles_129 : decode cX7_leavesFiles 129 = .ok (.aload_n 0, 1) := by decide +kernel
theorem dX7_leavesFiles_130 : decode cX7_leavesFiles 130 = .ok (.dup, 1) := by decide +kernel
theorem dX7_leavesFiles_131 : decode cX7_leavesFiles 131 = .ok (.getfield 152, 3) := by decide +kernel
theorem dX7_leavesFiles_134 : decode cX7_leavesFiles 134 = .ok (.iconst 1, 1) := by decide +kernel
theorem dX7_leavesFiles_135 : decode cX7_leavesFiles 135 = .ok (.iadd, 1) := by decide +kernel
theorem dX7_leavesFiles_136 : decode cX7_leavesFiles 136 = .ok (.putfield 152, 3) := by decide +kernel
theorem dX7_leavesFiles_139 : decode cX7_leavesFiles 139 = .ok (.iinc 2 (-1), 3) := by decide +kernel
theorem dX7_leavesFiles_142 : decode cX7_leavesFiles 142 = .ok (.goto (-92), 3) := by decide +kernel
theorem dX7_leavesFiles_145 : decode cX7_leavesFiles 145 = .ok (.return_, 1) := by decide +kernel
theorem dX7_doPass_0 : decode cX7_doPass 0 = .ok (.iconst 0, 1) := by decide +kernel
theorem dX7_doPass_1 : decode cX7_doPass 1 = .ok (.istore 4, 2) := by decide +kernel
theorem dX7_doPass_3 : decode cX7_doPass 3 = .ok (.iload 4, 2) := by decide +kernel
theorem dX7_doPass_5 : decode cX7_doPass 5 = .ok (.bipush 16, 2) := by decide +kernel
theorem dX7_doPass_7 : decode cX7_doPass 7 = .ok (.if_icmp .ge 17, 3) := by decide +kernel
theorem dX7_doPass_10 : decode cX7_doPass 10 = .ok (.aload_n 0, 1) := by decide +kernel
theorem dX7_doPass_11 : decode cX7_doPass 11 = .ok (.getfield 40, 3) := by decide +kernel
theorem dX7_doPass_14 : decode cX7_doPass 14 = .ok (.iload 4, 2) := by decide +kernel
theorem dX7_doPass_16 : decode cX7_doPass 16 = .ok (.iconst 0, 1) := by decide +kernel
theorem dX7_doPass_17 : decode cX7_doPass 17 = .ok (.iastore, 1) := by decide +kernel
theorem dX7_doPass_18 : decode cX7_doPass 18 = .ok (.iinc 4 1, 3) := by decide +kernel
theorem dX7_doPass_21 : decode cX7_doPass 21 = .ok (.goto (-18), 3) := by decide +kernel
theorem dX7_doPass_24 : decode cX7_doPass 24 = .ok (.iconst 0, 1) := by decide +kernel
theorem dX7_doPass_25 : decode cX7_doPass 25 = .ok (.istore 4, 2) := by decide +kernel
theorem dX7_doPass_27 : decode cX7_doPass 27 = .ok (.iload 4, 2) := by decide +kernel
theorem dX7_doPass_29 : decode cX7_doPass 29 = .ok (.bipush 7, 2) := by decide +kernel
theorem dX7_doPass_31 : decode cX7_doPass 31 = .ok (.if_icmp .ge 25, 3) := by decide +kernel
theorem dX7_doPass_34 : decode cX7_doPass 34 = .ok (.aload_n 0, 1) := by decide +kernel
theorem dX7_doPass_35 : decode cX7_doPass 35 = .ok (.getfield 22, 3) := by decide +kernel
theorem dX7_doPass_38 : decode cX7_doPass 38 = .ok (.bipush 7, 2) := by decide +kernel
theorem dX7_doPass_40 : decode cX7_doPass 40 = .ok (.aload_n 0, 1) := by decide +kernel
theorem dX7_doPass_41 : decode cX7_doPass 41 = .ok (.getfield 103, 3) := by decide +kernel
theorem dX7_doPass_44 : decode cX7_doPass 44 = .ok (.imul, 1) := by decide +kernel
theorem dX7_doPass_45 : decode cX7_doPass 45 = .ok (.iload 4, 2) := by decide +kernel
theorem dX7_doPass_47 : decode cX7_doPass 47 = .ok (.iadd, 1) := by decide +kernel
theorem dX7_doPass_48 : decode cX7_doPass 48 = .ok (.iconst 0, 1) := by decide +kernel
theorem dX7_doPass_49 : decode cX7_doPass 49 = .ok (.iastore, 1) := by decide +kernel
theorem dX7_doPass_50 : decode cX7_doPass 50 = .ok (.iinc 4 1, 3) := by decide +kernel
theorem dX7_doPass_53 : decode cX7_doPass 53 = .ok (.goto (-26), 3) := by decide +kernel
theorem dX7_doPass_56 : decode cX7_doPass 56 = .ok (.aload_n 0, 1) := by decide +kernel
theorem dX7_doPass_57 : decode cX7_doPass 57 = .ok (.getfield 22, 3) := by decide +kernel
theorem dX7_doPass_60 : decode cX7_doPass 60 = .ok (.bipush 7, 2) := by decide +kernel
theorem dX7_doPass_62 : decode cX7_doPass 62 = .ok (.aload_n 0, 1) := by decide +kernel
theorem dX7_doPass_63 : decode cX7_doPass 63 = .ok (.getfield 103, 3) := by decide +kernel
theorem dX7_doPass_66 : decode cX7_doPass 66 = .ok (.imul, 1) := by decide +kernel
theorem dX7_doPass_67 : decode cX7_doPass 67 = .ok (.iload_n 1, 1) := by decide +kernel
theorem dX7_doPass_68 : decode cX7_doPass 68 = .ok (.iastore, 1) := by decide +kernel
theorem dX7_doPass_69 : decode cX7_doPass 69 = .ok (.aload_n 0, 1) := by decide +kernel
theorem dX7_doPass_70 : decode cX7_doPass 70 = .ok (.getfield 22, 3) := by decide +kernel
theorem dX7_doPass_73 : decode cX7_doPass 73 = .ok (.bipush 7, 2) := by decide +kernel
theorem dX7_doPass_75 : decode cX7_doPass 75 = .ok (.aload_n 0, 1) := by decide +kernel
theorem dX7_doPass_76 : decode cX7_doPass 76 = .ok (.getfield 103, 3) := by decide +kernel
theorem dX7_doPass_79 : decode cX7_doPass 79 = .ok (.imul, 1) := by decide +kernel
theorem dX7_doPass_80 : decode cX7_doPass 80 = .ok (.iconst 1, 1) := by decide +kernel
theorem dX7_doPass_81 : decode cX7_doPass 81 = .ok (.iadd, 1) := by decide +kernel
theorem dX7_doPass_82 : decode cX7_doPass 82 = .ok (.iload_n 2, 1) := by decide +kernel
theorem dX7_doPass_83 : decode cX7_doPass 83 = .ok (.iastore, 1) := by decide +kernel
theorem dX7_doPass_84 : decode cX7_doPass 84 = .ok (.aload_n 0, 1) := by decide +kernel
theorem dX7_doPass_85 : decode cX7_doPass 85 = .ok (.dup, 1) := by decide +kernel
theorem dX7_doPass_86 : decode cX7_doPass 86 = .ok (.getfield 103, 3) := by decide +kernel
theorem dX7_doPass_89 : decode cX7_doPass 89 = .ok (.iconst 1, 1) := by decide +kernel
theorem dX7_doPass_90 : decode cX7_doPass 90 = .ok (.iadd, 1) := by decide +kernel
theorem dX7_doPass_91 : decode cX7_doPass 91 = .ok (.putfield 103, 3) := by decide +kernel
theorem dX7_doPass_94 : decode cX7_doPass 94 = .ok (.aload_n 0, 1) := by decide +kernel
theorem dX7_doPass_95 : decode cX7_doPass 95 = .ok (.getfield 128, 3) := by decide +kernel
theorem dX7_doPass_98 : decode cX7_doPass 98 = .ok (.istore 4, 2) := by decide +kernel
theorem dX7_doPass_100 : decode cX7_doPass 100 = .ok (.iload_n 3, 1) := by decide +kernel
theorem dX7_doPass_101 : decode cX7_doPass 101 = .ok (.istore 5, 2) := by decide +kernel
theorem dX7_doPass_103 : decode cX7_doPass 103 = .ok (.iload 5, 2) := by decide +kernel
theorem dX7_doPass_105 : decode cX7_doPass 105 = .ok (.iconst (-1), 1) := by decide +kernel
theorem dX7_doPass_106 : decode cX7_doPass 106 = .ok (.if_icmp .eq 48, 3) := by decide +kernel
theorem dX7_doPass_109 : decode cX7_doPass 109 = .ok (.aload_n 0, 1) := by decide +kernel
theorem dX7_doPass_110 : decode cX7_doPass 110 = .ok (.iload 5, 2) := by decide +kernel
theorem dX7_doPass_112 : decode cX7_doPass 112 = .ok (.iconst 5, 1) := by decide +kernel
theorem dX7_doPass_113 : decode cX7_doPass 113 = .ok (.invokevirtual 99, 3) := by decide +kernel
theorem dX7_doPass_116 : decode cX7_doPass 116 = .ok (.istore 6, 2) := by decide +kernel
theorem dX7_doPass_118 : decode cX7_doPass 118 = .ok (.aload_n 0, 1) := by decide +kernel
theorem dX7_doPass_119 : decode cX7_doPass 119 = .ok (.iconst 2, 1) := by decide +kernel
theorem dX7_doPass_120 : decode cX7_doPass 120 = .ok (.invokevirtual 106, 3) := by decide +kernel
theorem dX7_doPass_123 : decode cX7_doPass 123 = .ok (.aload_n 0, 1) := by decide +kernel
theorem dX7_doPass_124 : decode cX7_doPass 124 = .ok (.iload 5, 2) := by decide +kernel
theorem dX7_doPass_126 : decode cX7_doPass 126 = .ok (.invokevirtual 155, 3) := by decide +kernel
theorem dX7_doPass_129 : decode cX7_doPass 129 = .ok (.istore 7, 2) := by decide +kernel
theorem dX7_doPass_131 : decode cX7_doPass 131 = .ok (.iload 7, 2) := by decide +kernel
theorem dX7_doPass_133 : decode cX7_doPass 133 = .ok (.ifCond .ne 14, 3) := by decide +kernel
theorem dX7_doPass_136 : decode cX7_doPass 136 = .ok (.aload_n 0, 1) := by decide +kernel
theorem dX7_doPass_137 : decode cX7_doPass 137 = .ok (.iload 5, 2) := by decide +kernel
theorem dX7_doPass_139 : decode cX7_doPass 139 = .ok (.invokevirtual 155, 3) := by decide +kernel
theorem dX7_doPass_142 : decode cX7_doPass 142 = .ok (.istore 7, 2) := by decide +kernel
theorem dX7_doPass_144 : decode cX7_doPass 144 = .ok (.goto (-13), 3) := by decide +kernel
theorem dX7_doPass_147 : decode cX7_doPass 147 = .ok (.iload 6, 2) := by decide +kernel
theorem dX7_doPass_149 : decode cX7_doPass 149 = .ok (.istore 5, 2) := by decide +kernel
theorem dX7_doPass_151 : decode cX7_doPass 151 = .ok (.goto (-48), 3) := by decide +kernel
theorem dX7_doPass_154 : decode cX7_doPass 154 = .ok (.aload_n 0, 1) := by decide +kernel
theorem dX7_doPass_155 : decode cX7_doPass 155 = .ok (.invokevirtual 159, 3) := by decide +kernel
theorem dX7_doPass_158 : decode cX7_doPass 158 = .ok (.aload_n 0, 1) := by decide +kernel
theorem dX7_doPass_159 : decode cX7_doPass 159 = .ok (.iload 4, 2) := by decide +kernel
theorem dX7_doPass_161 : decode cX7_doPass 161 = .ok (.invokevirtual 162, 3) := by decide +kernel
theorem dX7_doPass_164 : decode cX7_doPass 164 = .ok (.return_, 1) := by decide +kernel
theorem dX7_run_0 : decode cX7_run 0 = .ok (.aload_n 0, 1) := by decide +kernel
theorem dX7_run_1 : decode cX7_run 1 = .ok (.iload_n 1, 1) := by decide +kernel
theorem dX7_run_2 : decode cX7_run 2 = .ok (.putfield 137, 3) := by decide +kernel
theorem dX7_run_5 : decode cX7_run 5 = .ok (.aload_n 0, 1) := by decide +kernel
theorem dX7_run_6 : decode cX7_run 6 = .ok (.iload_n 2, 1) := by decide +kernel
theorem dX7_run_7 : decode cX7_run 7 = .ok (.putfield 112, 3) := by decide +kernel
theorem dX7_run_10 : decode cX7_run 10 = .ok (.aload_n 0, 1) := by decide +kernel
theorem dX7_run_11 : decode cX7_run 11 = .ok (.iconst 0, 1) := by decide +kernel
theorem dX7_run_12 : decode cX7_run 12 = .ok (.putfield 93, 3) := by decide +kernel
theorem dX7_run_15 : decode cX7_run 15 = .ok (.aload_n 0, 1) := by decide +kernel
theorem dX7_run_16 : decode cX7_run 16 = .ok (.iconst 0, 1) := by decide +kernel
theorem dX7_run_17 : decode cX7_run 17 = .ok (.putfield 103, 3) := by decide +kernel
theorem dX7_run_20 : decode cX7_run 20 = .ok (.aload_n 0, 1) := by decide +kernel
theorem dX7_run_21 : decode cX7_run 21 = .ok (.iconst 0, 1) := by decide +kernel
theorem dX7_run_22 : decode cX7_run 22 = .ok (.putfield 128, 3) := by decide +kernel
theorem dX7_run_25 : decode cX7_run 25 = .ok (.aload_n 0, 1) := by decide +kernel
theorem dX7_run_26 : decode cX7_run 26 = .ok (.iconst 0, 1) := by decide +kernel
theorem dX7_run_27 : decode cX7_run 27 = .ok (.putfield 149, 3) := by decide +kernel
theorem dX7_run_30 : decode cX7_run 30 = .ok (.aload_n 0, 1) := by decide +kernel
theorem dX7_run_31 : decode cX7_run 31 = .ok (.iconst 0, 1) := by decide +kernel
theorem dX7_run_32 : decode cX7_run 32 = .ok (.putfield 143, 3) := by decide +kernel
theorem dX7_run_35 : decode cX7_run 35 = .ok (.iconst 0, 1) := by decide +kernel
theorem dX7_run_36 : decode cX7_run 36 = .ok (.istore_n 3, 1) := by decide +kernel
theorem dX7_run_37 : decode cX7_run 37 = .ok (.iload_n 3, 1) := by decide +kernel
theorem dX7_run_38 : decode cX7_run 38 = .ok (.aload_n 0, 1) := by decide +kernel
theorem dX7_run_39 : decode cX7_run 39 = .ok (.getfield 7, 3) := by decide +kernel
theorem dX7_run_42 : decode cX7_run 42 = .ok (.iconst 0, 1) := by decide +kernel
theorem dX7_run_43 : decode cX7_run 43 = .ok (.iaload, 1) := by decide +kernel
theorem dX7_run_44 : decode cX7_run 44 = .ok (.if_icmp .ge 82, 3) := by decide +kernel
theorem dX7_run_47 : decode cX7_run 47 = .ok (.aload_n 0, 1) := by decide +kernel
theorem dX7_run_48 : decode cX7_run 48 = .ok (.aload_n 0, 1) := by decide +kernel
theorem dX7_run_49 : decode cX7_run 49 = .ok (.getfield 7, 3) := by decide +kernel
theorem dX7_run_52 : decode cX7_run 52 = .ok (.iconst 4, 1) := by decide +kernel
theorem dX7_run_53 : decode cX7_run 53 = .ok (.iload_n 3, 1) := by decide +kernel
theorem dX7_run_54 : decode cX7_run 54 = .ok (.iadd, 1) := by decide +kernel
theorem dX7_run_55 : decode cX7_run 55 = .ok (.iaload, 1) := by decide +kernel
theorem dX7_run_56 : decode cX7_run 56 = .ok (.iconst 1, 1) := by decide +kernel
theorem dX7_run_57 : decode cX7_run 57 = .ok (.aload_n 0, 1) := by decide +kernel
theorem dX7_run_58 : decode cX7_run 58 = .ok (.getfield 7, 3) := by decide +kernel
theorem dX7_run_61 : decode cX7_run 61 = .ok (.bipush 104, 2) := by decide +kernel
theorem dX7_run_63 : decode cX7_run 63 = .ok (.iload_n 3, 1) := by decide +kernel
theorem dX7_run_64 : decode cX7_run 64 = .ok (.iadd, 1) := by decide +kernel
theorem dX7_run_65 : decode cX7_run 65 = .ok (.iaload, 1) := by decide +kernel
theorem dX7_run_66 : decode cX7_run 66 = .ok (.aload_n 0, 1) := by decide +kernel
theorem dX7_run_67 : decode cX7_run 67 = .ok (.getfield 7, 3) := by decide +kernel
theorem dX7_run_70 : decode cX7_run 70 = .ok (.bipush 104, 2) := by decide +kernel
theorem dX7_run_72 : decode cX7_run 72 = .ok (.iload_n 3, 1) := by decide +kernel
theorem dX7_run_73 : decode cX7_run 73 = .ok (.iadd, 1) := by decide +kernel
theorem dX7_run_74 : decode cX7_run 74 = .ok (.iaload, 1) := by decide +kernel
theorem dX7_run_75 : decode cX7_run 75 = .ok (.aload_n 0, 1) := by decide +kernel
theorem dX7_run_76 : decode cX7_run 76 = .ok (.getfield 7, 3) := by decide +kernel
theorem dX7_run_79 : decode cX7_run 79 = .ok (.bipush 104, 2) := by decide +kernel
theorem dX7_run_81 : decode cX7_run 81 = .ok (.iload_n 3, 1) := by decide +kernel
theorem dX7_run_82 : decode cX7_run 82 = .ok (.iadd, 1) := by decide +kernel
theorem dX7_run_83 : decode cX7_run 83 = .ok (.iaload, 1) := by decide +kernel
theorem dX7_run_84 : decode cX7_run 84 = .ok (.invokevirtual 118, 3) := by decide +kernel
theorem dX7_run_87 : decode cX7_run 87 = .ok (.istore 4, 2) := by decide +kernel
theorem dX7_run_89 : decode cX7_run 89 = .ok (.aload_n 0, 1) := by decide +kernel
theorem dX7_run_90 : decode cX7_run 90 = .ok (.getfield 16, 3) := by decide +kernel
theorem dX7_run_93 : decode cX7_run 93 = .ok (.bipush 6, 2) := by decide +kernel
theorem dX7_run_95 : decode cX7_run 95 = .ok (.iload 4, 2) := by decide +kernel
theorem dX7_run_97 : decode cX7_run 97 = .ok (.imul, 1) := by decide +kernel
theorem dX7_run_98 : decode cX7_run 98 = .ok (.iconst 5, 1) := by decide +kernel
theorem dX7_run_99 : decode cX7_run 99 = .ok (.iadd, 1) := by decide +kernel
theorem dX7_run_100 : decode cX7_run 100 = .ok (.iload_n 3, 1) := by decide +kernel
theorem dX7_run_101 : decode cX7_run 101 = .ok (.iconst 1, 1) := by decide +kernel
theorem dX7_run_102 : decode cX7_run 102 = .ok (.iadd, 1) := by decide +kernel
theorem dX7_run_103 : decode cX7_run 103 = .ok (.aload_n 0, 1) := by decide +kernel
theorem dX7_run_104 : decode cX7_run 104 = .ok (.getfield 7, 3) := by decide +kernel
theorem dX7_run_107 : decode cX7_run 107 = .ok (.iconst 0, 1) := by decide +kernel
theorem dX7_run_108 : decode cX7_run 108 = .ok (.iaload, 1) := by decide +kernel
theorem dX7_run_109 : decode cX7_run 109 = .ok (.if_icmp .ge 9, 3) := by decide +kernel
theorem dX7_run_112 : decode cX7_run 112 = .ok (.iload_n 3, 1) := by decide +kernel
theorem dX7_run_113 : decode cX7_run 113 = .ok (.iconst 1, 1) := by decide +kernel
theorem dX7_run_114 : decode cX7_run 114 = .ok (.iadd, 1) := by decide +kernel
theorem dX7_run_115 : decode cX7_run 115 = .ok (.goto 4, 3) := by decide +kernel
theorem dX7_run_118 : decode cX7_run 118 = .ok (.iconst (-1), 1) := by decide +kernel
theorem dX7_run_119 : decode cX7_run 119 = .ok (.iastore, 1) := by decide +kernel
theorem dX7_run_120 : decode cX7_run 120 = .ok (.iinc 3 1, 3) := by decide +kernel
theorem dX7_run_123 : decode cX7_run 123 = .ok (.goto (-86), 3) := by decide +kernel
theorem dX7_run_126 : decode cX7_run 126 = .ok (.aload_n 0, 1) := by decide +kernel
theorem dX7_run_127 : decode cX7_run 127 = .ok (.iconst 1, 1) := by decide +kernel
theorem dX7_run_128 : decode cX7_run 128 = .ok (.putfield 152, 3) := by decide +kernel
theorem dX7_run_131 : decode cX7_run 131 = .ok (.aload_n 0, 1) := by decide +kernel
theorem dX7_run_132 : decode cX7_run 132 = .ok (.getfield 31, 3) := by decide +kernel
theorem dX7_run_135 : decode cX7_run 135 = .ok (.iconst 0, 1) := by decide +kernel
theorem dX7_run_136 : decode cX7_run 136 = .ok (.iconst 0, 1) := by decide +kernel
theorem dX7_run_137 : decode cX7_run 137 = .ok (.iastore, 1) := by decide +kernel
theorem dX7_run_138 : decode cX7_run 138 = .ok (.aload_n 0, 1) := by decide +kernel
theorem dX7_run_139 : decode cX7_run 139 = .ok (.getfield 31, 3) := by decide +kernel
theorem dX7_run_142 : decode cX7_run 142 = .ok (.iconst 1, 1) := by decide +kernel
theorem dX7_run_143 : decode cX7_run 143 = .ok (.iconst 0, 1) := by decide +kernel
theorem dX7_run_144 : decode cX7_run 144 = .ok (.iastore, 1) := by decide +kernel
theorem dX7_run_145 : decode cX7_run 145 = .ok (.aload_n 0, 1) := by decide +kernel
theorem dX7_run_146 : decode cX7_run 146 = .ok (.getfield 31, 3) := by decide +kernel
theorem dX7_run_149 : decode cX7_run 149 = .ok (.iconst 2, 1) := by decide +kernel
theorem dX7_run_150 : decode cX7_run 150 = .ok (.aload_n 0, 1) := by decide +kernel
theorem dX7_run_151 : decode cX7_run 151 = .ok (.getfield 7, 3) := by decide +kernel
theorem dX7_run_154 : decode cX7_run 154 = .ok (.iconst 0, 1) := by decide +kernel
theorem dX7_run_155 : decode cX7_run 155 = .ok (.iaload, 1) := by decide +kernel
theorem dX7_run_156 : decode cX7_run 156 = .ok (.ifCond .le 7, 3) := by decide +kernel
theorem dX7_run_159 : decode cX7_run 159 = .ok (.iconst 0, 1) := by decide +kernel
theorem dX7_run_160 : decode cX7_run 160 = .ok (.goto 4, 3) := by decide +kernel
theorem dX7_run_163 : decode cX7_run 163 = .ok (.iconst (-1), 1) := by decide +kernel
theorem dX7_run_164 : decode cX7_run 164 = .ok (.iastore, 1) := by decide +kernel
theorem dX7_run_165 : decode cX7_run 165 = .ok (.aload_n 0, 1) := by decide +kernel
theorem dX7_run_166 : decode cX7_run 166 = .ok (.getfield 152, 3) := by decide +kernel
theorem dX7_run_169 : decode cX7_run 169 = .ok (.ifCond .le 57, 3) := by decide +kernel
theorem dX7_run_172 : decode cX7_run 172 = .ok (.aload_n 0, 1) := by decide +kernel
theorem dX7_run_173 : decode cX7_run 173 = .ok (.dup, 1) := by decide +kernel
theorem dX7_run_174 : decode cX7_run 174 = .ok (.getfield 152, 3) := by decide +kernel
theorem dX7_run_177 : decode cX7_run 177 = .ok (.iconst 1, 1) := by decide +kernel
theorem dX7_run_178 : decode cX7_run 178 = .ok (.isub, 1) := by decide +kernel
theorem dX7_run_179 : decode cX7_run 179 = .ok (.putfield 152, 3) := by decide +kernel
theorem dX7_run_182 : decode cX7_run 182 = .ok (.aload_n 0, 1) := by decide +kernel
theorem dX7_run_183 : decode cX7_run 183 = .ok (.aload_n 0, 1) := by decide +kernel
theorem dX7_run_184 : decode cX7_run 184 = .ok (.getfield 31, 3) := by decide +kernel
theorem dX7_run_187 : decode cX7_run 187 = .ok (.iconst 3, 1) := by decide +kernel
theorem dX7_run_188 : decode cX7_run 188 = .ok (.aload_n 0, 1) := by decide +kernel
theorem dX7_run_189 : decode cX7_run 189 = .ok (.getfield 152, 3) := by decide +kernel
theorem dX7_run_192 : decode cX7_run 192 = .ok (.imul, 1) := by decide +kernel
theorem dX7_run_193 : decode cX7_run 193 = .ok (.iaload, 1) := by decide +kernel
theorem dX7_run_194 : decode cX7_run 194 = .ok (.aload_n 0, 1) := by decide +kernel
theorem dX7_run_195 : decode cX7_run 195 = .ok (.getfield 31, 3) := by decide +kernel
theorem dX7_run_198 : decode cX7_run 198 = .ok (.iconst 3, 1) := by decide +kernel
theorem dX7_run_199 : decode cX7_run 199 = .ok (.aload_n 0, 1) := by decide +kernel
theorem dX7_run_200 : decode cX7_run 200 = .ok (.getfield 152, 3) := by decide +kernel
theorem dX7_run_203 : decode cX7_run 203 = .ok (.imul, 1) := by decide +kernel
theorem dX7_run_204 : decode cX7_run 204 = .ok (.iconst 1, 1) := by decide +kernel
theorem dX7_run_205 : decode cX7_run 205 = .ok (.iadd, 1) := by decide +kernel
theorem dX7_run_206 : decode cX7_run 206 = .ok (.iaload, 1) := by decide +kernel
theorem dX7_run_207 : decode cX7_run 207 = .ok (.aload_n 0, 1) := by decide +kernel
theorem dX7_run_208 : decode cX7_run 208 = .ok (.getfield 31, 3) := by decide +kernel
theorem dX7_run_211 : decode cX7_run 211 = .ok (.iconst 3, 1) := by decide +kernel
theorem dX7_run_212 : decode cX7_run 212 = .ok (.aload_n 0, 1) := by decide +kernel
theorem dX7_run_213 : decode cX7_run 213 = .ok (.getfield 152, 3) := by decide +kernel
theorem dX7_run_216 : decode cX7_run 216 = .ok (.imul, 1) := by decide +kernel
theorem dX7_run_217 : decode cX7_run 217 = .ok (.iconst 2, 1) := by decide +kernel
theorem dX7_run_218 : decode cX7_run 218 = .ok (.iadd, 1) := by decide +kernel
theorem dX7_run_219 : decode cX7_run 219 = .ok (.iaload, 1) := by decide +kernel
theorem dX7_run_220 : decode cX7_run 220 = .ok (.invokevirtual 165, 3) := by decide +kernel
theorem dX7_run_223 : decode cX7_run 223 = .ok (.goto (-58), 3) := by decide +kernel
theorem dX7_run_226 : decode cX7_run 226 = .ok (.return_, 1) := by decide +kernel
theorem dX7_runNow_0 : decode cX7_runNow 0 = .ok (.aload_n 0, 1) := by decide +kernel
theorem dX7_runNow_1 : decode cX7_runNow 1 = .ok (.aload_n 0, 1) := by decide +kernel
theorem dX7_runNow_2 : decode cX7_runNow 2 = .ok (.getfield 7, 3) := by decide +kernel
theorem dX7_runNow_5 : decode cX7_runNow 5 = .ok (.iconst 1, 1) := by decide +kernel
theorem dX7_runNow_6 : decode cX7_runNow 6 = .ok (.iaload, 1) := by decide +kernel
theorem dX7_runNow_7 : decode cX7_runNow 7 = .ok (.aload_n 0, 1) := by decide +kernel
theorem dX7_runNow_8 : decode cX7_runNow 8 = .ok (.getfield 7, 3) := by decide +kernel
theorem dX7_runNow_11 : decode cX7_runNow 11 = .ok (.iconst 2, 1) := by decide +kernel
theorem dX7_runNow_12 : decode cX7_runNow 12 = .ok (.iaload, 1) := by decide +kernel
theorem dX7_runNow_13 : decode cX7_runNow 13 = .ok (.invokevirtual 169, 3) := by decide +kernel
theorem dX7_runNow_16 : decode cX7_runNow 16 = .ok (.return_, 1) := by decide +kernel
theorem dX7_groupOf_0 : decode cX7_groupOf 0 = .ok (.iload_n 1, 1) := by decide +kernel
theorem dX7_groupOf_1 : decode cX7_groupOf 1 = .ok (.ifCond .lt 15, 3) := by decide +kernel
theorem dX7_groupOf_4 : decode cX7_groupOf 4 = .ok (.iload_n 2, 1) := by decide +kernel
theorem dX7_groupOf_5 : decode cX7_groupOf 5 = .ok (.i2l, 1) := by decide +kernel
theorem dX7_groupOf_6 : decode cX7_groupOf 6 = .ok (.lconst 0, 1) := by decide +kernel
theorem dX7_groupOf_7 : decode cX7_groupOf 7 = .ok (.ldc2_w 172, 3) := by decide +kernel
theorem dX7_groupOf_10 : decode cX7_groupOf 10 = .ok (.invokestatic 53, 3) := by decide +kernel
theorem dX7_groupOf_13 : decode cX7_groupOf 13 = .ok (.ifCond .ne 6, 3) := by decide +kernel
theorem dX7_groupOf_16 : decode cX7_groupOf 16 = .ok (.ldc 65, 2) := by decide +kernel
theorem dX7_groupOf_18 : decode cX7_groupOf 18 = .ok (.ireturn, 1) := by decide +kernel
theorem dX7_groupOf_19 : decode cX7_groupOf 19 = .ok (.aload_n 0, 1) := by decide +kernel
theorem dX7_groupOf_20 : decode cX7_groupOf 20 = .ok (.invokevirtual 174, 3) := by decide +kernel
theorem dX7_groupOf_23 : decode cX7_groupOf 23 = .ok (.iconst 0, 1) := by decide +kernel
theorem dX7_groupOf_24 : decode cX7_groupOf 24 = .ok (.istore_n 3, 1) := by decide +kernel
theorem dX7_groupOf_25 : decode cX7_groupOf 25 = .ok (.iload_n 3, 1) := by decide +kernel
theorem dX7_groupOf_26 : decode cX7_groupOf 26 = .ok (.aload_n 0, 1) := by decide +kernel
theorem dX7_groupOf_27 : decode cX7_groupOf 27 = .ok (.getfield 149, 3) := by decide +kernel
theorem dX7_groupOf_30 : decode cX7_groupOf 30 = .ok (.if_icmp .ge 90, 3) := by decide +kernel
theorem dX7_groupOf_33 : decode cX7_groupOf 33 = .ok (.iconst 0, 1) := by decide +kernel
theorem dX7_groupOf_34 : decode cX7_groupOf 34 = .ok (.istore 4, 2) := by decide +kernel
theorem dX7_groupOf_36 : decode cX7_groupOf 36 = .ok (.iconst 0, 1) := by decide +kernel
theorem dX7_groupOf_37 : decode cX7_groupOf 37 = .ok (.istore 5, 2) := by decide +kernel
theorem dX7_groupOf_39 : decode cX7_groupOf 39 = .ok (.iload 5, 2) := by decide +kernel
theorem dX7_groupOf_41 : decode cX7_groupOf 41 = .ok (.aload_n 0, 1) := by decide +kernel
theorem dX7_groupOf_42 : decode cX7_groupOf 42 = .ok (.getfield 149, 3) := by decide +kernel
theorem dX7_groupOf_45 : decode cX7_groupOf 45 = .ok (.if_icmp .ge 41, 3) := by decide +kernel
theorem dX7_groupOf_48 : decode cX7_groupOf 48 = .ok (.iload 4, 2) := by decide +kernel
theorem dX7_groupOf_50 : decode cX7_groupOf 50 = .ok (.aload_n 0, 1) := by decide +kernel
theorem dX7_groupOf_51 : decode cX7_groupOf 51 = .ok (.getfield 28, 3) := by decide +kernel
theorem dX7_groupOf_54 : decode cX7_groupOf 54 = .ok (.bipush 7, 2) := by decide +kernel
theorem dX7_groupOf_56 : decode cX7_groupOf 56 = .ok (.iload 5, 2) := by decide +kernel
theorem dX7_groupOf_58 : decode cX7_groupOf 58 = .ok (.imul, 1) := by decide +kernel
theorem dX7_groupOf_59 : decode cX7_groupOf 59 = .ok (.iaload, 1) := by decide +kernel
theorem dX7_groupOf_60 : decode cX7_groupOf 60 = .ok (.aload_n 0, 1) := by decide +kernel
theorem dX7_groupOf_61 : decode cX7_groupOf 61 = .ok (.getfield 28, 3) := by decide +kernel
theorem dX7_groupOf_64 : decode cX7_groupOf 64 = .ok (.bipush 7, 2) := by decide +kernel
theorem dX7_groupOf_66 : decode cX7_groupOf 66 = .ok (.iload_n 3, 1) := by decide +kernel
theorem dX7_groupOf_67 : decode cX7_groupOf 67 = .ok (.imul, 1) := by decide +kernel
theorem dX7_groupOf_68 : decode cX7_groupOf 68 = .ok (.iaload, 1) := by decide +kernel
theorem dX7_groupOf_69 : decode cX7_groupOf 69 = .ok (.if_icmp .ge 7, 3) := by decide +kernel
theorem dX7_groupOf_72 : decode cX7_groupOf 72 = .ok (.iconst 1, 1) := by decide +kernel
theorem dX7_groupOf_73 : decode cX7_groupOf 73 = .ok (.goto 4, 3) := by decide +kernel
theorem dX7_groupOf_76 : decode cX7_groupOf 76 = .ok (.iconst 0, 1) := by decide +kernel
theorem dX7_groupOf_77 : decode cX7_groupOf 77 = .ok (.iadd, 1) := by decide +kernel
theorem dX7_groupOf_78 : decode cX7_groupOf 78 = .ok (.istore 4, 2) := by decide +kernel
theorem dX7_groupOf_80 : decode cX7_groupOf 80 = .ok (.iinc 5 1, 3) := by decide +kernel
theorem dX7_groupOf_83 : decode cX7_groupOf 83 = .ok (.goto (-44), 3) := by decide +kernel
theorem dX7_groupOf_86 : decode cX7_groupOf 86 = .ok (.iload 4, 2) := by decide +kernel
theorem dX7_groupOf_88 : decode cX7_groupOf 88 = .ok (.iload_n 1, 1) := by decide +kernel
theorem dX7_groupOf_89 : decode cX7_groupOf 89 = .ok (.if_icmp .ne 25, 3) := by decide +kernel
theorem dX7_groupOf_92 : decode cX7_groupOf 92 = .ok (.iload_n 2, 1) := by decide +kernel
theorem dX7_groupOf_93 : decode cX7_groupOf 93 = .ok (.bipush 7, 2) := by decide +kernel
theorem dX7_groupOf_95 : decode cX7_groupOf 95 = .ok (.if_icmp .ne 7, 3) := by decide +kernel
theorem dX7_groupOf_98 : decode cX7_groupOf 98 = .ok (.iload_n 3, 1) := by decide +kernel
theorem dX7_groupOf_99 : decode cX7_groupOf 99 = .ok (.goto 14, 3) := by decide +kernel
theorem dX7_groupOf_102 : decode cX7_groupOf 102 = .ok (.aload_n 0, 1) := by decide +kernel
theorem dX7_groupOf_103 : decode cX7_groupOf 103 = .ok (.getfield 28, 3) := by decide +kernel
theorem dX7_groupOf_106 : decode cX7_groupOf 106 = .ok (.bipush 7, 2) := by decide +kernel
theorem dX7_groupOf_108 : decode cX7_groupOf 108 = .ok (.iload_n 3, 1) := by decide +kernel
theorem dX7_groupOf_109 : decode cX7_groupOf 109 = .ok (.imul, 1) := by decide +kernel
theorem dX7_groupOf_110 : decode cX7_groupOf 110 = .ok (.iload_n 2, 1) := by decide +kernel
theorem dX7_groupOf_111 : decode cX7_groupOf 111 = .ok (.iadd, 1) := by decide +kernel
theorem dX7_groupOf_112 : decode cX7_groupOf 112 = .ok (.iaload, 1) := by decide +kernel
theorem dX7_groupOf_113 : decode cX7_groupOf 113 = .ok (.ireturn, 1) := by decide +kernel
theorem dX7_groupOf_114 : decode cX7_groupOf 114 = .ok (.iinc 3 1, 3) := by decide +kernel
theorem dX7_groupOf_117 : decode cX7_groupOf 117 = .ok (.goto (-92), 3) := by decide +kernel
theorem dX7_groupOf_120 : decode cX7_groupOf 120 = .ok (.ldc 88, 2) := by decide +kernel
theorem dX7_groupOf_122 : decode cX7_groupOf 122 = .ok (.ireturn, 1) := by decide +kernel
theorem dX7_finished_0 : decode cX7_finished 0 = .ok (.iload_n 1, 1) := by decide +kernel
theorem dX7_finished_1 : decode cX7_finished 1 = .ok (.ifCond .ge 6, 3) := by decide +kernel
theorem dX7_finished_4 : decode cX7_finished 4 = .ok (.ldc 65, 2) := by decide +kernel
theorem dX7_finished_6 : decode cX7_finished 6 = .ok (.ireturn, 1) := by decide +kernel
theorem dX7_finished_7 : decode cX7_finished 7 = .ok (.aload_n 0, 1) := by decide +kernel
theorem dX7_finished_8 : decode cX7_finished 8 = .ok (.invokevirtual 174, 3) := by decide +kernel
theorem dX7_finished_11 : decode cX7_finished 11 = .ok (.iload_n 1, 1) := by decide +kernel
theorem dX7_finished_12 : decode cX7_finished 12 = .ok (.aload_n 0, 1) := by decide +kernel
theorem dX7_finished_13 : decode cX7_finished 13 = .ok (.getfield 149, 3) := by decide +kernel
theorem dX7_finished_16 : decode cX7_finished 16 = .ok (.if_icmp .ge 15, 3) := by decide +kernel
theorem dX7_finished_19 : decode cX7_finished 19 = .ok (.aload_n 0, 1) := by decide +kernel
theorem dX7_finished_20 : decode cX7_finished 20 = .ok (.getfield 28, 3) := by decide +kernel
theorem dX7_finished_23 : decode cX7_finished 23 = .ok (.bipush 7, 2) := by decide +kernel
theorem dX7_finished_25 : decode cX7_finished 25 = .ok (.iload_n 1, 1) := by decide +kernel
theorem dX7_finished_26 : decode cX7_finished 26 = .ok (.imul, 1) := by decide +kernel
theorem dX7_finished_27 : decode cX7_finished 27 = .ok (.iaload, 1) := by decide +kernel
theorem dX7_finished_28 : decode cX7_finished 28 = .ok (.goto 5, 3) := by decide +kernel
theorem dX7_finished_31 : decode cX7_finished 31 = .ok (.ldc 88, 2) := by decide +kernel
theorem dX7_finished_33 : decode cX7_finished 33 = .ok (.ireturn, 1) := by decide +kernel
theorem dX7_passOf_0 : decode cX7_passOf 0 = .ok (.iload_n 1, 1) := by decide +kernel
theorem dX7_passOf_1 : decode cX7_passOf 1 = .ok (.i2l, 1) := by decide +kernel
theorem dX7_passOf_2 : decode cX7_passOf 2 = .ok (.lconst 0, 1) := by decide +kernel
theorem dX7_passOf_3 : decode cX7_passOf 3 = .ok (.ldc2_w 177, 3) := by decide +kernel
theorem dX7_passOf_6 : decode cX7_passOf 6 = .ok (.invokestatic 53, 3) := by decide +kernel
theorem dX7_passOf_9 : decode cX7_passOf 9 = .ok (.ifCond .eq 27, 3) := by decide +kernel
theorem dX7_passOf_12 : decode cX7_passOf 12 = .ok (.iload_n 2, 1) := by decide +kernel
theorem dX7_passOf_13 : decode cX7_passOf 13 = .ok (.i2l, 1) := by decide +kernel
theorem dX7_passOf_14 : decode cX7_passOf 14 = .ok (.lconst 0, 1) := by decide +kernel
theorem dX7_passOf_15 : decode cX7_passOf 15 = .ok (.ldc2_w 79, 3) := by decide +kernel
theorem dX7_passOf_18 : decode cX7_passOf 18 = .ok (.invokestatic 53, 3) := by decide +kernel
theorem dX7_passOf_21 : decode cX7_passOf 21 = .ok (.ifCond .eq 15, 3) := by decide +kernel
theorem dX7_passOf_24 : decode cX7_passOf 24 = .ok (.iload_n 3, 1) := by decide +kernel
theorem dX7_passOf_25 : decode cX7_passOf 25 = .ok (.i2l, 1) := by decide +kernel
theorem dX7_passOf_26 : decode cX7_passOf 26 = .ok (.lconst 0, 1) := by decide +kernel
theorem dX7_passOf_27 : decode cX7_passOf 27 = .ok (.ldc2_w 179, 3) := by decide +kernel
theorem dX7_passOf_30 : decode cX7_passOf 30 = .ok (.invokestatic 53, 3) := by decide +kernel
theorem dX7_passOf_33 : decode cX7_passOf 33 = .ok (.ifCond .ne 6, 3) := by decide +kernel
theorem dX7_passOf_36 : decode cX7_passOf 36 = .ok (.ldc 65, 2) := by decide +kernel
theorem dX7_passOf_38 : decode cX7_passOf 38 = .ok (.ireturn, 1) := by decide +kernel
theorem dX7_passOf_39 : decode cX7_passOf 39 = .ok (.aload_n 0, 1) := by decide +kernel
theorem dX7_passOf_40 : decode cX7_passOf 40 = .ok (.invokevirtual 174, 3) := by decide +kernel
theorem dX7_passOf_43 : decode cX7_passOf 43 = .ok (.iconst 0, 1) := by decide +kernel
theorem dX7_passOf_44 : decode cX7_passOf 44 = .ok (.istore 4, 2) := by decide +kernel
theorem dX7_passOf_46 : decode cX7_passOf 46 = .ok (.iload 4, 2) := by decide +kernel
theorem dX7_passOf_48 : decode cX7_passOf 48 = .ok (.aload_n 0, 1) := by decide +kernel
theorem dX7_passOf_49 : decode cX7_passOf 49 = .ok (.getfield 103, 3) := by decide +kernel
theorem dX7_passOf_52 : decode cX7_passOf 52 = .ok (.if_icmp .ge 64, 3) := by decide +kernel
theorem dX7_passOf_55 : decode cX7_passOf 55 = .ok (.aload_n 0, 1) := by decide +kernel
theorem dX7_passOf_56 : decode cX7_passOf 56 = .ok (.getfield 22, 3) := by decide +kernel
theorem dX7_passOf_59 : decode cX7_passOf 59 = .ok (.bipush 7, 2) := by decide +kernel
theorem dX7_passOf_61 : decode cX7_passOf 61 = .ok (.iload 4, 2) := by decide +kernel
theorem dX7_passOf_63 : decode cX7_passOf 63 = .ok (.imul, 1) := by decide +kernel
theorem dX7_passOf_64 : decode cX7_passOf 64 = .ok (.iaload, 1) := by decide +kernel
theorem dX7_passOf_65 : decode cX7_passOf 65 = .ok (.iload_n 1, 1) := by decide +kernel
theorem dX7_passOf_66 : decode cX7_passOf 66 = .ok (.if_icmp .ne 44, 3) := by decide +kernel
theorem dX7_passOf_69 : decode cX7_passOf 69 = .ok (.aload_n 0, 1) := by decide +kernel
theorem dX7_passOf_70 : decode cX7_passOf 70 = .ok (.getfield 22, 3) := by decide +kernel
theorem dX7_passOf_73 : decode cX7_passOf 73 = .ok (.bipush 7, 2) := by decide +kernel
theorem dX7_passOf_75 : decode cX7_passOf 75 = .ok (.iload 4, 2) := by decide +kernel
theorem dX7_passOf_77 : decode cX7_passOf 77 = .ok (.imul, 1) := by decide +kernel
theorem dX7_passOf_78 : decode cX7_passOf 78 = .ok (.iconst 1, 1) := by decide +kernel
theorem dX7_passOf_79 : decode cX7_passOf 79 = .ok (.iadd, 1) := by decide +kernel
theorem dX7_passOf_80 : decode cX7_passOf 80 = .ok (.iaload, 1) := by decide +kernel
theorem dX7_passOf_81 : decode cX7_passOf 81 = .ok (.iload_n 2, 1) := by decide +kernel
theorem dX7_passOf_82 : decode cX7_passOf 82 = .ok (.if_icmp .ne 28, 3) := by decide +kernel
theorem dX7_passOf_85 : decode cX7_passOf 85 = .ok (.iload_n 3, 1) := by decide +kernel
theorem dX7_passOf_86 : decode cX7_passOf 86 = .ok (.iconst 5, 1) := by decide +kernel
theorem dX7_passOf_87 : decode cX7_passOf 87 = .ok (.if_icmp .ne 8, 3) := by decide +kernel
theorem dX7_passOf_90 : decode cX7_passOf 90 = .ok (.iload 4, 2) := by decide +kernel
theorem dX7_passOf_92 : decode cX7_passOf 92 = .ok (.goto 17, 3) := by decide +kernel
theorem dX7_passOf_95 : decode cX7_passOf 95 = .ok (.aload_n 0, 1) := by decide +kernel
theorem dX7_passOf_96 : decode cX7_passOf 96 = .ok (.getfield 22, 3) := by decide +kernel
theorem dX7_passOf_99 : decode cX7_passOf 99 = .ok (.bipush 7, 2) := by decide +kernel
theorem dX7_passOf_101 : decode cX7_passOf 101 = .ok (.iload 4, 2) := by decide +kernel
theorem dX7_passOf_103 : decode cX7_passOf 103 = .ok (.imul, 1) := by decide +kernel
theorem dX7_passOf_104 : decode cX7_passOf 104 = .ok (.iconst 2, 1) := by decide +kernel
theorem dX7_passOf_105 : decode cX7_passOf 105 = .ok (.iadd, 1) := by decide +kernel
theorem dX7_passOf_106 : decode cX7_passOf 106 = .ok (.iload_n 3, 1) := by decide +kernel
theorem dX7_passOf_107 : decode cX7_passOf 107 = .ok (.iadd, 1) := by decide +kernel
theorem dX7_passOf_108 : decode cX7_passOf 108 = .ok (.iaload, 1) := by decide +kernel
theorem dX7_passOf_109 : decode cX7_passOf 109 = .ok (.ireturn, 1) := by decide +kernel
theorem dX7_passOf_110 : decode cX7_passOf 110 = .ok (.iinc 4 1, 3) := by decide +kernel
theorem dX7_passOf_113 : decode cX7_passOf 113 = .ok (.goto (-67), 3) := by decide +kernel
theorem dX7_passOf_116 : decode cX7_passOf 116 = .ok (.ldc 88, 2) := by decide +kernel
theorem dX7_passOf_118 : decode cX7_passOf 118 = .ok (.ireturn, 1) := by decide +kernel
theorem dX7_spillOf_0 : decode cX7_spillOf 0 = .ok (.iload_n 1, 1) := by decide +kernel
theorem dX7_spillOf_1 : decode cX7_spillOf 1 = .ok (.ifCond .lt 15, 3) := by decide +kernel
theorem dX7_spillOf_4 : decode cX7_spillOf 4 = .ok (.iload_n 2, 1) := by decide +kernel
theorem dX7_spillOf_5 : decode cX7_spillOf 5 = .ok (.i2l, 1) := by decide +kernel
theorem dX7_spillOf_6 : decode cX7_spillOf 6 = .ok (.lconst 0, 1) := by decide +kernel
theorem dX7_spillOf_7 : decode cX7_spillOf 7 = .ok (.ldc2_w 77, 3) := by decide +kernel
theorem dX7_spillOf_10 : decode cX7_spillOf 10 = .ok (.invokestatic 53, 3) := by decide +kernel
theorem dX7_spillOf_13 : decode cX7_spillOf 13 = .ok (.ifCond .ne 6, 3) := by decide +kernel
theorem dX7_spillOf_16 : decode cX7_spillOf 16 = .ok (.ldc 65, 2) := by decide +kernel
theorem dX7_spillOf_18 : decode cX7_spillOf 18 = .ok (.ireturn, 1) := by decide +kernel
theorem dX7_spillOf_19 : decode cX7_spillOf 19 = .ok (.aload_n 0, 1) := by decide +kernel
theorem dX7_spillOf_20 : decode cX7_spillOf 20 = .ok (.invokevirtual 174, 3) := by decide +kernel
theorem dX7_spillOf_23 : decode cX7_spillOf 23 = .ok (.iload_n 1, 1) := by decide +kernel
theorem dX7_spillOf_24 : decode cX7_spillOf 24 = .ok (.aload_n 0, 1) := by decide +kernel
theorem dX7_spillOf_25 : decode cX7_spillOf 25 = .ok (.getfield 128, 3) := by decide +kernel
theorem dX7_spillOf_28 : decode cX7_spillOf 28 = .ok (.if_icmp .ge 16, 3) := by decide +kernel
theorem dX7_spillOf_31 : decode cX7_spillOf 31 = .ok (.aload_n 0, 1) := by decide +kernel
theorem dX7_spillOf_32 : decode cX7_spillOf 32 = .ok (.getfield 25, 3) := by decide +kernel
theorem dX7_spillOf_35 : decode cX7_spillOf 35 = .ok (.iconst 5, 1) := by decide +kernel
theorem dX7_spillOf_36 : decode cX7_spillOf 36 = .ok (.iload_n 1, 1) := by decide +kernel
theorem dX7_spillOf_37 : decode cX7_spillOf 37 = .ok (.imul, 1) := by decide +kernel
theorem dX7_spillOf_38 : decode cX7_spillOf 38 = .ok (.iload_n 2, 1) := by decide +kernel
theorem dX7_spillOf_39 : decode cX7_spillOf 39 = .ok (.iadd, 1) := by decide +kernel
theorem dX7_spillOf_40 : decode cX7_spillOf 40 = .ok (.iaload, 1) := by decide +kernel
theorem dX7_spillOf_41 : decode cX7_spillOf 41 = .ok (.goto 5, 3) := by decide +kernel
theorem dX7_spillOf_44 : decode cX7_spillOf 44 = .ok (.ldc 88, 2) := by decide +kernel
theorem dX7_spillOf_46 : decode cX7_spillOf 46 = .ok (.ireturn, 1) := by decide +kernel
theorem dX7_writtenInAll_0 : decode cX7_writtenInAll 0 = .ok (.iconst 0, 1) := by decide +kernel
theorem dX7_writtenInAll_1 : decode cX7_writtenInAll 1 = .ok (.istore_n 1, 1) := by decide +kernel
theorem dX7_writtenInAll_2 : decode cX7_writtenInAll 2 = .ok (.iconst 0, 1) := by decide +kernel
theorem dX7_writtenInAll_3 : decode cX7_writtenInAll 3 = .ok (.istore_n 2, 1) := by decide +kernel
theorem dX7_writtenInAll_4 : decode cX7_writtenInAll 4 = .ok (.iload_n 2, 1) := by decide +kernel
theorem dX7_writtenInAll_5 : decode cX7_writtenInAll 5 = .ok (.aload_n 0, 1) := by decide +kernel
theorem dX7_writtenInAll_6 : decode cX7_writtenInAll 6 = .ok (.getfield 103, 3) := by decide +kernel
theorem dX7_writtenInAll_9 : decode cX7_writtenInAll 9 = .ok (.if_icmp .ge 23, 3) := by decide +kernel
theorem dX7_writtenInAll_12 : decode cX7_writtenInAll 12 = .ok (.iload_n 1, 1) := by decide +kernel
theorem dX7_writtenInAll_13 : decode cX7_writtenInAll 13 = .ok (.aload_n 0, 1) := by decide +kernel
theorem dX7_writtenInAll_14 : decode cX7_writtenInAll 14 = .ok (.getfield 22, 3) := by decide +kernel
theorem dX7_writtenInAll_17 : decode cX7_writtenInAll 17 = .ok (.bipush 7, 2) := by decide +kernel
theorem dX7_writtenInAll_19 : decode cX7_writtenInAll 19 = .ok (.iload_n 2, 1) := by decide +kernel
theorem dX7_writtenInAll_20 : decode cX7_writtenInAll 20 = .ok (.imul, 1) := by decide +kernel
theorem dX7_writtenInAll_21 : decode cX7_writtenInAll 21 = .ok (.iconst 5, 1) := by decide +kernel
theorem dX7_writtenInAll_22 : decode cX7_writtenInAll 22 = .ok (.iadd, 1) := by decide +kernel
theorem dX7_writtenInAll_23 : decode cX7_writtenInAll 23 = .ok (.iaload, 1) := by decide +kernel
theorem dX7_writtenInAll_24 : decode cX7_writtenInAll 24 = .ok (.iadd, 1) := by decide +kernel
theorem dX7_writtenInAll_25 : decode cX7_writtenInAll 25 = .ok (.istore_n 1, 1) := by decide +kernel
theorem dX7_writtenInAll_26 : decode cX7_writtenInAll 26 = .ok (.iinc 2 1, 3) := by decide +kernel
theorem dX7_writtenInAll_29 : decode cX7_writtenInAll 29 = .ok (.goto (-25), 3) := by decide +kernel
theorem dX7_writtenInAll_32 : decode cX7_writtenInAll 32 = .ok (.iload_n 1, 1) := by decide +kernel
theorem dX7_writtenInAll_33 : decode cX7_writtenInAll 33 = .ok (.ireturn, 1) := by decide +kernel
theorem dX7_readAgain_0 : decode cX7_readAgain 0 = .ok (.iconst 0, 1) := by decide +kernel
theorem dX7_readAgain_1 : decode cX7_readAgain 1 = .ok (.istore_n 1, 1) := by decide +kernel
theorem dX7_readAgain_2 : decode cX7_readAgain 2 = .ok (.iconst 1, 1) := by decide +kernel
theorem dX7_readAgain_3 : decode cX7_readAgain 3 = .ok (.istore_n 2, 1) := by decide +kernel
theorem dX7_readAgain_4 : decode cX7_readAgain 4 = .ok (.iload_n 2, 1) := by decide +kernel
theorem dX7_readAgain_5 : decode cX7_readAgain 5 = .ok (.aload_n 0, 1) := by decide +kernel
theorem dX7_readAgain_6 : decode cX7_readAgain 6 = .ok (.getfield 103, 3) := by decide +kernel
theorem dX7_readAgain_9 : decode cX7_readAgain 9 = .ok (.if_icmp .ge 23, 3) := by decide +kernel
theorem dX7_readAgain_12 : decode cX7_readAgain 12 = .ok (.iload_n 1, 1) := by decide +kernel
theorem dX7_readAgain_13 : decode cX7_readAgain 13 = .ok (.aload_n 0, 1) := by decide +kernel
theorem dX7_readAgain_14 : decode cX7_readAgain 14 = .ok (.getfield 22, 3) := by decide +kernel
theorem dX7_readAgain_17 : decode cX7_readAgain 17 = .ok (.bipush 7, 2) := by decide +kernel
theorem dX7_readAgain_19 : decode cX7_readAgain 19 = .ok (.iload_n 2, 1) := by decide +kernel
theorem dX7_readAgain_20 : decode cX7_readAgain 20 = .ok (.imul, 1) := by decide +kernel
theorem dX7_readAgain_21 : decode cX7_readAgain 21 = .ok (.iconst 2, 1) := by decide +kernel
theorem dX7_readAgain_22 : decode cX7_readAgain 22 = .ok (.iadd, 1) := by decide +kernel
theorem dX7_readAgain_23 : decode cX7_readAgain 23 = .ok (.iaload, 1) := by decide +kernel
theorem dX7_readAgain_24 : decode cX7_readAgain 24 = .ok (.iadd, 1) := by decide +kernel
theorem dX7_readAgain_25 : decode cX7_readAgain 25 = .ok (.istore_n 1, 1) := by decide +kernel
theorem dX7_readAgain_26 : decode cX7_readAgain 26 = .ok (.iinc 2 1, 3) := by decide +kernel
theorem dX7_readAgain_29 : decode cX7_readAgain 29 = .ok (.goto (-25), 3) := by decide +kernel
theorem dX7_readAgain_32 : decode cX7_readAgain 32 = .ok (.iload_n 1, 1) := by decide +kernel
theorem dX7_readAgain_33 : decode cX7_readAgain 33 = .ok (.ireturn, 1) := by decide +kernel
theorem dX7_greatest_0 : decode cX7_greatest 0 = .ok (.iconst 0, 1) := by decide +kernel
theorem dX7_greatest_1 : decode cX7_greatest 1 = .ok (.istore_n 2, 1) := by decide +kernel
theorem dX7_greatest_2 : decode cX7_greatest 2 = .ok (.iconst 0, 1) := by decide +kernel
theorem dX7_greatest_3 : decode cX7_greatest 3 = .ok (.istore_n 3, 1) := by decide +kernel
theorem dX7_greatest_4 : decode cX7_greatest 4 = .ok (.iload_n 3, 1) := by decide +kernel
theorem dX7_greatest_5 : decode cX7_greatest 5 = .ok (.aload_n 0, 1) := by decide +kernel
theorem dX7_greatest_6 : decode cX7_greatest 6 = .ok (.getfield 103, 3) := by decide +kernel
theorem dX7_greatest_9 : decode cX7_greatest 9 = .ok (.if_icmp .ge 40, 3) := by decide +kernel
theorem dX7_greatest_12 : decode cX7_greatest 12 = .ok (.aload_n 0, 1) := by decide +kernel
theorem dX7_greatest_13 : decode cX7_greatest 13 = .ok (.getfield 22, 3) := by decide +kernel
theorem dX7_greatest_16 : decode cX7_greatest 16 = .ok (.bipush 7, 2) := by decide +kernel
theorem dX7_greatest_18 : decode cX7_greatest 18 = .ok (.iload_n 3, 1) := by decide +kernel
theorem dX7_greatest_19 : decode cX7_greatest 19 = .ok (.imul, 1) := by decide +kernel
theorem dX7_greatest_20 : decode cX7_greatest 20 = .ok (.iload_n 1, 1) := by decide +kernel
theorem dX7_greatest_21 : decode cX7_greatest 21 = .ok (.iadd, 1) := by decide +kernel
theorem dX7_greatest_22 : decode cX7_greatest 22 = .ok (.iaload, 1) := by decide +kernel
theorem dX7_greatest_23 : decode cX7_greatest 23 = .ok (.iload_n 2, 1) := by decide +kernel
theorem dX7_greatest_24 : decode cX7_greatest 24 = .ok (.if_icmp .le 17, 3) := by decide +kernel
theorem dX7_greatest_27 : decode cX7_greatest 27 = .ok (.aload_n 0, 1) := by decide +kernel
theorem dX7_greatest_28 : decode cX7_greatest 28 = .ok (.getfield 22, 3) := by decide +kernel
theorem dX7_greatest_31 : decode cX7_greatest 31 = .ok (.bipush 7, 2) := by decide +kernel
theorem dX7_greatest_33 : decode cX7_greatest 33 = .ok (.iload_n 3, 1) := by decide +kernel
theorem dX7_greatest_34 : decode cX7_greatest 34 = .ok (.imul, 1) := by decide +kernel
theorem dX7_greatest_35 : decode cX7_greatest 35 = .ok (.iload_n 1, 1) := by decide +kernel
theorem dX7_greatest_36 : decode cX7_greatest 36 = .ok (.iadd, 1) := by decide +kernel
theorem dX7_greatest_37 : decode cX7_greatest 37 = .ok (.iaload, 1) := by decide +kernel
theorem dX7_greatest_38 : decode cX7_greatest 38 = .ok (.goto 4, 3) := by decide +kernel
theorem dX7_greatest_41 : decode cX7_greatest 41 = .ok (.iload_n 2, 1) := by decide +kernel
theorem dX7_greatest_42 : decode cX7_greatest 42 = .ok (.istore_n 2, 1) := by decide +kernel
theorem dX7_greatest_43 : decode cX7_greatest 43 = .ok (.iinc 3 1, 3) := by decide +kernel
theorem dX7_greatest_46 : decode cX7_greatest 46 = .ok (.goto (-42), 3) := by decide +kernel
theorem dX7_greatest_49 : decode cX7_greatest 49 = .ok (.iload_n 2, 1) := by decide +kernel
theorem dX7_greatest_50 : decode cX7_greatest 50 = .ok (.ireturn, 1) := by decide +kernel
theorem dX7_total_0 : decode cX7_total 0 = .ok (.aload_n 0, 1) := by decide +kernel
theorem dX7_total_1 : decode cX7_total 1 = .ok (.invokevirtual 174, 3) := by decide +kernel
theorem dX7_total_4 : decode cX7_total 4 = .ok (.iload_n 1, 1) := by decide +kernel
theorem dX7_total_5 : decode cX7_total 5 = .ok (.tableswitch 90 0 7 #[47, 52, 57, 62, 67, 72, 78, 85], 47) := by decide +kernel
theorem dX7_total_52 : decode cX7_total 52 = .ok (.aload_n 0, 1) := by decide +kernel
theorem dX7_total_53 : decode cX7_total 53 = .ok (.getfield 149, 3) := by decide +kernel
theorem dX7_total_56 : decode cX7_total 56 = .ok (.ireturn, 1) := by decide +kernel
theorem dX7_total_57 : decode cX7_total 57 = .ok (.aload_n 0, 1) := by decide +kernel
theorem dX7_total_58 : decode cX7_total 58 = .ok (.getfield 103, 3) := by decide +kernel
theorem dX7_total_61 : decode cX7_total 61 = .ok (.ireturn, 1) := by decide +kernel
theorem dX7_total_62 : decode cX7_total 62 = .ok (.aload_n 0, 1) := by decide +kernel
theorem dX7_total_63 : decode cX7_total 63 = .ok (.getfield 128, 3) := by decide +kernel
theorem dX7_total_66 : decode cX7_total 66 = .ok (.ireturn, 1) := by decide +kernel
theorem dX7_total_67 : decode cX7_total 67 = .ok (.aload_n 0, 1) := by decide +kernel
theorem dX7_total_68 : decode cX7_total 68 = .ok (.invokevirtual 181, 3) := by decide +kernel
theorem dX7_total_71 : decode cX7_total 71 = .ok (.ireturn, 1) := by decide +kernel
theorem dX7_total_72 : decode cX7_total 72 = .ok (.aload_n 0, 1) := by decide +kernel
theorem dX7_total_73 : decode cX7_total 73 = .ok (.invokevirtual 185, 3) := by decide +kernel
theorem dX7_total_76 : decode cX7_total 76 = .ok (.ireturn, 1) := by decide +kernel
theorem dX7_total_77 : decode cX7_total 77 = .ok (.aload_n 0, 1) := by decide +kernel
theorem dX7_total_78 : decode cX7_total 78 = .ok (.iconst 0, 1) := by decide +kernel
theorem dX7_total_79 : decode cX7_total 79 = .ok (.invokevirtual 188, 3) := by decide +kernel
theorem dX7_total_82 : decode cX7_total 82 = .ok (.ireturn, 1) := by decide +kernel
theorem dX7_total_83 : decode cX7_total 83 = .ok (.aload_n 0, 1) := by decide +kernel
theorem dX7_total_84 : decode cX7_total 84 = .ok (.bipush 6, 2) := by decide +kernel
theorem dX7_total_86 : decode cX7_total 86 = .ok (.invokevirtual 188, 3) := by decide +kernel
theorem dX7_total_89 : decode cX7_total 89 = .ok (.ireturn, 1) := by decide +kernel
theorem dX7_total_90 : decode cX7_total 90 = .ok (.aload_n 0, 1) := by decide +kernel
theorem dX7_total_91 : decode cX7_total 91 = .ok (.getfield 143, 3) := by decide +kernel
theorem dX7_total_94 : decode cX7_total 94 = .ok (.ireturn, 1) := by decide +kernel
theorem dX7_total_95 : decode cX7_total 95 = .ok (.ldc 65, 2) := by decide +kernel
theorem dX7_total_97 : decode cX7_total 97 = .ok (.ireturn, 1) := by decide +kernel
theorem dX7_writtenBy_0 : decode cX7_writtenBy 0 = .ok (.aload_n 0, 1) := by decide +kernel
theorem dX7_writtenBy_1 : decode cX7_writtenBy 1 = .ok (.iload_n 1, 1) := by decide +kernel
theorem dX7_writtenBy_2 : decode cX7_writtenBy 2 = .ok (.iload_n 2, 1) := by decide +kernel
theorem dX7_writtenBy_3 : decode cX7_writtenBy 3 = .ok (.invokevirtual 169, 3) := by decide +kernel
theorem dX7_writtenBy_6 : decode cX7_writtenBy 6 = .ok (.aload_n 0, 1) := by decide +kernel
theorem dX7_writtenBy_7 : decode cX7_writtenBy 7 = .ok (.invokevirtual 181, 3) := by decide +kernel
theorem dX7_writtenBy_10 : decode cX7_writtenBy 10 = .ok (.ireturn, 1) := by decide +kernel
theorem dX7_written_0 : decode cX7_written 0 = .ok (.iload_n 1, 1) := by decide +kernel
theorem dX7_written_1 : decode cX7_written 1 = .ok (.i2l, 1) := by decide +kernel
theorem dX7_written_2 : decode cX7_written 2 = .ok (.lconst 1, 1) := by decide +kernel
theorem dX7_written_3 : decode cX7_written 3 = .ok (.ldc2_w 75, 3) := by decide +kernel
theorem dX7_written_6 : decode cX7_written 6 = .ok (.invokestatic 53, 3) := by decide +kernel
theorem dX7_written_9 : decode cX7_written 9 = .ok (.ifCond .eq 24, 3) := by decide +kernel
theorem dX7_written_12 : decode cX7_written 12 = .ok (.iload_n 2, 1) := by decide +kernel
theorem dX7_written_13 : decode cX7_written 13 = .ok (.i2l, 1) := by decide +kernel
theorem dX7_written_14 : decode cX7_written 14 = .ok (.lconst 1, 1) := by decide +kernel
theorem dX7_written_15 : decode cX7_written 15 = .ok (.ldc2_w 77, 3) := by decide +kernel
theorem dX7_written_18 : decode cX7_written 18 = .ok (.invokestatic 53, 3) := by decide +kernel
theorem dX7_written_21 : decode cX7_written 21 = .ok (.ifCond .eq 12, 3) := by decide +kernel
theorem dX7_written_24 : decode cX7_written 24 = .ok (.aload_n 0, 1) := by decide +kernel
theorem dX7_written_25 : decode cX7_written 25 = .ok (.iload_n 1, 1) := by decide +kernel
theorem dX7_written_26 : decode cX7_written 26 = .ok (.iload_n 2, 1) := by decide +kernel
theorem dX7_written_27 : decode cX7_written 27 = .ok (.invokevirtual 191, 3) := by decide +kernel
theorem dX7_written_30 : decode cX7_written 30 = .ok (.goto 5, 3) := by decide +kernel
theorem dX7_written_33 : decode cX7_written 33 = .ok (.ldc 65, 2) := by decide +kernel
theorem dX7_written_35 : decode cX7_written 35 = .ok (.ireturn, 1) := by decide +kernel
theorem dX7_bestBits_0 : decode cX7_bestBits 0 = .ok (.iload_n 1, 1) := by decide +kernel
theorem dX7_bestBits_1 : decode cX7_bestBits 1 = .ok (.i2l, 1) := by decide +kernel
theorem dX7_bestBits_2 : decode cX7_bestBits 2 = .ok (.lconst 1, 1) := by decide +kernel
theorem dX7_bestBits_3 : decode cX7_bestBits 3 = .ok (.ldc2_w 75, 3) := by decide +kernel
theorem dX7_bestBits_6 : decode cX7_bestBits 6 = .ok (.invokestatic 53, 3) := by decide +kernel
theorem dX7_bestBits_9 : decode cX7_bestBits 9 = .ok (.ifCond .eq 13, 3) := by decide +kernel
theorem dX7_bestBits_12 : decode cX7_bestBits 12 = .ok (.iload_n 2, 1) := by decide +kernel
theorem dX7_bestBits_13 : decode cX7_bestBits 13 = .ok (.i2l, 1) := by decide +kernel
theorem dX7_bestBits_14 : decode cX7_bestBits 14 = .ok (.lconst 0, 1) := by decide +kernel
theorem dX7_bestBits_15 : decode cX7_bestBits 15 = .ok (.lconst 1, 1) := by decide +kernel
theorem dX7_bestBits_16 : decode cX7_bestBits 16 = .ok (.invokestatic 53, 3) := by decide +kernel
theorem dX7_bestBits_19 : decode cX7_bestBits 19 = .ok (.ifCond .ne 6, 3) := by decide +kernel
theorem dX7_bestBits_22 : decode cX7_bestBits 22 = .ok (.ldc 65, 2) := by decide +kernel
theorem dX7_bestBits_24 : decode cX7_bestBits 24 = .ok (.ireturn, 1) := by decide +kernel
theorem dX7_bestBits_25 : decode cX7_bestBits 25 = .ok (.iconst 1, 1) := by decide +kernel
theorem dX7_bestBits_26 : decode cX7_bestBits 26 = .ok (.istore_n 3, 1) := by decide +kernel
theorem dX7_bestBits_27 : decode cX7_bestBits 27 = .ok (.aload_n 0, 1) := by decide +kernel
theorem dX7_bestBits_28 : decode cX7_bestBits 28 = .ok (.iload_n 1, 1) := by decide +kernel
theorem dX7_bestBits_29 : decode cX7_bestBits 29 = .ok (.iconst 1, 1) := by decide +kernel
theorem dX7_bestBits_30 : decode cX7_bestBits 30 = .ok (.invokevirtual 191, 3) := by decide +kernel
theorem dX7_bestBits_33 : decode cX7_bestBits 33 = .ok (.istore 4, 2) := by decide +kernel
theorem dX7_bestBits_35 : decode cX7_bestBits 35 = .ok (.iconst 2, 1) := by decide +kernel
theorem dX7_bestBits_36 : decode cX7_bestBits 36 = .ok (.istore 5, 2) := by decide +kernel
theorem dX7_bestBits_38 : decode cX7_bestBits 38 = .ok (.iload 5, 2) := by decide +kernel
theorem dX7_bestBits_40 : decode cX7_bestBits 40 = .ok (.iconst 4, 1) := by decide +kernel
theorem dX7_bestBits_41 : decode cX7_bestBits 41 = .ok (.if_icmp .gt 48, 3) := by decide +kernel
theorem dX7_bestBits_44 : decode cX7_bestBits 44 = .ok (.aload_n 0, 1) := by decide +kernel
theorem dX7_bestBits_45 : decode cX7_bestBits 45 = .ok (.iload_n 1, 1) := by decide +kernel
theorem dX7_bestBits_46 : decode cX7_bestBits 46 = .ok (.iload 5, 2) := by decide +kernel
theorem dX7_bestBits_48 : decode cX7_bestBits 48 = .ok (.invokevirtual 191, 3) := by decide +kernel
theorem dX7_bestBits_51 : decode cX7_bestBits 51 = .ok (.istore 6, 2) := by decide +kernel
theorem dX7_bestBits_53 : decode cX7_bestBits 53 = .ok (.iload 6, 2) := by decide +kernel
theorem dX7_bestBits_55 : decode cX7_bestBits 55 = .ok (.iload 4, 2) := by decide +kernel
theorem dX7_bestBits_57 : decode cX7_bestBits 57 = .ok (.if_icmp .ge 8, 3) := by decide +kernel
theorem dX7_bestBits_60 : decode cX7_bestBits 60 = .ok (.iload 5, 2) := by decide +kernel
theorem dX7_bestBits_62 : decode cX7_bestBits 62 = .ok (.goto 4, 3) := by decide +kernel
theorem dX7_bestBits_65 : decode cX7_bestBits 65 = .ok (.iload_n 3, 1) := by decide +kernel
theorem dX7_bestBits_66 : decode cX7_bestBits 66 = .ok (.istore_n 3, 1) := by decide +kernel
theorem dX7_bestBits_67 : decode cX7_bestBits 67 = .ok (.iload 6, 2) := by decide +kernel
theorem dX7_bestBits_69 : decode cX7_bestBits 69 = .ok (.iload 4, 2) := by decide +kernel
theorem dX7_bestBits_71 : decode cX7_bestBits 71 = .ok (.if_icmp .ge 8, 3) := by decide +kernel
theorem dX7_bestBits_74 : decode cX7_bestBits 74 = .ok (.iload 6, 2) := by decide +kernel
theorem dX7_bestBits_76 : decode cX7_bestBits 76 = .ok (.goto 5, 3) := by decide +kernel
theorem dX7_bestBits_79 : decode cX7_bestBits 79 = .ok (.iload 4, 2) := by decide +kernel
theorem dX7_bestBits_81 : decode cX7_bestBits 81 = .ok (.istore 4, 2) := by decide +kernel
theorem dX7_bestBits_83 : decode cX7_bestBits 83 = .ok (.iinc 5 1, 3) := by decide +kernel
theorem dX7_bestBits_86 : decode cX7_bestBits 86 = .ok (.goto (-48), 3) := by decide +kernel
theorem dX7_bestBits_89 : decode cX7_bestBits 89 = .ok (.iload_n 2, 1) := by decide +kernel
theorem dX7_bestBits_90 : decode cX7_bestBits 90 = .ok (.ifCond .ne 7, 3) := by decide +kernel
theorem dX7_bestBits_93 : decode cX7_bestBits 93 = .ok (.iload_n 3, 1) := by decide +kernel
theorem dX7_bestBits_94 : decode cX7_bestBits 94 = .ok (.goto 5, 3) := by decide +kernel
theorem dX7_bestBits_97 : decode cX7_bestBits 97 = .ok (.iload 4, 2) := by decide +kernel
theorem dX7_bestBits_99 : decode cX7_bestBits 99 = .ok (.ireturn, 1) := by decide +kernel
theorem dX7_enough_0 : decode cX7_enough 0 = .ok (.iconst 1, 1) := by decide +kernel
theorem dX7_enough_1 : decode cX7_enough 1 = .ok (.istore_n 1, 1) := by decide +kernel
theorem dX7_enough_2 : decode cX7_enough 2 = .ok (.iload_n 1, 1) := by decide +kernel
theorem dX7_enough_3 : decode cX7_enough 3 = .ok (.bipush 12, 2) := by decide +kernel
theorem dX7_enough_5 : decode cX7_enough 5 = .ok (.if_icmp .gt 29, 3) := by decide +kernel
theorem dX7_enough_8 : decode cX7_enough 8 = .ok (.aload_n 0, 1) := by decide +kernel
theorem dX7_enough_9 : decode cX7_enough 9 = .ok (.iload_n 1, 1) := by decide +kernel
theorem dX7_enough_10 : decode cX7_enough 10 = .ok (.aload_n 0, 1) := by decide +kernel
theorem dX7_enough_11 : decode cX7_enough 11 = .ok (.getfield 7, 3) := by decide +kernel
theorem dX7_enough_14 : decode cX7_enough 14 = .ok (.iconst 2, 1) := by decide +kernel
theorem dX7_enough_15 : decode cX7_enough 15 = .ok (.iaload, 1) := by decide +kernel
theorem dX7_enough_16 : decode cX7_enough 16 = .ok (.invokevirtual 169, 3) := by decide +kernel
theorem dX7_enough_19 : decode cX7_enough 19 = .ok (.aload_n 0, 1) := by decide +kernel
theorem dX7_enough_20 : decode cX7_enough 20 = .ok (.getfield 128, 3) := by decide +kernel
theorem dX7_enough_23 : decode cX7_enough 23 = .ok (.ifCond .ne 5, 3) := by decide +kernel
theorem dX7_enough_26 : decode cX7_enough 26 = .ok (.iload_n 1, 1) := by decide +kernel
theorem dX7_enough_27 : decode cX7_enough 27 = .ok (.ireturn, 1) := by decide +kernel
theorem dX7_enough_28 : decode cX7_enough 28 = .ok (.iinc 1 1, 3) := by decide +kernel
theorem dX7_enough_31 : decode cX7_enough 31 = .ok (.goto (-29), 3) := by decide +kernel
theorem dX7_enough_34 : decode cX7_enough 34 = .ok (.ldc 88, 2) := by decide +kernel
theorem dX7_enough_36 : decode cX7_enough 36 = .ok (.ireturn, 1) := by decide +kernel
theorem dX7_rowsIn_0 : decode cX7_rowsIn 0 = .ok (.iconst 0, 1) := by decide +kernel
theorem dX7_rowsIn_1 : decode cX7_rowsIn 1 = .ok (.istore_n 2, 1) := by decide +kernel
theorem dX7_rowsIn_2 : decode cX7_rowsIn 2 = .ok (.iconst 0, 1) := by decide +kernel
theorem dX7_rowsIn_3 : decode cX7_rowsIn 3 = .ok (.istore_n 3, 1) := by decide +kernel
theorem dX7_rowsIn_4 : decode cX7_rowsIn 4 = .ok (.iload_n 3, 1) := by decide +kernel
theorem dX7_rowsIn_5 : decode cX7_rowsIn 5 = .ok (.aload_n 0, 1) := by decide +kernel
theorem dX7_rowsIn_6 : decode cX7_rowsIn 6 = .ok (.getfield 7, 3) := by decide +kernel
theorem dX7_rowsIn_9 : decode cX7_rowsIn 9 = .ok (.iconst 0, 1) := by decide +kernel
theorem dX7_rowsIn_10 : decode cX7_rowsIn 10 = .ok (.iaload, 1) := by decide +kernel
theorem dX7_rowsIn_11 : decode cX7_rowsIn 11 = .ok (.if_icmp .ge 40, 3) := by decide +kernel
theorem dX7_rowsIn_14 : decode cX7_rowsIn 14 = .ok (.iload_n 2, 1) := by decide +kernel
theorem dX7_rowsIn_15 : decode cX7_rowsIn 15 = .ok (.aload_n 0, 1) := by decide +kernel
theorem dX7_rowsIn_16 : decode cX7_rowsIn 16 = .ok (.aload_n 0, 1) := by decide +kernel
theorem dX7_rowsIn_17 : decode cX7_rowsIn 17 = .ok (.getfield 7, 3) := by decide +kernel
theorem dX7_rowsIn_20 : decode cX7_rowsIn 20 = .ok (.iconst 4, 1) := by decide +kernel
theorem dX7_rowsIn_21 : decode cX7_rowsIn 21 = .ok (.iload_n 3, 1) := by decide +kernel
theorem dX7_rowsIn_22 : decode cX7_rowsIn 22 = .ok (.iadd, 1) := by decide +kernel
theorem dX7_rowsIn_23 : decode cX7_rowsIn 23 = .ok (.iaload, 1) := by decide +kernel
theorem dX7_rowsIn_24 : decode cX7_rowsIn 24 = .ok (.iconst 0, 1) := by decide +kernel
theorem dX7_rowsIn_25 : decode cX7_rowsIn 25 = .ok (.aload_n 0, 1) := by decide +kernel
theorem dX7_rowsIn_26 : decode cX7_rowsIn 26 = .ok (.getfield 7, 3) := by decide +kernel
theorem dX7_rowsIn_29 : decode cX7_rowsIn 29 = .ok (.iconst 2, 1) := by decide +kernel
theorem dX7_rowsIn_30 : decode cX7_rowsIn 30 = .ok (.iaload, 1) := by decide +kernel
theorem dX7_rowsIn_31 : decode cX7_rowsIn 31 = .ok (.invokevirtual 89, 3) := by decide +kernel
theorem dX7_rowsIn_34 : decode cX7_rowsIn 34 = .ok (.iload_n 1, 1) := by decide +kernel
theorem dX7_rowsIn_35 : decode cX7_rowsIn 35 = .ok (.if_icmp .ne 7, 3) := by decide +kernel
theorem dX7_rowsIn_38 : decode cX7_rowsIn 38 = .ok (.iconst 1, 1) := by decide +kernel
theorem dX7_rowsIn_39 : decode cX7_rowsIn 39 = .ok (.goto 4, 3) := by decide +kernel
theorem dX7_rowsIn_42 : decode cX7_rowsIn 42 = .ok (.iconst 0, 1) := by decide +kernel
theorem dX7_rowsIn_43 : decode cX7_rowsIn 43 = .ok (.iadd, 1) := by decide +kernel
theorem dX7_rowsIn_44 : decode cX7_rowsIn 44 = .ok (.istore_n 2, 1) := by decide +kernel
theorem dX7_rowsIn_45 : decode cX7_rowsIn 45 = .ok (.iinc 3 1, 3) := by decide +kernel
theorem dX7_rowsIn_48 : decode cX7_rowsIn 48 = .ok (.goto (-44), 3) := by decide +kernel
theorem dX7_rowsIn_51 : decode cX7_rowsIn 51 = .ok (.iload_n 2, 1) := by decide +kernel
theorem dX7_rowsIn_52 : decode cX7_rowsIn 52 = .ok (.ireturn, 1) := by decide +kernel
theorem dX7_isFirst_0 : decode cX7_isFirst 0 = .ok (.iconst 1, 1) := by decide +kernel
theorem dX7_isFirst_1 : decode cX7_isFirst 1 = .ok (.istore_n 2, 1) := by decide +kernel
theorem dX7_isFirst_2 : decode cX7_isFirst 2 = .ok (.iconst 0, 1) := by decide +kernel
theorem dX7_isFirst_3 : decode cX7_isFirst 3 = .ok (.istore_n 3, 1) := by decide +kernel
theorem dX7_isFirst_4 : decode cX7_isFirst 4 = .ok (.iload_n 3, 1) := by decide +kernel
theorem dX7_isFirst_5 : decode cX7_isFirst 5 = .ok (.iload_n 1, 1) := by decide +kernel
theorem dX7_isFirst_6 : decode cX7_isFirst 6 = .ok (.if_icmp .ge 38, 3) := by decide +kernel
theorem dX7_isFirst_9 : decode cX7_isFirst 9 = .ok (.iload_n 2, 1) := by decide +kernel
theorem dX7_isFirst_10 : decode cX7_isFirst 10 = .ok (.ifCond .eq 26, 3) := by decide +kernel
theorem dX7_isFirst_13 : decode cX7_isFirst 13 = .ok (.aload_n 0, 1) := by decide +kernel
theorem dX7_isFirst_14 : decode cX7_isFirst 14 = .ok (.getfield 7, 3) := by decide +kernel
theorem dX7_isFirst_17 : decode cX7_isFirst 17 = .ok (.iconst 4, 1) := by decide +kernel
theorem dX7_isFirst_18 : decode cX7_isFirst 18 = .ok (.iload_n 3, 1) := by decide +kernel
theorem dX7_isFirst_19 : decode cX7_isFirst 19 = .ok (.iadd, 1) := by decide +kernel
theorem dX7_isFirst_20 : decode cX7_isFirst 20 = .ok (.iaload, 1) := by decide +kernel
theorem dX7_isFirst_21 : decode cX7_isFirst 21 = .ok (.aload_n 0, 1) := by decide +kernel
theorem dX7_isFirst_22 : decode cX7_isFirst 22 = .ok (.getfield 7, 3) := by decide +kernel
theorem dX7_isFirst_25 : decode cX7_isFirst 25 = .ok (.iconst 4, 1) := by decide +kernel
theorem dX7_isFirst_26 : decode cX7_isFirst 26 = .ok (.iload_n 1, 1) := by decide +kernel
theorem dX7_isFirst_27 : decode cX7_isFirst 27 = .ok (.iadd, 1) := by decide +kernel
theorem dX7_isFirst_28 : decode cX7_isFirst 28 = .ok (.iaload, 1) := by decide +kernel
theorem dX7_isFirst_29 : decode cX7_isFirst 29 = .ok (.if_icmp .eq 7, 3) := by decide +kernel
theorem dX7_isFirst_32 : decode cX7_isFirst 32 = .ok (.iconst 1, 1) := by decide +kernel
theorem dX7_isFirst_33 : decode cX7_isFirst 33 = .ok (.goto 4, 3) := by decide +kernel
theorem dX7_isFirst_36 : decode cX7_isFirst 36 = .ok (.iconst 0, 1) := by decide +kernel
theorem dX7_isFirst_37 : decode cX7_isFirst 37 = .ok (.istore_n 2, 1) := by decide +kernel
theorem dX7_isFirst_38 : decode cX7_isFirst 38 = .ok (.iinc 3 1, 3) := by decide +kernel
theorem dX7_isFirst_41 : decode cX7_isFirst 41 = .ok (.goto (-37), 3) := by decide +kernel
theorem dX7_isFirst_44 : decode cX7_isFirst 44 = .ok (.iload_n 2, 1) := by decide +kernel
theorem dX7_isFirst_45 : decode cX7_isFirst 45 = .ok (.ireturn, 1) := by decide +kernel
theorem dX7_groupsIn_0 : decode cX7_groupsIn 0 = .ok (.iconst 0, 1) := by decide +kernel
theorem dX7_groupsIn_1 : decode cX7_groupsIn 1 = .ok (.istore_n 2, 1) := by decide +kernel
theorem dX7_groupsIn_2 : decode cX7_groupsIn 2 = .ok (.iconst 0, 1) := by decide +kernel
theorem dX7_groupsIn_3 : decode cX7_groupsIn 3 = .ok (.istore_n 3, 1) := by decide +kernel
theorem dX7_groupsIn_4 : decode cX7_groupsIn 4 = .ok (.iload_n 3, 1) := by decide +kernel
theorem dX7_groupsIn_5 : decode cX7_groupsIn 5 = .ok (.aload_n 0, 1) := by decide +kernel
theorem dX7_groupsIn_6 : decode cX7_groupsIn 6 = .ok (.getfield 7, 3) := by decide +kernel
theorem dX7_groupsIn_9 : decode cX7_groupsIn 9 = .ok (.iconst 0, 1) := by decide +kernel
theorem dX7_groupsIn_10 : decode cX7_groupsIn 10 = .ok (.iaload, 1) := by decide +kernel
theorem dX7_groupsIn_11 : decode cX7_groupsIn 11 = .ok (.if_icmp .ge 48, 3) := by decide +kernel
theorem dX7_groupsIn_14 : decode cX7_groupsIn 14 = .ok (.iload_n 2, 1) := by decide +kernel
theorem dX7_groupsIn_15 : decode cX7_groupsIn 15 = .ok (.aload_n 0, 1) := by decide +kernel
theorem dX7_groupsIn_16 : decode cX7_groupsIn 16 = .ok (.aload_n 0, 1) := by decide +kernel
theorem dX7_groupsIn_17 : decode cX7_groupsIn 17 = .ok (.getfield 7, 3) := by decide +kernel
theorem dX7_groupsIn_20 : decode cX7_groupsIn 20 = .ok (.iconst 4, 1) := by decide +kernel
theorem dX7_groupsIn_21 : decode cX7_groupsIn 21 = .ok (.iload_n 3, 1) := by decide +kernel
theorem dX7_groupsIn_22 : decode cX7_groupsIn 22 = .ok (.iadd, 1) := by decide +kernel
theorem dX7_groupsIn_23 : decode cX7_groupsIn 23 = .ok (.iaload, 1) := by decide +kernel
theorem dX7_groupsIn_24 : decode cX7_groupsIn 24 = .ok (.iconst 0, 1) := by decide +kernel
theorem dX7_groupsIn_25 : decode cX7_groupsIn 25 = .ok (.aload_n 0, 1) := by decide +kernel
theorem dX7_groupsIn_26 : decode cX7_groupsIn 26 = .ok (.getfield 7, 3) := by decide +kernel
theorem dX7_groupsIn_29 : decode cX7_groupsIn 29 = .ok (.iconst 2, 1) := by decide +kernel
theorem dX7_groupsIn_30 : decode cX7_groupsIn 30 = .ok (.iaload, 1) := by decide +kernel
theorem dX7_groupsIn_31 : decode cX7_groupsIn 31 = .ok (.invokevirtual 89, 3) := by decide +kernel
theorem dX7_groupsIn_34 : decode cX7_groupsIn 34 = .ok (.iload_n 1, 1) := by decide +kernel
theorem dX7_groupsIn_35 : decode cX7_groupsIn 35 = .ok (.if_icmp .ne 15, 3) := by decide +kernel
theorem dX7_groupsIn_38 : decode cX7_groupsIn 38 = .ok (.aload_n 0, 1) := by decide +kernel
theorem dX7_groupsIn_39 : decode cX7_groupsIn 39 = .ok (.iload_n 3, 1) := by decide +kernel
theorem dX7_groupsIn_40 : decode cX7_groupsIn 40 = .ok (.invokevirtual 194, 3) := by decide +kernel
theorem dX7_groupsIn_43 : decode cX7_groupsIn 43 = .ok (.ifCond .eq 7, 3) := by decide +kernel
theorem dX7_groupsIn_46 : decode cX7_groupsIn 46 = .ok (.iconst 1, 1) := by decide +kernel
theorem dX7_groupsIn_47 : decode cX7_groupsIn 47 = .ok (.goto 4, 3) := by decide +kernel
theorem dX7_groupsIn_50 : decode cX7_groupsIn 50 = .ok (.iconst 0, 1) := by decide +kernel
theorem dX7_groupsIn_51 : decode cX7_groupsIn 51 = .ok (.iadd, 1) := by decide +kernel
theorem dX7_groupsIn_52 : decode cX7_groupsIn 52 = .ok (.istore_n 2, 1) := by decide +kernel
theorem dX7_groupsIn_53 : decode cX7_groupsIn 53 = .ok (.iinc 3 1, 3) := by decide +kernel
theorem dX7_groupsIn_56 : decode cX7_groupsIn 56 = .ok (.goto (-52), 3) := by decide +kernel
theorem dX7_groupsIn_59 : decode cX7_groupsIn 59 = .ok (.iload_n 2, 1) := by decide +kernel
theorem dX7_groupsIn_60 : decode cX7_groupsIn 60 = .ok (.ireturn, 1) := by decide +kernel
theorem dX7_skewed_0 : decode cX7_skewed 0 = .ok (.iload_n 1, 1) := by decide +kernel
theorem dX7_skewed_1 : decode cX7_skewed 1 = .ok (.i2l, 1) := by decide +kernel
theorem dX7_skewed_2 : decode cX7_skewed 2 = .ok (.lconst 0, 1) := by decide +kernel
theorem dX7_skewed_3 : decode cX7_skewed 3 = .ok (.ldc2_w 197, 3) := by decide +kernel
theorem dX7_skewed_6 : decode cX7_skewed 6 = .ok (.invokestatic 53, 3) := by decide +kernel
theorem dX7_skewed_9 : decode cX7_skewed 9 = .ok (.ifCond .ne 6, 3) := by decide +kernel
theorem dX7_skewed_12 : decode cX7_skewed 12 = .ok (.ldc 65, 2) := by decide +kernel
theorem dX7_skewed_14 : decode cX7_skewed 14 = .ok (.ireturn, 1) := by decide +kernel
theorem dX7_skewed_15 : decode cX7_skewed 15 = .ok (.aload_n 0, 1) := by decide +kernel
theorem dX7_skewed_16 : decode cX7_skewed 16 = .ok (.getfield 7, 3) := by decide +kernel
theorem dX7_skewed_19 : decode cX7_skewed 19 = .ok (.iconst 0, 1) := by decide +kernel
theorem dX7_skewed_20 : decode cX7_skewed 20 = .ok (.iaload, 1) := by decide +kernel
theorem dX7_skewed_21 : decode cX7_skewed 21 = .ok (.ifCond .ne 6, 3) := by decide +kernel
theorem dX7_skewed_24 : decode cX7_skewed 24 = .ok (.ldc 88, 2) := by decide +kernel
theorem dX7_skewed_26 : decode cX7_skewed 26 = .ok (.ireturn, 1) := by decide +kernel
theorem dX7_skewed_27 : decode cX7_skewed 27 = .ok (.iconst 0, 1) := by decide +kernel
theorem dX7_skewed_28 : decode cX7_skewed 28 = .ok (.istore_n 2, 1) := by decide +kernel
theorem dX7_skewed_29 : decode cX7_skewed 29 = .ok (.iconst 1, 1) := by decide +kernel
theorem dX7_skewed_30 : decode cX7_skewed 30 = .ok (.istore_n 3, 1) := by decide +kernel
theorem dX7_skewed_31 : decode cX7_skewed 31 = .ok (.iload_n 3, 1) := by decide +kernel
theorem dX7_skewed_32 : decode cX7_skewed 32 = .ok (.iconst 1, 1) := by decide +kernel
theorem dX7_skewed_33 : decode cX7_skewed 33 = .ok (.aload_n 0, 1) := by decide +kernel
theorem dX7_skewed_34 : decode cX7_skewed 34 = .ok (.getfield 7, 3) := by decide +kernel
theorem dX7_skewed_37 : decode cX7_skewed 37 = .ok (.iconst 2, 1) := by decide +kernel
theorem dX7_skewed_38 : decode cX7_skewed 38 = .ok (.iaload, 1) := by decide +kernel
theorem dX7_skewed_39 : decode cX7_skewed 39 = .ok (.ishl, 1) := by decide +kernel
theorem dX7_skewed_40 : decode cX7_skewed 40 = .ok (.if_icmp .ge 28, 3) := by decide +kernel
theorem dX7_skewed_43 : decode cX7_skewed 43 = .ok (.aload_n 0, 1) := by decide +kernel
theorem dX7_skewed_44 : decode cX7_skewed 44 = .ok (.iload_n 3, 1) := by decide +kernel
theorem dX7_skewed_45 : decode cX7_skewed 45 = .ok (.invokevirtual 199, 3) := by decide +kernel
theorem dX7_skewed_48 : decode cX7_skewed 48 = .ok (.aload_n 0, 1) := by decide +kernel
theorem dX7_skewed_49 : decode cX7_skewed 49 = .ok (.iload_n 2, 1) := by decide +kernel
theorem dX7_skewed_50 : decode cX7_skewed 50 = .ok (.invokevirtual 199, 3) := by decide +kernel
theorem dX7_skewed_53 : decode cX7_skewed 53 = .ok (.if_icmp .le 7, 3) := by decide +kernel
theorem dX7_skewed_56 : decode cX7_skewed 56 = .ok (.iload_n 3, 1) := by decide +kernel
theorem dX7_skewed_57 : decode cX7_skewed 57 = .ok (.goto 4, 3) := by decide +kernel
theorem dX7_skewed_60 : decode cX7_skewed 60 = .ok (.iload_n 2, 1) := by decide +kernel
theorem dX7_skewed_61 : decode cX7_skewed 61 = .ok (.istore_n 2, 1) := by decide +kernel
theorem dX7_skewed_62 : decode cX7_skewed 62 = .ok (.iinc 3 1, 3) := by decide +kernel
theorem dX7_skewed_65 : decode cX7_skewed 65 = .ok (.goto (-34), 3) := by decide +kernel
theorem dX7_skewed_68 : decode cX7_skewed 68 = .ok (.iload_n 1, 1) := by decide +kernel
theorem dX7_skewed_69 : decode cX7_skewed 69 = .ok (.ifCond .ne 7, 3) := by decide +kernel
theorem dX7_skewed_72 : decode cX7_skewed 72 = .ok (.iload_n 2, 1) := by decide +kernel
theorem dX7_skewed_73 : decode cX7_skewed 73 = .ok (.goto 21, 3) := by decide +kernel
theorem dX7_skewed_76 : decode cX7_skewed 76 = .ok (.iload_n 1, 1) := by decide +kernel
theorem dX7_skewed_77 : decode cX7_skewed 77 = .ok (.iconst 1, 1) := by decide +kernel
theorem dX7_skewed_78 : decode cX7_skewed 78 = .ok (.if_icmp .ne 11, 3) := by decide +kernel
theorem dX7_skewed_81 : decode cX7_skewed 81 = .ok (.aload_n 0, 1) := by decide +kernel
theorem dX7_skewed_82 : decode cX7_skewed 82 = .ok (.iload_n 2, 1) := by decide +kernel
theorem dX7_skewed_83 : decode cX7_skewed 83 = .ok (.invokevirtual 199, 3) := by decide +kernel
theorem dX7_skewed_86 : decode cX7_skewed 86 = .ok (.goto 8, 3) := by decide +kernel
theorem dX7_skewed_89 : decode cX7_skewed 89 = .ok (.aload_n 0, 1) := by decide +kernel
theorem dX7_skewed_90 : decode cX7_skewed 90 = .ok (.iload_n 2, 1) := by decide +kernel
theorem dX7_skewed_91 : decode cX7_skewed 91 = .ok (.invokevirtual 202, 3) := by decide +kernel
theorem dX7_skewed_94 : decode cX7_skewed 94 = .ok (.ireturn, 1) := by decide +kernel
theorem dX7_count_0 : decode cX7_count 0 = .ok (.iconst 0, 1) := by decide +kernel
theorem dX7_count_1 : decode cX7_count 1 = .ok (.istore_n 2, 1) := by decide +kernel
theorem dX7_count_2 : decode cX7_count 2 = .ok (.iconst 0, 1) := by decide +kernel
theorem dX7_count_3 : decode cX7_count 3 = .ok (.istore_n 3, 1) := by decide +kernel
theorem dX7_count_4 : decode cX7_count 4 = .ok (.iconst 0, 1) := by decide +kernel
theorem dX7_count_5 : decode cX7_count 5 = .ok (.istore 4, 2) := by decide +kernel
theorem dX7_count_7 : decode cX7_count 7 = .ok (.iload 4, 2) := by decide +kernel
theorem dX7_count_9 : decode cX7_count 9 = .ok (.aload_n 0, 1) := by decide +kernel
theorem dX7_count_10 : decode cX7_count 10 = .ok (.getfield 7, 3) := by decide +kernel
theorem dX7_count_13 : decode cX7_count 13 = .ok (.iconst 0, 1) := by decide +kernel
theorem dX7_count_14 : decode cX7_count 14 = .ok (.iaload, 1) := by decide +kernel
theorem dX7_count_15 : decode cX7_count 15 = .ok (.if_icmp .ge 39, 3) := by decide +kernel
theorem dX7_count_18 : decode cX7_count 18 = .ok (.iload_n 2, 1) := by decide +kernel
theorem dX7_count_19 : decode cX7_count 19 = .ok (.aload_n 0, 1) := by decide +kernel
theorem dX7_count_20 : decode cX7_count 20 = .ok (.getfield 7, 3) := by decide +kernel
theorem dX7_count_23 : decode cX7_count 23 = .ok (.bipush 104, 2) := by decide +kernel
theorem dX7_count_25 : decode cX7_count 25 = .ok (.iload 4, 2) := by decide +kernel
theorem dX7_count_27 : decode cX7_count 27 = .ok (.iadd, 1) := by decide +kernel
theorem dX7_count_28 : decode cX7_count 28 = .ok (.iaload, 1) := by decide +kernel
theorem dX7_count_29 : decode cX7_count 29 = .ok (.iadd, 1) := by decide +kernel
theorem dX7_count_30 : decode cX7_count 30 = .ok (.istore_n 2, 1) := by decide +kernel
theorem dX7_count_31 : decode cX7_count 31 = .ok (.iload_n 3, 1) := by decide +kernel
theorem dX7_count_32 : decode cX7_count 32 = .ok (.aload_n 0, 1) := by decide +kernel
theorem dX7_count_33 : decode cX7_count 33 = .ok (.iload 4, 2) := by decide +kernel
theorem dX7_count_35 : decode cX7_count 35 = .ok (.invokevirtual 194, 3) := by decide +kernel
theorem dX7_count_38 : decode cX7_count 38 = .ok (.ifCond .eq 7, 3) := by decide +kernel
theorem dX7_count_41 : decode cX7_count 41 = .ok (.iconst 1, 1) := by decide +kernel
theorem dX7_count_42 : decode cX7_count 42 = .ok (.goto 4, 3) := by decide +kernel
theorem dX7_count_45 : decode cX7_count 45 = .ok (.iconst 0, 1) := by decide +kernel
theorem dX7_count_46 : decode cX7_count 46 = .ok (.iadd, 1) := by decide +kernel
theorem dX7_count_47 : decode cX7_count 47 = .ok (.istore_n 3, 1) := by decide +kernel
theorem dX7_count_48 : decode cX7_count 48 = .ok (.iinc 4 1, 3) := by decide +kernel
theorem dX7_count_51 : decode cX7_count 51 = .ok (.goto (-44), 3) := by decide +kernel
theorem dX7_count_54 : decode cX7_count 54 = .ok (.iload_n 1, 1) := by decide +kernel
theorem dX7_count_55 : decode cX7_count 55 = .ok (.tableswitch 54 0 4 #[33, 40, 42, 44, 49], 33) := by decide +kernel
theorem dX7_count_88 : decode cX7_count 88 = .ok (.aload_n 0, 1) := by decide +kernel
theorem dX7_count_89 : decode cX7_count 89 = .ok (.getfield 7, 3) := by decide +kernel
theorem dX7_count_92 : decode cX7_count 92 = .ok (.iconst 0, 1) := by decide +kernel
theorem dX7_count_93 : decode cX7_count 93 = .ok (.iaload, 1) := by decide +kernel
theorem dX7_count_94 : decode cX7_count 94 = .ok (.ireturn, 1) := by decide +kernel
theorem dX7_count_95 : decode cX7_count 95 = .ok (.iload_n 2, 1) := by decide +kernel
theorem dX7_count_96 : decode cX7_count 96 = .ok (.ireturn, 1) := by decide +kernel
theorem dX7_count_97 : decode cX7_count 97 = .ok (.iload_n 3, 1) := by decide +kernel
theorem dX7_count_98 : decode cX7_count 98 = .ok (.ireturn, 1) := by decide +kernel
theorem dX7_count_99 : decode cX7_count 99 = .ok (.aload_n 0, 1) := by decide +kernel
theorem dX7_count_100 : decode cX7_count 100 = .ok (.getfield 47, 3) := by decide +kernel
theorem dX7_count_103 : decode cX7_count 103 = .ok (.ireturn, 1) := by decide +kernel
theorem dX7_count_104 : decode cX7_count 104 = .ok (.aload_n 0, 1) := by decide +kernel
theorem dX7_count_105 : decode cX7_count 105 = .ok (.getfield 205, 3) := by decide +kernel
theorem dX7_count_108 : decode cX7_count 108 = .ok (.ireturn, 1) := by decide +kernel
theorem dX7_count_109 : decode cX7_count 109 = .ok (.iload_n 1, 1) := by decide +kernel
theorem dX7_count_110 : decode cX7_count 110 = .ok (.i2l, 1) := by decide +kernel
theorem dX7_count_111 : decode cX7_count 111 = .ok (.ldc2_w 208, 3) := by decide +kernel
theorem dX7_count_114 : decode cX7_count 114 = .ok (.ldc2_w 210, 3) := by decide +kernel
theorem dX7_count_117 : decode cX7_count 117 = .ok (.invokestatic 53, 3) := by decide +kernel
theorem dX7_count_120 : decode cX7_count 120 = .ok (.ifCond .eq 17, 3) := by decide +kernel
theorem dX7_count_123 : decode cX7_count 123 = .ok (.aload_n 0, 1) := by decide +kernel
theorem dX7_count_124 : decode cX7_count 124 = .ok (.getfield 7, 3) := by decide +kernel
theorem dX7_count_127 : decode cX7_count 127 = .ok (.iconst 1, 1) := by decide +kernel
theorem dX7_count_128 : decode cX7_count 128 = .ok (.iload_n 1, 1) := by decide +kernel
theorem dX7_count_129 : decode cX7_count 129 = .ok (.iadd, 1) := by decide +kernel
theorem dX7_count_130 : decode cX7_count 130 = .ok (.bipush 20, 2) := by decide +kernel
theorem dX7_count_132 : decode cX7_count 132 = .ok (.isub, 1) := by decide +kernel
theorem dX7_count_133 : decode cX7_count 133 = .ok (.iaload, 1) := by decide +kernel
theorem dX7_count_134 : decode cX7_count 134 = .ok (.goto 5, 3) := by decide +kernel
theorem dX7_count_137 : decode cX7_count 137 = .ok (.ldc 65, 2) := by decide +kernel
theorem dX7_count_139 : decode cX7_count 139 = .ok (.ireturn, 1) := by decide +kernel
theorem dX7_undo_0 : decode cX7_undo 0 = .ok (.aload_n 0, 1) := by decide +kernel
theorem dX7_undo_1 : decode cX7_undo 1 = .ok (.getfield 47, 3) := by decide +kernel
theorem dX7_undo_4 : decode cX7_undo 4 = .ok (.ifCond .ne 6, 3) := by decide +kernel
theorem dX7_undo_7 : decode cX7_undo 7 = .ok (.ldc 74, 2) := by decide +kernel
theorem dX7_undo_9 : decode cX7_undo 9 = .ok (.ireturn, 1) := by decide +kernel
theorem dX7_undo_10 : decode cX7_undo 10 = .ok (.aload_n 0, 1) := by decide +kernel
theorem dX7_undo_11 : decode cX7_undo 11 = .ok (.dup, 1) := by decide +kernel
theorem dX7_undo_12 : decode cX7_undo 12 = .ok (.getfield 47, 3) := by decide +kernel
theorem dX7_undo_15 : decode cX7_undo 15 = .ok (.iconst 1, 1) := by decide +kernel
theorem dX7_undo_16 : decode cX7_undo 16 = .ok (.isub, 1) := by decide +kernel
theorem dX7_undo_17 : decode cX7_undo 17 = .ok (.putfield 47, 3) := by decide +kernel
theorem dX7_undo_20 : decode cX7_undo 20 = .ok (.iconst 0, 1) := by decide +kernel
theorem dX7_undo_21 : decode cX7_undo 21 = .ok (.istore_n 1, 1) := by decide +kernel
theorem dX7_undo_22 : decode cX7_undo 22 = .ok (.iload_n 1, 1) := by decide +kernel
theorem dX7_undo_23 : decode cX7_undo 23 = .ok (.sipush 204, 3) := by decide +kernel
theorem dX7_undo_26 : decode cX7_undo 26 = .ok (.if_icmp .ge 30, 3) := by decide +kernel
theorem dX7_undo_29 : decode cX7_undo 29 = .ok (.aload_n 0, 1) := by decide +kernel
theorem dX7_undo_30 : decode cX7_undo 30 = .ok (.getfield 7, 3) := by decide +kernel
theorem dX7_undo_33 : decode cX7_undo 33 = .ok (.iload_n 1, 1) := by decide +kernel
theorem dX7_undo_34 : decode cX7_undo 34 = .ok (.aload_n 0, 1) := by decide +kernel
theorem dX7_undo_35 : decode cX7_undo 35 = .ok (.getfield 13, 3) := by decide +kernel
theorem dX7_undo_38 : decode cX7_undo 38 = .ok (.sipush 204, 3) := by decide +kernel
theorem dX7_undo_41 : decode cX7_undo 41 = .ok (.aload_n 0, 1) := by decide +kernel
theorem dX7_undo_42 : decode cX7_undo 42 = .ok (.getfield 47, 3) := by decide +kernel
theorem dX7_undo_45 : decode cX7_undo 45 = .ok (.imul, 1) := by decide +kernel
theorem dX7_undo_46 : decode cX7_undo 46 = .ok (.iload_n 1, 1) := by decide +kernel
theorem dX7_undo_47 : decode cX7_undo 47 = .ok (.iadd, 1) := by decide +kernel
theorem dX7_undo_48 : decode cX7_undo 48 = .ok (.iaload, 1) := by decide +kernel
theorem dX7_undo_49 : decode cX7_undo 49 = .ok (.iastore, 1) := by decide +kernel
theorem dX7_undo_50 : decode cX7_undo 50 = .ok (.iinc 1 1, 3) := by decide +kernel
theorem dX7_undo_53 : decode cX7_undo 53 = .ok (.goto (-31), 3) := by decide +kernel
theorem dX7_undo_56 : decode cX7_undo 56 = .ok (.aload_n 0, 1) := by decide +kernel
theorem dX7_undo_57 : decode cX7_undo 57 = .ok (.getfield 47, 3) := by decide +kernel
theorem dX7_undo_60 : decode cX7_undo 60 = .ok (.ireturn, 1) := by decide +kernel
theorem dX7_type_0 : decode cX7_type 0 = .ok (.iload_n 1, 1) := by decide +kernel
theorem dX7_type_1 : decode cX7_type 1 = .ok (.i2l, 1) := by decide +kernel
theorem dX7_type_2 : decode cX7_type 2 = .ok (.ldc2_w 212, 3) := by decide +kernel
theorem dX7_type_5 : decode cX7_type 5 = .ok (.ldc2_w 214, 3) := by decide +kernel
theorem dX7_type_8 : decode cX7_type 8 = .ok (.invokestatic 53, 3) := by decide +kernel
theorem dX7_type_11 : decode cX7_type 11 = .ok (.ifCond .ne 6, 3) := by decide +kernel
theorem dX7_type_14 : decode cX7_type 14 = .ok (.ldc 65, 2) := by decide +kernel
theorem dX7_type_16 : decode cX7_type 16 = .ok (.ireturn, 1) := by decide +kernel
theorem dX7_type_17 : decode cX7_type 17 = .ok (.aload_n 0, 1) := by decide +kernel
theorem dX7_type_18 : decode cX7_type 18 = .ok (.getfield 205, 3) := by decide +kernel
theorem dX7_type_21 : decode cX7_type 21 = .ok (.bipush 60, 2) := by decide +kernel
theorem dX7_type_23 : decode cX7_type 23 = .ok (.if_icmp .ne 6, 3) := by decide +kernel
theorem dX7_type_26 : decode cX7_type 26 = .ok (.ldc 66, 2) := by decide +kernel
theorem dX7_type_28 : decode cX7_type 28 = .ok (.ireturn, 1) := by decide +kernel
theorem dX7_type_29 : decode cX7_type 29 = .ok (.aload_n 0, 1) := by decide +kernel
theorem dX7_type_30 : decode cX7_type 30 = .ok (.getfield 43, 3) := by decide +kernel
theorem dX7_type_33 : decode cX7_type 33 = .ok (.aload_n 0, 1) := by decide +kernel
theorem dX7_type_34 : decode cX7_type 34 = .ok (.getfield 205, 3) := by decide +kernel
theorem dX7_type_37 : decode cX7_type 37 = .ok (.iload_n 1, 1) := by decide +kernel
theorem dX7_type_38 : decode cX7_type 38 = .ok (.iastore, 1) := by decide +kernel
theorem dX7_type_39 : decode cX7_type 39 = .ok (.aload_n 0, 1) := by decide +kernel
theorem dX7_type_40 : decode cX7_type 40 = .ok (.dup, 1) := by decide +kernel
theorem dX7_type_41 : decode cX7_type 41 = .ok (.getfield 205, 3) := by decide +kernel
theorem dX7_type_44 : decode cX7_type 44 = .ok (.iconst 1, 1) := by decide +kernel
theorem dX7_type_45 : decode cX7_type 45 = .ok (.iadd, 1) := by decide +kernel
theorem dX7_type_46 : decode cX7_type 46 = .ok (.putfield 205, 3) := by decide +kernel
theorem dX7_type_49 : decode cX7_type 49 = .ok (.aload_n 0, 1) := by decide +kernel
theorem dX7_type_50 : decode cX7_type 50 = .ok (.getfield 205, 3) := by decide +kernel
theorem dX7_type_53 : decode cX7_type 53 = .ok (.ireturn, 1) := by decide +kernel
theorem dX7_clearText_0 : decode cX7_clearText 0 = .ok (.aload_n 0, 1) := by decide +kernel
theorem dX7_clearText_1 : decode cX7_clearText 1 = .ok (.getfield 205, 3) := by decide +kernel
theorem dX7_clearText_4 : decode cX7_clearText 4 = .ok (.istore_n 1, 1) := by decide +kernel
theorem dX7_clearText_5 : decode cX7_clearText 5 = .ok (.aload_n 0, 1) := by decide +kernel
theorem dX7_clearText_6 : decode cX7_clearText 6 = .ok (.iconst 0, 1) := by decide +kernel
theorem dX7_clearText_7 : decode cX7_clearText 7 = .ok (.putfield 205, 3) := by decide +kernel
theorem dX7_clearText_10 : decode cX7_clearText 10 = .ok (.iload_n 1, 1) := by decide +kernel
theorem dX7_clearText_11 : decode cX7_clearText 11 = .ok (.ireturn, 1) := by decide +kernel
theorem dX7_takesOne_0 : decode cX7_takesOne 0 = .ok (.aload_n 0, 1) := by decide +kernel
theorem dX7_takesOne_1 : decode cX7_takesOne 1 = .ok (.getfield 216, 3) := by decide +kernel
theorem dX7_takesOne_4 : decode cX7_takesOne 4 = .ok (.aload_n 0, 1) := by decide +kernel
theorem dX7_takesOne_5 : decode cX7_takesOne 5 = .ok (.getfield 205, 3) := by decide +kernel
theorem dX7_takesOne_8 : decode cX7_takesOne 8 = .ok (.if_icmp .ge 20, 3) := by decide +kernel
theorem dX7_takesOne_11 : decode cX7_takesOne 11 = .ok (.aload_n 0, 1) := by decide +kernel
theorem dX7_takesOne_12 : decode cX7_takesOne 12 = .ok (.getfield 43, 3) := by decide +kernel
theorem dX7_takesOne_15 : decode cX7_takesOne 15 = .ok (.aload_n 0, 1) := by decide +kernel
theorem dX7_takesOne_16 : decode cX7_takesOne 16 = .ok (.getfield 216, 3) := by decide +kernel
theorem dX7_takesOne_19 : decode cX7_takesOne 19 = .ok (.iaload, 1) := by decide +kernel
theorem dX7_takesOne_20 : decode cX7_takesOne 20 = .ok (.iload_n 1, 1) := by decide +kernel
theorem dX7_takesOne_21 : decode cX7_takesOne 21 = .ok (.if_icmp .ne 7, 3) := by decide +kernel
theorem dX7_takesOne_24 : decode cX7_takesOne 24 = .ok (.iconst 1, 1) := by decide +kernel
theorem dX7_takesOne_25 : decode cX7_takesOne 25 = .ok (.goto 4, 3) := by decide +kernel
theorem dX7_takesOne_28 : decode cX7_takesOne 28 = .ok (.iconst 0, 1) := by decide +kernel
theorem dX7_takesOne_29 : decode cX7_takesOne 29 = .ok (.istore_n 2, 1) := by decide +kernel
theorem dX7_takesOne_30 : decode cX7_takesOne 30 = .ok (.aload_n 0, 1) := by decide +kernel
theorem dX7_takesOne_31 : decode cX7_takesOne 31 = .ok (.dup, 1) := by decide +kernel
theorem dX7_takesOne_32 : decode cX7_takesOne 32 = .ok (.getfield 216, 3) := by decide +kernel
theorem dX7_takesOne_35 : decode cX7_takesOne 35 = .ok (.iload_n 2, 1) := by decide +kernel
theorem dX7_takesOne_36 : decode cX7_takesOne 36 = .ok (.ifCond .eq 7, 3) := by decide +kernel
theorem dX7_takesOne_39 : decode cX7_takesOne 39 = .ok (.iconst 1, 1) := by decide +kernel
theorem dX7_takesOne_40 : decode cX7_takesOne 40 = .ok (.goto 4, 3) := by decide +kernel
theorem dX7_takesOne_43 : decode cX7_takesOne 43 = .ok (.iconst 0, 1) := by decide +kernel
theorem dX7_takesOne_44 : decode cX7_takesOne 44 = .ok (.iadd, 1) := by decide +kernel
theorem dX7_takesOne_45 : decode cX7_takesOne 45 = .ok (.putfield 216, 3) := by decide +kernel
theorem dX7_takesOne_48 : decode cX7_takesOne 48 = .ok (.iload_n 2, 1) := by decide +kernel
theorem dX7_takesOne_49 : decode cX7_takesOne 49 = .ok (.ireturn, 1) := by decide +kernel
theorem dX7_takesNumber_0 : decode cX7_takesNumber 0 = .ok (.aload_n 0, 1) := by decide +kernel
theorem dX7_takesNumber_1 : decode cX7_takesNumber 1 = .ok (.getfield 216, 3) := by decide +kernel
theorem dX7_takesNumber_4 : decode cX7_takesNumber 4 = .ok (.istore_n 2, 1) := by decide +kernel
theorem dX7_takesNumber_5 : decode cX7_takesNumber 5 = .ok (.aload_n 0, 1) := by decide +kernel
theorem dX7_takesNumber_6 : decode cX7_takesNumber 6 = .ok (.iconst 0, 1) := by decide +kernel
theorem dX7_takesNumber_7 : decode cX7_takesNumber 7 = .ok (.putfield 219, 3) := by decide +kernel
theorem dX7_takesNumber_10 : decode cX7_takesNumber 10 = .ok (.aload_n 0, 1) := by decide +kernel
theorem dX7_takesNumber_11 : decode cX7_takesNumber 11 = .ok (.getfield 216, 3) := by decide +kernel
theorem dX7_takesNumber_14 : decode cX7_takesNumber 14 = .ok (.aload_n 0, 1) := by decide +kernel
theorem dX7_takesNumber_15 : decode cX7_takesNumber 15 = .ok (.getfield 205, 3) := by decide +kernel
theorem dX7_takesNumber_18 : decode cX7_takesNumber 18 = .ok (.if_icmp .ge 72, 3) := by decide +kernel
theorem dX7_takesNumber_21 : decode cX7_takesNumber 21 = .ok (.aload_n 0, 1) := by decide +kernel
theorem dX7_takesNumber_22 : decode cX7_takesNumber 22 = .ok (.getfield 216, 3) := by decide +kernel
theorem dX7_takesNumber_25 : decode cX7_takesNumber 25 = .ok (.iload_n 2, 1) := by decide +kernel
theorem dX7_takesNumber_26 : decode cX7_takesNumber 26 = .ok (.iload_n 1, 1) := by decide +kernel
theorem dX7_takesNumber_27 : decode cX7_takesNumber 27 = .ok (.iadd, 1) := by decide +kernel
theorem dX7_takesNumber_28 : decode cX7_takesNumber 28 = .ok (.if_icmp .ge 62, 3) := by decide +kernel
theorem dX7_takesNumber_31 : decode cX7_takesNumber 31 = .ok (.aload_n 0, 1) := by decide +kernel
theorem dX7_takesNumber_32 : decode cX7_takesNumber 32 = .ok (.getfield 43, 3) := by decide +kernel
theorem dX7_takesNumber_35 : decode cX7_takesNumber 35 = .ok (.aload_n 0, 1) := by decide +kernel
theorem dX7_takesNumber_36 : decode cX7_takesNumber 36 = .ok (.getfield 216, 3) := by decide +kernel
theorem dX7_takesNumber_39 : decode cX7_takesNumber 39 = .ok (.iaload, 1) := by decide +kernel
theorem dX7_takesNumber_40 : decode cX7_takesNumber 40 = .ok (.i2l, 1) := by decide +kernel
theorem dX7_takesNumber_41 : decode cX7_takesNumber 41 = .ok (.ldc2_w 222, 3) := by decide +kernel
theorem dX7_takesNumber_44 : decode cX7_takesNumber 44 = .ok (.ldc2_w 224, 3) := by decide +kernel
theorem dX7_takesNumber_47 : decode cX7_takesNumber 47 = .ok (.invokestatic 53, 3) := by decide +kernel
theorem dX7_takesNumber_50 : decode cX7_takesNumber 50 = .ok (.ifCond .eq 40, 3) := by decide +kernel
theorem dX7_takesNumber_53 : decode cX7_takesNumber 53 = .ok (.aload_n 0, 1) := by decide +kernel
theorem dX7_takesNumber_54 : decode cX7_takesNumber 54 = .ok (.bipush 10, 2) := by decide +kernel
theorem dX7_takesNumber_56 : decode cX7_takesNumber 56 = .ok (.aload_n 0, 1) := by decide +kernel
theorem dX7_takesNumber_57 : decode cX7_takesNumber 57 = .ok (.getfield 219, 3) := by decide +kernel
theorem dX7_takesNumber_60 : decode cX7_takesNumber 60 = .ok (.imul, 1) := by decide +kernel
theorem dX7_takesNumber_61 : decode cX7_takesNumber 61 = .ok (.aload_n 0, 1) := by decide +kernel
theorem dX7_takesNumber_62 : decode cX7_takesNumber 62 = .ok (.getfield 43, 3) := by decide +kernel
theorem dX7_takesNumber_65 : decode cX7_takesNumber 65 = .ok (.aload_n 0, 1) := by decide +kernel
theorem dX7_takesNumber_66 : decode cX7_takesNumber 66 = .ok (.getfield 216, 3) := by decide +kernel
theorem dX7_takesNumber_69 : decode cX7_takesNumber 69 = .ok (.iaload, 1) := by decide +kernel
theorem dX7_takesNumber_70 : decode cX7_takesNumber 70 = .ok (.iadd, 1) := by decide +kernel
theorem dX7_takesNumber_71 : decode cX7_takesNumber 71 = .ok (.bipush 48, 2) := by decide +kernel
theorem dX7_takesNumber_73 : decode cX7_takesNumber 73 = .ok (.isub, 1) := by decide +kernel
theorem dX7_takesNumber_74 : decode cX7_takesNumber 74 = .ok (.putfield 219, 3) := by decide +kernel
theorem dX7_takesNumber_77 : decode cX7_takesNumber 77 = .ok (.aload_n 0, 1) := by decide +kernel
theorem dX7_takesNumber_78 : decode cX7_takesNumber 78 = .ok (.dup, 1) := by decide +kernel
theorem dX7_takesNumber_79 : decode cX7_takesNumber 79 = .ok (.getfield 216, 3) := by decide +kernel
theorem dX7_takesNumber_82 : decode cX7_takesNumber 82 = .ok (.iconst 1, 1) := by decide +kernel
theorem dX7_takesNumber_83 : decode cX7_takesNumber 83 = .ok (.iadd, 1) := by decide +kernel
theorem dX7_takesNumber_84 : decode cX7_takesNumber 84 = .ok (.putfield 216, 3) := by decide +kernel
theorem dX7_takesNumber_87 : decode cX7_takesNumber 87 = .ok (.goto (-77), 3) := by decide +kernel
theorem dX7_takesNumber_90 : decode cX7_takesNumber 90 = .ok (.aload_n 0, 1) := by decide +kernel
theorem dX7_takesNumber_91 : decode cX7_takesNumber 91 = .ok (.getfield 216, 3) := by decide +kernel
theorem dX7_takesNumber_94 : decode cX7_takesNumber 94 = .ok (.iload_n 2, 1) := by decide +kernel
theorem dX7_takesNumber_95 : decode cX7_takesNumber 95 = .ok (.if_icmp .le 7, 3) := by decide +kernel
theorem dX7_takesNumber_98 : decode cX7_takesNumber 98 = .ok (.iconst 1, 1) := by decide +kernel
theorem dX7_takesNumber_99 : decode cX7_takesNumber 99 = .ok (.goto 4, 3) := by decide +kernel
theorem dX7_takesNumber_102 : decode cX7_takesNumber 102 = .ok (.iconst 0, 1) := by decide +kernel
theorem dX7_takesNumber_103 : decode cX7_takesNumber 103 = .ok (.ireturn, 1) := by decide +kernel
theorem dX7_readsRow_0 : decode cX7_readsRow 0 = .ok (.aload_n 0, 1) := by decide +kernel
theorem dX7_readsRow_1 : decode cX7_readsRow 1 = .ok (.aload_n 0, 1) := by decide +kernel
theorem dX7_readsRow_2 : decode cX7_readsRow 2 = .ok (.getfield 226, 3) := by decide +kernel
theorem dX7_readsRow_5 : decode cX7_readsRow 5 = .ok (.putfield 216, 3) := by decide +kernel
theorem dX7_readsRow_8 : decode cX7_readsRow 8 = .ok (.aload_n 0, 1) := by decide +kernel
theorem dX7_readsRow_9 : decode cX7_readsRow 9 = .ok (.iconst 4, 1) := by decide +kernel
theorem dX7_readsRow_10 : decode cX7_readsRow 10 = .ok (.invokevirtual 229, 3) := by decide +kernel
theorem dX7_readsRow_13 : decode cX7_readsRow 13 = .ok (.ifCond .ne 5, 3) := by decide +kernel
theorem dX7_readsRow_16 : decode cX7_readsRow 16 = .ok (.iconst 0, 1) := by decide +kernel
theorem dX7_readsRow_17 : decode cX7_readsRow 17 = .ok (.ireturn, 1) := by decide +kernel
theorem dX7_readsRow_18 : decode cX7_readsRow 18 = .ok (.aload_n 0, 1) := by decide +kernel
theorem dX7_readsRow_19 : decode cX7_readsRow 19 = .ok (.aload_n 0, 1) := by decide +kernel
theorem dX7_readsRow_20 : decode cX7_readsRow 20 = .ok (.getfield 219, 3) := by decide +kernel
theorem dX7_readsRow_23 : decode cX7_readsRow 23 = .ok (.putfield 232, 3) := by decide +kernel
theorem dX7_readsRow_26 : decode cX7_readsRow 26 = .ok (.aload_n 0, 1) := by decide +kernel
theorem dX7_readsRow_27 : decode cX7_readsRow 27 = .ok (.bipush 61, 2) := by decide +kernel
theorem dX7_readsRow_29 : decode cX7_readsRow 29 = .ok (.invokevirtual 235, 3) := by decide +kernel
theorem dX7_readsRow_32 : decode cX7_readsRow 32 = .ok (.ifCond .ne 5, 3) := by decide +kernel
theorem dX7_readsRow_35 : decode cX7_readsRow 35 = .ok (.iconst 0, 1) := by decide +kernel
theorem dX7_readsRow_36 : decode cX7_readsRow 36 = .ok (.ireturn, 1) := by decide +kernel
theorem dX7_readsRow_37 : decode cX7_readsRow 37 = .ok (.aload_n 0, 1) := by decide +kernel
theorem dX7_readsRow_38 : decode cX7_readsRow 38 = .ok (.bipush 45, 2) := by decide +kernel
theorem dX7_readsRow_40 : decode cX7_readsRow 40 = .ok (.invokevirtual 235, 3) := by decide +kernel
theorem dX7_readsRow_43 : decode cX7_readsRow 43 = .ok (.istore_n 1, 1) := by decide +kernel
theorem dX7_readsRow_44 : decode cX7_readsRow 44 = .ok (.aload_n 0, 1) := by decide +kernel
theorem dX7_readsRow_45 : decode cX7_readsRow 45 = .ok (.iconst 3, 1) := by decide +kernel
theorem dX7_readsRow_46 : decode cX7_readsRow 46 = .ok (.invokevirtual 229, 3) := by decide +kernel
theorem dX7_readsRow_49 : decode cX7_readsRow 49 = .ok (.ifCond .ne 5, 3) := by decide +kernel
theorem dX7_readsRow_52 : decode cX7_readsRow 52 = .ok (.iconst 0, 1) := by decide +kernel
theorem dX7_readsRow_53 : decode cX7_readsRow 53 = .ok (.ireturn, 1) := by decide +kernel
theorem dX7_readsRow_54 : decode cX7_readsRow 54 = .ok (.aload_n 0, 1) := by decide +kernel
theorem dX7_readsRow_55 : decode cX7_readsRow 55 = .ok (.iload_n 1, 1) := by decide +kernel
theorem dX7_readsRow_56 : decode cX7_readsRow 56 = .ok (.ifCond .eq 11, 3) := by decide +kernel
theorem dX7_readsRow_59 : decode cX7_readsRow 59 = .ok (.aload_n 0, 1) := by decide +kernel
theorem dX7_readsRow_60 : decode cX7_readsRow 60 = .ok (.getfield 219, 3) := by decide +kernel
theorem dX7_readsRow_63 : decode cX7_readsRow 63 = .ok (.ineg, 1) := by decide +kernel
theorem dX7_readsRow_64 : decode cX7_readsRow 64 = .ok (.goto 7, 3) := by decide +kernel
theorem dX7_readsRow_67 : decode cX7_readsRow 67 = .ok (.aload_n 0, 1) := by decide +kernel
theorem dX7_readsRow_68 : decode cX7_readsRow 68 = .ok (.getfield 219, 3) := by decide +kernel
theorem dX7_readsRow_71 : decode cX7_readsRow 71 = .ok (.putfield 238, 3) := by decide +kernel
theorem dX7_readsRow_74 : decode cX7_readsRow 74 = .ok (.aload_n 0, 1) := by decide +kernel
theorem dX7_readsRow_75 : decode cX7_readsRow 75 = .ok (.bipush 59, 2) := by decide +kernel
theorem dX7_readsRow_77 : decode cX7_readsRow 77 = .ok (.invokevirtual 235, 3) := by decide +kernel
theorem dX7_readsRow_80 : decode cX7_readsRow 80 = .ok (.ireturn, 1) := by decide +kernel
theorem dX7_hasFault_0 : decode cX7_hasFault 0 = .ok (.aload_n 0, 1) := by decide +kernel
theorem dX7_hasFault_1 : decode cX7_hasFault 1 = .ok (.getfield 7, 3) := by decide +kernel
theorem dX7_hasFault_4 : decode cX7_hasFault 4 = .ok (.iconst 0, 1) := by decide +kernel
theorem dX7_hasFault_5 : decode cX7_hasFault 5 = .ok (.iaload, 1) := by decide +kernel
theorem dX7_hasFault_6 : decode cX7_hasFault 6 = .ok (.istore_n 1, 1) := by decide +kernel
theorem dX7_hasFault_7 : decode cX7_hasFault 7 = .ok (.aload_n 0, 1) := by decide +kernel
theorem dX7_hasFault_8 : decode cX7_hasFault 8 = .ok (.iconst 0, 1) := by decide +kernel
theorem dX7_hasFault_9 : decode cX7_hasFault 9 = .ok (.putfield 226, 3) := by decide +kernel
theorem dX7_hasFault_12 : decode cX7_hasFault 12 = .ok (.aload_n 0, 1) := by decide +kernel
theorem dX7_hasFault_13 : decode cX7_hasFault 13 = .ok (.getfield 226, 3) := by decide +kernel
theorem dX7_hasFault_16 : decode cX7_hasFault 16 = .ok (.aload_n 0, 1) := by decide +kernel
theorem dX7_hasFault_17 : decode cX7_hasFault 17 = .ok (.getfield 205, 3) := by decide +kernel
theorem dX7_hasFault_20 : decode cX7_hasFault 20 = .ok (.if_icmp .ge 70, 3) := by decide +kernel
theorem dX7_hasFault_23 : decode cX7_hasFault 23 = .ok (.aload_n 0, 1) := by decide +kernel
theorem dX7_hasFault_24 : decode cX7_hasFault 24 = .ok (.invokevirtual 241, 3) := by decide +kernel
theorem dX7_hasFault_27 : decode cX7_hasFault 27 = .ok (.ifCond .ne 23, 3) := by decide +kernel
theorem dX7_hasFault_30 : decode cX7_hasFault 30 = .ok (.aload_n 0, 1) := by decide +kernel
theorem dX7_hasFault_31 : decode cX7_hasFault 31 = .ok (.iconst 1, 1) := by decide +kernel
theorem dX7_hasFault_32 : decode cX7_hasFault 32 = .ok (.putfield 245, 3) := by decide +kernel
theorem dX7_hasFault_35 : decode cX7_hasFault 35 = .ok (.aload_n 0, 1) := by decide +kernel
theorem dX7_hasFault_36 : decode cX7_hasFault 36 = .ok (.aload_n 0, 1) := by decide +kernel
theorem dX7_hasFault_37 : decode cX7_hasFault 37 = .ok (.getfield 216, 3) := by decide +kernel
theorem dX7_hasFault_40 : decode cX7_hasFault 40 = .ok (.aload_n 0, 1) := by decide +kernel
theorem dX7_hasFault_41 : decode cX7_hasFault 41 = .ok (.getfield 226, 3) := by decide +kernel
theorem dX7_hasFault_44 : decode cX7_hasFault 44 = .ok (.isub, 1) := by decide +kernel
theorem dX7_hasFault_45 : decode cX7_hasFault 45 = .ok (.putfield 248, 3) := by decide +kernel
theorem dX7_hasFault_48 : decode cX7_hasFault 48 = .ok (.iconst 1, 1) := by decide +kernel
theorem dX7_hasFault_49 : decode cX7_hasFault 49 = .ok (.ireturn, 1) := by decide +kernel
theorem dX7_hasFault_50 : decode cX7_hasFault 50 = .ok (.iload_n 1, 1) := by decide +kernel
theorem dX7_hasFault_51 : decode cX7_hasFault 51 = .ok (.bipush 100, 2) := by decide +kernel
theorem dX7_hasFault_53 : decode cX7_hasFault 53 = .ok (.if_icmp .ne 23, 3) := by decide +kernel
theorem dX7_hasFault_56 : decode cX7_hasFault 56 = .ok (.aload_n 0, 1) := by decide +kernel
theorem dX7_hasFault_57 : decode cX7_hasFault 57 = .ok (.iconst 2, 1) := by decide +kernel
theorem dX7_hasFault_58 : decode cX7_hasFault 58 = .ok (.putfield 245, 3) := by decide +kernel
theorem dX7_hasFault_61 : decode cX7_hasFault 61 = .ok (.aload_n 0, 1) := by decide +kernel
theorem dX7_hasFault_62 : decode cX7_hasFault 62 = .ok (.bipush 100, 2) := by decide +kernel
theorem dX7_hasFault_64 : decode cX7_hasFault 64 = .ok (.aload_n 0, 1) := by decide +kernel
theorem dX7_hasFault_65 : decode cX7_hasFault 65 = .ok (.getfield 7, 3) := by decide +kernel
theorem dX7_hasFault_68 : decode cX7_hasFault 68 = .ok (.iconst 0, 1) := by decide +kernel
theorem dX7_hasFault_69 : decode cX7_hasFault 69 = .ok (.iaload, 1) := by decide +kernel
theorem dX7_hasFault_70 : decode cX7_hasFault 70 = .ok (.isub, 1) := by decide +kernel
theorem dX7_hasFault_71 : decode cX7_hasFault 71 = .ok (.putfield 248, 3) := by decide +kernel
theorem dX7_hasFault_74 : decode cX7_hasFault 74 = .ok (.iconst 1, 1) := by decide +kernel
theorem dX7_hasFault_75 : decode cX7_hasFault 75 = .ok (.ireturn, 1) := by decide +kernel
theorem dX7_hasFault_76 : decode cX7_hasFault 76 = .ok (.iinc 1 1, 3) := by decide +kernel
theorem dX7_hasFault_79 : decode cX7_hasFault 79 = .ok (.aload_n 0, 1) := by decide +kernel
theorem dX7_hasFault_80 : decode cX7_hasFault 80 = .ok (.aload_n 0, 1) := by decide +kernel
theorem dX7_hasFault_81 : decode cX7_hasFault 81 = .ok (.getfield 216, 3) := by decide +kernel
theorem dX7_hasFault_84 : decode cX7_hasFault 84 = .ok (.putfield 226, 3) := by decide +kernel
theorem dX7_hasFault_87 : decode cX7_hasFault 87 = .ok (.goto (-75), 3) := by decide +kernel
theorem dX7_hasFault_90 : decode cX7_hasFault 90 = .ok (.iconst 0, 1) := by decide +kernel
theorem dX7_hasFault_91 : decode cX7_hasFault 91 = .ok (.ireturn, 1) := by decide +kernel
theorem dX7_fault_0 : decode cX7_fault 0 = .ok (.iload_n 1, 1) := by decide +kernel
theorem dX7_fault_1 : decode cX7_fault 1 = .ok (.i2l, 1) := by decide +kernel
theorem dX7_fault_2 : decode cX7_fault 2 = .ok (.lconst 0, 1) := by decide +kernel
theorem dX7_fault_3 : decode cX7_fault 3 = .ok (.ldc2_w 197, 3) := by decide +kernel
theorem dX7_fault_6 : decode cX7_fault 6 = .ok (.invokestatic 53, 3) := by decide +kernel
theorem dX7_fault_9 : decode cX7_fault 9 = .ok (.ifCond .ne 6, 3) := by decide +kernel
theorem dX7_fault_12 : decode cX7_fault 12 = .ok (.ldc 65, 2) := by decide +kernel
theorem dX7_fault_14 : decode cX7_fault 14 = .ok (.ireturn, 1) := by decide +kernel
theorem dX7_fault_15 : decode cX7_fault 15 = .ok (.aload_n 0, 1) := by decide +kernel
theorem dX7_fault_16 : decode cX7_fault 16 = .ok (.invokevirtual 251, 3) := by decide +kernel
theorem dX7_fault_19 : decode cX7_fault 19 = .ok (.ifCond .ne 6, 3) := by decide +kernel
theorem dX7_fault_22 : decode cX7_fault 22 = .ok (.ldc 88, 2) := by decide +kernel
theorem dX7_fault_24 : decode cX7_fault 24 = .ok (.ireturn, 1) := by decide +kernel
theorem dX7_fault_25 : decode cX7_fault 25 = .ok (.iload_n 1, 1) := by decide +kernel
theorem dX7_fault_26 : decode cX7_fault 26 = .ok (.ifCond .ne 10, 3) := by decide +kernel
theorem dX7_fault_29 : decode cX7_fault 29 = .ok (.aload_n 0, 1) := by decide +kernel
theorem dX7_fault_30 : decode cX7_fault 30 = .ok (.getfield 226, 3) := by decide +kernel
theorem dX7_fault_33 : decode cX7_fault 33 = .ok (.goto 19, 3) := by decide +kernel
theorem dX7_fault_36 : decode cX7_fault 36 = .ok (.iload_n 1, 1) := by decide +kernel
theorem dX7_fault_37 : decode cX7_fault 37 = .ok (.iconst 1, 1) := by decide +kernel
theorem dX7_fault_38 : decode cX7_fault 38 = .ok (.if_icmp .ne 10, 3) := by decide +kernel
theorem dX7_fault_41 : decode cX7_fault 41 = .ok (.aload_n 0, 1) := by decide +kernel
theorem dX7_fault_42 : decode cX7_fault 42 = .ok (.getfield 245, 3) := by decide +kernel
theorem dX7_fault_45 : decode cX7_fault 45 = .ok (.goto 7, 3) := by decide +kernel
theorem dX7_fault_48 : decode cX7_fault 48 = .ok (.aload_n 0, 1) := by decide +kernel
theorem dX7_fault_49 : decode cX7_fault 49 = .ok (.getfield 248, 3) := by decide +kernel
theorem dX7_fault_52 : decode cX7_fault 52 = .ok (.ireturn, 1) := by decide +kernel
theorem dX7_play_0 : decode cX7_play 0 = .ok (.aload_n 0, 1) := by decide +kernel
theorem dX7_play_1 : decode cX7_play 1 = .ok (.invokevirtual 251, 3) := by decide +kernel
theorem dX7_play_4 : decode cX7_play 4 = .ok (.ifCond .eq 6, 3) := by decide +kernel
theorem dX7_play_7 : decode cX7_play 7 = .ok (.ldc 74, 2) := by decide +kernel
theorem dX7_play_9 : decode cX7_play 9 = .ok (.ireturn, 1) := by decide +kernel
theorem dX7_play_10 : decode cX7_play 10 = .ok (.aload_n 0, 1) := by decide +kernel
theorem dX7_play_11 : decode cX7_play 11 = .ok (.invokevirtual 67, 3) := by decide +kernel
theorem dX7_play_14 : decode cX7_play 14 = .ok (.aload_n 0, 1) := by decide +kernel
theorem dX7_play_15 : decode cX7_play 15 = .ok (.iconst 0, 1) := by decide +kernel
theorem dX7_play_16 : decode cX7_play 16 = .ok (.putfield 226, 3) := by decide +kernel
theorem dX7_play_19 : decode cX7_play 19 = .ok (.aload_n 0, 1) := by decide +kernel
theorem dX7_play_20 : decode cX7_play 20 = .ok (.getfield 226, 3) := by decide +kernel
theorem dX7_play_23 : decode cX7_play 23 = .ok (.aload_n 0, 1) := by decide +kernel
theorem dX7_play_24 : decode cX7_play 24 = .ok (.getfield 205, 3) := by decide +kernel
theorem dX7_play_27 : decode cX7_play 27 = .ok (.if_icmp .ge 33, 3) := by decide +kernel
theorem dX7_play_30 : decode cX7_play 30 = .ok (.aload_n 0, 1) := by decide +kernel
theorem dX7_play_31 : decode cX7_play 31 = .ok (.invokevirtual 241, 3) := by decide +kernel
theorem dX7_play_34 : decode cX7_play 34 = .ok (.ifCond .eq 26, 3) := by decide +kernel
theorem dX7_play_37 : decode cX7_play 37 = .ok (.aload_n 0, 1) := by decide +kernel
theorem dX7_play_38 : decode cX7_play 38 = .ok (.aload_n 0, 1) := by decide +kernel
theorem dX7_play_39 : decode cX7_play 39 = .ok (.getfield 232, 3) := by decide +kernel
theorem dX7_play_42 : decode cX7_play 42 = .ok (.aload_n 0, 1) := by decide +kernel
theorem dX7_play_43 : decode cX7_play 43 = .ok (.getfield 238, 3) := by decide +kernel
theorem dX7_play_46 : decode cX7_play 46 = .ok (.invokevirtual 70, 3) := by decide +kernel
theorem dX7_play_49 : decode cX7_play 49 = .ok (.aload_n 0, 1) := by decide +kernel
theorem dX7_play_50 : decode cX7_play 50 = .ok (.aload_n 0, 1) := by decide +kernel
theorem dX7_play_51 : decode cX7_play 51 = .ok (.getfield 216, 3) := by decide +kernel
theorem dX7_play_54 : decode cX7_play 54 = .ok (.putfield 226, 3) := by decide +kernel
theorem dX7_play_57 : decode cX7_play 57 = .ok (.goto (-38), 3) := by decide +kernel
theorem dX7_play_60 : decode cX7_play 60 = .ok (.aload_n 0, 1) := by decide +kernel
theorem dX7_play_61 : decode cX7_play 61 = .ok (.getfield 7, 3) := by decide +kernel
theorem dX7_play_64 : decode cX7_play 64 = .ok (.iconst 0, 1) := by decide +kernel
theorem dX7_play_65 : decode cX7_play 65 = .ok (.iaload, 1) := by decide +kernel
theorem dX7_play_66 : decode cX7_play 66 = .ok (.ireturn, 1) := by decide +kernel
theorem dJ9_max_7cf53_0 : decode cJ9_max_7cf53 0 = .ok (.iload_n 0, 1) := by decide +kernel
theorem dJ9_max_7cf53_1 : decode cJ9_max_7cf53 1 = .ok (.iload_n 1, 1) := by decide +kernel
theorem dJ9_max_7cf53_2 : decode cJ9_max_7cf53 2 = .ok (.if_icmp .lt 7, 3) := by decide +kernel
theorem dJ9_max_7cf53_5 : decode cJ9_max_7cf53 5 = .ok (.iload_n 0, 1) := by decide +kernel
theorem dJ9_max_7cf53_6 : decode cJ9_max_7cf53 6 = .ok (.goto 4, 3) := by decide +kernel
theorem dJ9_max_7cf53_9 : decode cJ9_max_7cf53 9 = .ok (.iload_n 1, 1) := by decide +kernel
theorem dJ9_max_7cf53_10 : decode cJ9_max_7cf53 10 = .ok (.ireturn, 1) := by decide +kernel
theorem dJ9_min_7cf53_0 : decode cJ9_min_7cf53 0 = .ok (.iload_n 0, 1) := by decide +kernel
theorem dJ9_min_7cf53_1 : decode cJ9_min_7cf53 1 = .ok (.iload_n 1, 1) := by decide +kernel
theorem dJ9_min_7cf53_2 : decode cJ9_min_7cf53 2 = .ok (.if_icmp .gt 7, 3) := by decide +kernel
theorem dJ9_min_7cf53_5 : decode cJ9_min_7cf53 5 = .ok (.iload_n 0, 1) := by decide +kernel
theorem dJ9_min_7cf53_6 : decode cJ9_min_7cf53 6 = .ok (.goto 4, 3) := by decide +kernel
theorem dJ9_min_7cf53_9 : decode cJ9_min_7cf53 9 = .ok (.iload_n 1, 1) := by decide +kernel
theorem dJ9_min_7cf53_10 : decode cJ9_min_7cf53 10 = .ok (.ireturn, 1) := by decide +kernel
theorem dJ7_rangeCheck_23922_0 : decode cJ7_rangeCheck_23922 0 = .ok (.iload_n 1, 1) := by decide +kernel
theorem dJ7_rangeCheck_23922_1 : decode cJ7_rangeCheck_23922 1 = .ok (.iload_n 2, 1) := by decide +kernel
theorem dJ7_rangeCheck_23922_2 : decode cJ7_rangeCheck_23922 2 = .ok (.if_icmp .le 44, 3) := by decide +kernel
theorem dJ7_rangeCheck_23922_5 : decode cJ7_rangeCheck_23922 5 = .ok (.new 43, 3) := by decide +kernel
theorem dJ7_rangeCheck_23922_8 : decode cJ7_rangeCheck_23922 8 = .ok (.dup, 1) := by decide +kernel
theorem dJ7_rangeCheck_23922_9 : decode cJ7_rangeCheck_23922 9 = .ok (.new 45, 3) := by decide +kernel
theorem dJ7_rangeCheck_23922_12 : decode cJ7_rangeCheck_23922 12 = .ok (.dup, 1) := by decide +kernel
theorem dJ7_rangeCheck_23922_13 : decode cJ7_rangeCheck_23922 13 = .ok (.invokespecial 47, 3) := by decide +kernel
theorem dJ7_rangeCheck_23922_16 : decode cJ7_rangeCheck_23922 16 = .ok (.ldc 48, 2) := by decide +kernel
theorem dJ7_rangeCheck_23922_18 : decode cJ7_rangeCheck_23922 18 = .ok (.invokevirtual 50, 3) := by decide +kernel
theorem dJ7_rangeCheck_23922_21 : decode cJ7_rangeCheck_23922 21 = .ok (.iload_n 1, 1) := by decide +kernel
theorem dJ7_rangeCheck_23922_22 : decode cJ7_rangeCheck_23922 22 = .ok (.invokevirtual 54, 3) := by decide +kernel
theorem dJ7_rangeCheck_23922_25 : decode cJ7_rangeCheck_23922 25 = .ok (.ldc 57, 2) := by decide +kernel
theorem dJ7_rangeCheck_23922_27 : decode cJ7_rangeCheck_23922 27 = .ok (.invokevirtual 50, 3) := by decide +kernel
theorem dJ7_rangeCheck_23922_30 : decode cJ7_rangeCheck_23922 30 = .ok (.iload_n 2, 1) := by decide +kernel
theorem dJ7_rangeCheck_23922_31 : decode cJ7_rangeCheck_23922 31 = .ok (.invokevirtual 54, 3) := by decide +kernel
theorem dJ7_rangeCheck_23922_34 : decode cJ7_rangeCheck_23922 34 = .ok (.ldc 59, 2) := by decide +kernel
theorem dJ7_rangeCheck_23922_36 : decode cJ7_rangeCheck_23922 36 = .ok (.invokevirtual 50, 3) := by decide +kernel
theorem dJ7_rangeCheck_23922_39 : decode cJ7_rangeCheck_23922 39 = .ok (.invokevirtual 61, 3) := by decide +kernel
theorem dJ7_rangeCheck_23922_42 : decode cJ7_rangeCheck_23922 42 = .ok (.invokespecial 65, 3) := by decide +kernel
theorem dJ7_rangeCheck_23922_45 : decode cJ7_rangeCheck_23922 45 = .ok (.athrow, 1) := by decide +kernel
theorem dJ7_rangeCheck_23922_46 : decode cJ7_rangeCheck_23922 46 = .ok (.iload_n 1, 1) := by decide +kernel
theorem dJ7_rangeCheck_23922_47 : decode cJ7_rangeCheck_23922 47 = .ok (.ifCond .ge 12, 3) := by decide +kernel
theorem dJ7_rangeCheck_23922_50 : decode cJ7_rangeCheck_23922 50 = .ok (.new 68, 3) := by decide +kernel
theorem dJ7_rangeCheck_23922_53 : decode cJ7_rangeCheck_23922 53 = .ok (.dup, 1) := by decide +kernel
theorem dJ7_rangeCheck_23922_54 : decode cJ7_rangeCheck_23922 54 = .ok (.iload_n 1, 1) := by decide +kernel
theorem dJ7_rangeCheck_23922_55 : decode cJ7_rangeCheck_23922 55 = .ok (.invokespecial 70, 3) := by decide +kernel
theorem dJ7_rangeCheck_23922_58 : decode cJ7_rangeCheck_23922 58 = .ok (.athrow, 1) := by decide +kernel
theorem dJ7_rangeCheck_23922_59 : decode cJ7_rangeCheck_23922 59 = .ok (.iload_n 2, 1) := by decide +kernel
theorem dJ7_rangeCheck_23922_60 : decode cJ7_rangeCheck_23922 60 = .ok (.iload_n 0, 1) := by decide +kernel
theorem dJ7_rangeCheck_23922_61 : decode cJ7_rangeCheck_23922 61 = .ok (.if_icmp .le 12, 3) := by decide +kernel
theorem dJ7_rangeCheck_23922_64 : decode cJ7_rangeCheck_23922 64 = .ok (.new 68, 3) := by decide +kernel
theorem dJ7_rangeCheck_23922_67 : decode cJ7_rangeCheck_23922 67 = .ok (.dup, 1) := by decide +kernel
theorem dJ7_rangeCheck_23922_68 : decode cJ7_rangeCheck_23922 68 = .ok (.iload_n 2, 1) := by decide +kernel
theorem dJ7_rangeCheck_23922_69 : decode cJ7_rangeCheck_23922 69 = .ok (.invokespecial 70, 3) := by decide +kernel
theorem dJ7_rangeCheck_23922_72 : decode cJ7_rangeCheck_23922 72 = .ok (.athrow, 1) := by decide +kernel
theorem dJ7_rangeCheck_23922_73 : decode cJ7_rangeCheck_23922 73 = .ok (.return_, 1) := by decide +kernel
theorem dJ7_fill_fda19_0 : decode cJ7_fill_fda19 0 = .ok (.aload_n 0, 1) := by decide +kernel
theorem dJ7_fill_fda19_1 : decode cJ7_fill_fda19 1 = .ok (.arraylength, 1) := by decide +kernel
theorem dJ7_fill_fda19_2 : decode cJ7_fill_fda19 2 = .ok (.iload_n 1, 1) := by decide +kernel
theorem dJ7_fill_fda19_3 : decode cJ7_fill_fda19 3 = .ok (.iload_n 2, 1) := by decide +kernel
theorem dJ7_fill_fda19_4 : decode cJ7_fill_fda19 4 = .ok (.invokestatic 13, 3) := by decide +kernel
theorem dJ7_fill_fda19_7 : decode cJ7_fill_fda19 7 = .ok (.iload_n 1, 1) := by decide +kernel
theorem dJ7_fill_fda19_8 : decode cJ7_fill_fda19 8 = .ok (.istore 4, 2) := by decide +kernel
theorem dJ7_fill_fda19_10 : decode cJ7_fill_fda19 10 = .ok (.iload 4, 2) := by decide +kernel
theorem dJ7_fill_fda19_12 : decode cJ7_fill_fda19 12 = .ok (.iload_n 2, 1) := by decide +kernel
theorem dJ7_fill_fda19_13 : decode cJ7_fill_fda19 13 = .ok (.if_icmp .ge 14, 3) := by decide +kernel
theorem dJ7_fill_fda19_16 : decode cJ7_fill_fda19 16 = .ok (.aload_n 0, 1) := by decide +kernel
theorem dJ7_fill_fda19_17 : decode cJ7_fill_fda19 17 = .ok (.iload 4, 2) := by decide +kernel
theorem dJ7_fill_fda19_19 : decode cJ7_fill_fda19 19 = .ok (.iload_n 3, 1) := by decide +kernel
theorem dJ7_fill_fda19_20 : decode cJ7_fill_fda19 20 = .ok (.iastore, 1) := by decide +kernel
theorem dJ7_fill_fda19_21 : decode cJ7_fill_fda19 21 = .ok (.iinc 4 1, 3) := by decide +kernel
theorem dJ7_fill_fda19_24 : decode cJ7_fill_fda19 24 = .ok (.goto (-14), 3) := by decide +kernel
theorem dJ7_fill_fda19_27 : decode cJ7_fill_fda19 27 = .ok (.return_, 1) := by decide +kernel
theorem dL_law_0 : decode cL_law 0 = .ok (.new 7, 3) := by decide +kernel
theorem dL_law_3 : decode cL_law 3 = .ok (.dup, 1) := by decide +kernel
theorem dL_law_4 : decode cL_law 4 = .ok (.invokespecial 9, 3) := by decide +kernel
theorem dL_law_7 : decode cL_law 7 = .ok (.astore_n 1, 1) := by decide +kernel
theorem dL_law_8 : decode cL_law 8 = .ok (.new 10, 3) := by decide +kernel
theorem dL_law_11 : decode cL_law 11 = .ok (.dup, 1) := by decide +kernel
theorem dL_law_12 : decode cL_law 12 = .ok (.invokespecial 12, 3) := by decide +kernel
theorem dL_law_15 : decode cL_law 15 = .ok (.astore_n 2, 1) := by decide +kernel
theorem dL_law_16 : decode cL_law 16 = .ok (.iconst 0, 1) := by decide +kernel
theorem dL_law_17 : decode cL_law 17 = .ok (.istore_n 3, 1) := by decide +kernel
theorem dL_law_18 : decode cL_law 18 = .ok (.iload_n 3, 1) := by decide +kernel
theorem dL_law_19 : decode cL_law 19 = .ok (.aload_n 0, 1) := by decide +kernel
theorem dL_law_20 : decode cL_law 20 = .ok (.arraylength, 1) := by decide +kernel
theorem dL_law_21 : decode cL_law 21 = .ok (.iconst 4, 1) := by decide +kernel
theorem dL_law_22 : decode cL_law 22 = .ok (.isub, 1) := by decide +kernel
theorem dL_law_23 : decode cL_law 23 = .ok (.if_icmp .gt 611, 3) := by decide +kernel
theorem dL_law_26 : decode cL_law 26 = .ok (.aload_n 0, 1) := by decide +kernel
theorem dL_law_27 : decode cL_law 27 = .ok (.iload_n 3, 1) := by decide +kernel
theorem dL_law_28 : decode cL_law 28 = .ok (.iaload, 1) := by decide +kernel
theorem dL_law_29 : decode cL_law 29 = .ok (.bipush 31, 2) := by decide +kernel
theorem dL_law_31 : decode cL_law 31 = .ok (.iand, 1) := by decide +kernel
theorem dL_law_32 : decode cL_law 32 = .ok (.tableswitch 596 0 19 #[96, 129, 152, 165, 198, 231, 264, 287, 330, 363, 386, 419, 452, 465, 488, 511, 524, 547, 560, 583], 96) := by decide +kernel
theorem dL_law_128 : decode cL_law 128 = .ok (.aload_n 1, 1) := by decide +kernel
theorem dL_law_129 : decode cL_law 129 = .ok (.aload_n 0, 1) := by decide +kernel
theorem dL_law_130 : decode cL_law 130 = .ok (.iload_n 3, 1) := by decide +kernel
theorem dL_law_131 : decode cL_law 131 = .ok (.iconst 1, 1) := by decide +kernel
theorem dL_law_132 : decode cL_law 132 = .ok (.iadd, 1) := by decide +kernel
theorem dL_law_133 : decode cL_law 133 = .ok (.iaload, 1) := by decide +kernel
theorem dL_law_134 : decode cL_law 134 = .ok (.aload_n 0, 1) := by decide +kernel
theorem dL_law_135 : decode cL_law 135 = .ok (.iload_n 3, 1) := by decide +kernel
theorem dL_law_136 : decode cL_law 136 = .ok (.iconst 2, 1) := by decide +kernel
theorem dL_law_137 : decode cL_law 137 = .ok (.iadd, 1) := by decide +kernel
theorem dL_law_138 : decode cL_law 138 = .ok (.iaload, 1) := by decide +kernel
theorem dL_law_139 : decode cL_law 139 = .ok (.invokevirtual 13, 3) := by decide +kernel
theorem dL_law_142 : decode cL_law 142 = .ok (.aload_n 2, 1) := by decide +kernel
theorem dL_law_143 : decode cL_law 143 = .ok (.aload_n 0, 1) := by decide +kernel
theorem dL_law_144 : decode cL_law 144 = .ok (.iload_n 3, 1) := by decide +kernel
theorem dL_law_145 : decode cL_law 145 = .ok (.iconst 1, 1) := by decide +kernel
theorem dL_law_146 : decode cL_law 146 = .ok (.iadd, 1) := by decide +kernel
theorem dL_law_147 : decode cL_law 147 = .ok (.iaload, 1) := by decide +kernel
theorem dL_law_148 : decode cL_law 148 = .ok (.aload_n 0, 1) := by decide +kernel
theorem dL_law_149 : decode cL_law 149 = .ok (.iload_n 3, 1) := by decide +kernel
theorem dL_law_150 : decode cL_law 150 = .ok (.iconst 2, 1) := by decide +kernel
theorem dL_law_151 : decode cL_law 151 = .ok (.iadd, 1) := by decide +kernel
theorem dL_law_152 : decode cL_law 152 = .ok (.iaload, 1) := by decide +kernel
theorem dL_law_153 : decode cL_law 153 = .ok (.invokevirtual 17, 3) := by decide +kernel
theorem dL_law_156 : decode cL_law 156 = .ok (.if_icmp .eq 472, 3) := by decide +kernel
theorem dL_law_159 : decode cL_law 159 = .ok (.iconst 0, 1) := by decide +kernel
theorem dL_law_160 : decode cL_law 160 = .ok (.ireturn, 1) := by decide +kernel
theorem dL_law_161 : decode cL_law 161 = .ok (.aload_n 1, 1) := by decide +kernel
theorem dL_law_162 : decode cL_law 162 = .ok (.aload_n 0, 1) := by decide +kernel
theorem dL_law_163 : decode cL_law 163 = .ok (.iload_n 3, 1) := by decide +kernel
theorem dL_law_164 : decode cL_law 164 = .ok (.iconst 1, 1) := by decide +kernel
theorem dL_law_165 : decode cL_law 165 = .ok (.iadd, 1) := by decide +kernel
theorem dL_law_166 : decode cL_law 166 = .ok (.iaload, 1) := by decide +kernel
theorem dL_law_167 : decode cL_law 167 = .ok (.invokevirtual 18, 3) := by decide +kernel
theorem dL_law_170 : decode cL_law 170 = .ok (.aload_n 2, 1) := by decide +kernel
theorem dL_law_171 : decode cL_law 171 = .ok (.aload_n 0, 1) := by decide +kernel
theorem dL_law_172 : decode cL_law 172 = .ok (.iload_n 3, 1) := by decide +kernel
theorem dL_law_173 : decode cL_law 173 = .ok (.iconst 1, 1) := by decide +kernel
theorem dL_law_174 : decode cL_law 174 = .ok (.iadd, 1) := by decide +kernel
theorem dL_law_175 : decode cL_law 175 = .ok (.iaload, 1) := by decide +kernel
theorem dL_law_176 : decode cL_law 176 = .ok (.invokevirtual 22, 3) := by decide +kernel
theorem dL_law_179 : decode cL_law 179 = .ok (.if_icmp .eq 449, 3) := by decide +kernel
theorem dL_law_182 : decode cL_law 182 = .ok (.iconst 0, 1) := by decide +kernel
theorem dL_law_183 : decode cL_law 183 = .ok (.ireturn, 1) := by decide +kernel
theorem dL_law_184 : decode cL_law 184 = .ok (.aload_n 1, 1) := by decide +kernel
theorem dL_law_185 : decode cL_law 185 = .ok (.invokevirtual 23, 3) := by decide +kernel
theorem dL_law_188 : decode cL_law 188 = .ok (.aload_n 2, 1) := by decide +kernel
theorem dL_law_189 : decode cL_law 189 = .ok (.invokevirtual 27, 3) := by decide +kernel
theorem dL_law_192 : decode cL_law 192 = .ok (.if_icmp .eq 436, 3) := by decide +kernel
theorem dL_law_195 : decode cL_law 195 = .ok (.iconst 0, 1) := by decide +kernel
theorem dL_law_196 : decode cL_law 196 = .ok (.ireturn, 1) := by decide +kernel
theorem dL_law_197 : decode cL_law 197 = .ok (.aload_n 1, 1) := by decide +kernel
theorem dL_law_198 : decode cL_law 198 = .ok (.aload_n 0, 1) := by decide +kernel
theorem dL_law_199 : decode cL_law 199 = .ok (.iload_n 3, 1) := by decide +kernel
theorem dL_law_200 : decode cL_law 200 = .ok (.iconst 1, 1) := by decide +kernel
theorem dL_law_201 : decode cL_law 201 = .ok (.iadd, 1) := by decide +kernel
theorem dL_law_202 : decode cL_law 202 = .ok (.iaload, 1) := by decide +kernel
theorem dL_law_203 : decode cL_law 203 = .ok (.aload_n 0, 1) := by decide +kernel
theorem dL_law_204 : decode cL_law 204 = .ok (.iload_n 3, 1) := by decide +kernel
theorem dL_law_205 : decode cL_law 205 = .ok (.iconst 2, 1) := by decide +kernel
theorem dL_law_206 : decode cL_law 206 = .ok (.iadd, 1) := by decide +kernel
theorem dL_law_207 : decode cL_law 207 = .ok (.iaload, 1) := by decide +kernel
theorem dL_law_208 : decode cL_law 208 = .ok (.invokevirtual 28, 3) := by decide +kernel
theorem dL_law_211 : decode cL_law 211 = .ok (.aload_n 2, 1) := by decide +kernel
theorem dL_law_212 : decode cL_law 212 = .ok (.aload_n 0, 1) := by decide +kernel
theorem dL_law_213 : decode cL_law 213 = .ok (.iload_n 3, 1) := by decide +kernel
theorem dL_law_214 : decode cL_law 214 = .ok (.iconst 1, 1) := by decide +kernel
theorem dL_law_215 : decode cL_law 215 = .ok (.iadd, 1) := by decide +kernel
theorem dL_law_216 : decode cL_law 216 = .ok (.iaload, 1) := by decide +kernel
theorem dL_law_217 : decode cL_law 217 = .ok (.aload_n 0, 1) := by decide +kernel
theorem dL_law_218 : decode cL_law 218 = .ok (.iload_n 3, 1) := by decide +kernel
theorem dL_law_219 : decode cL_law 219 = .ok (.iconst 2, 1) := by decide +kernel
theorem dL_law_220 : decode cL_law 220 = .ok (.iadd, 1) := by decide +kernel
theorem dL_law_221 : decode cL_law 221 = .ok (.iaload, 1) := by decide +kernel
theorem dL_law_222 : decode cL_law 222 = .ok (.invokevirtual 31, 3) := by decide +kernel
theorem dL_law_225 : decode cL_law 225 = .ok (.if_icmp .eq 403, 3) := by decide +kernel
theorem dL_law_228 : decode cL_law 228 = .ok (.iconst 0, 1) := by decide +kernel
theorem dL_law_229 : decode cL_law 229 = .ok (.ireturn, 1) := by decide +kernel
theorem dL_law_230 : decode cL_law 230 = .ok (.aload_n 1, 1) := by decide +kernel
theorem dL_law_231 : decode cL_law 231 = .ok (.aload_n 0, 1) := by decide +kernel
theorem dL_law_232 : decode cL_law 232 = .ok (.iload_n 3, 1) := by decide +kernel
theorem dL_law_233 : decode cL_law 233 = .ok (.iconst 1, 1) := by decide +kernel
theorem dL_law_234 : decode cL_law 234 = .ok (.iadd, 1) := by decide +kernel
theorem dL_law_235 : decode cL_law 235 = .ok (.iaload, 1) := by decide +kernel
theorem dL_law_236 : decode cL_law 236 = .ok (.aload_n 0, 1) := by decide +kernel
theorem dL_law_237 : decode cL_law 237 = .ok (.iload_n 3, 1) := by decide +kernel
theorem dL_law_238 : decode cL_law 238 = .ok (.iconst 2, 1) := by decide +kernel
theorem dL_law_239 : decode cL_law 239 = .ok (.iadd, 1) := by decide +kernel
theorem dL_law_240 : decode cL_law 240 = .ok (.iaload, 1) := by decide +kernel
theorem dL_law_241 : decode cL_law 241 = .ok (.invokevirtual 32, 3) := by decide +kernel
theorem dL_law_244 : decode cL_law 244 = .ok (.aload_n 2, 1) := by decide +kernel
theorem dL_law_245 : decode cL_law 245 = .ok (.aload_n 0, 1) := by decide +kernel
theorem dL_law_246 : decode cL_law 246 = .ok (.iload_n 3, 1) := by decide +kernel
theorem dL_law_247 : decode cL_law 247 = .ok (.iconst 1, 1) := by decide +kernel
theorem dL_law_248 : decode cL_law 248 = .ok (.iadd, 1) := by decide +kernel
theorem dL_law_249 : decode cL_law 249 = .ok (.iaload, 1) := by decide +kernel
theorem dL_law_250 : decode cL_law 250 = .ok (.aload_n 0, 1) := by decide +kernel
theorem dL_law_251 : decode cL_law 251 = .ok (.iload_n 3, 1) := by decide +kernel
theorem dL_law_252 : decode cL_law 252 = .ok (.iconst 2, 1) := by decide +kernel
theorem dL_law_253 : decode cL_law 253 = .ok (.iadd, 1) := by decide +kernel
theorem dL_law_254 : decode cL_law 254 = .ok (.iaload, 1) := by decide +kernel
theorem dL_law_255 : decode cL_law 255 = .ok (.invokevirtual 35, 3) := by decide +kernel
theorem dL_law_258 : decode cL_law 258 = .ok (.if_icmp .eq 370, 3) := by decide +kernel
theorem dL_law_261 : decode cL_law 261 = .ok (.iconst 0, 1) := by decide +kernel
theorem dL_law_262 : decode cL_law 262 = .ok (.ireturn, 1) := by decide +kernel
theorem dL_law_263 : decode cL_law 263 = .ok (.aload_n 1, 1) := by decide +kernel
theorem dL_law_264 : decode cL_law 264 = .ok (.aload_n 0, 1) := by decide +kernel
theorem dL_law_265 : decode cL_law 265 = .ok (.iload_n 3, 1) := by decide +kernel
theorem dL_law_266 : decode cL_law 266 = .ok (.iconst 1, 1) := by decide +kernel
theorem dL_law_267 : decode cL_law 267 = .ok (.iadd, 1) := by decide +kernel
theorem dL_law_268 : decode cL_law 268 = .ok (.iaload, 1) := by decide +kernel
theorem dL_law_269 : decode cL_law 269 = .ok (.aload_n 0, 1) := by decide +kernel
theorem dL_law_270 : decode cL_law 270 = .ok (.iload_n 3, 1) := by decide +kernel
theorem dL_law_271 : decode cL_law 271 = .ok (.iconst 2, 1) := by decide +kernel
theorem dL_law_272 : decode cL_law 272 = .ok (.iadd, 1) := by decide +kernel
theorem dL_law_273 : decode cL_law 273 = .ok (.iaload, 1) := by decide +kernel
theorem dL_law_274 : decode cL_law 274 = .ok (.invokevirtual 36, 3) := by decide +kernel
theorem dL_law_277 : decode cL_law 277 = .ok (.aload_n 2, 1) := by decide +kernel
theorem dL_law_278 : decode cL_law 278 = .ok (.aload_n 0, 1) := by decide +kernel
theorem dL_law_279 : decode cL_law 279 = .ok (.iload_n 3, 1) := by decide +kernel
theorem dL_law_280 : decode cL_law 280 = .ok (.iconst 1, 1) := by decide +kernel
theorem dL_law_281 : decode cL_law 281 = .ok (.iadd, 1) := by decide +kernel
theorem dL_law_282 : decode cL_law 282 = .ok (.iaload, 1) := by decide +kernel
theorem dL_law_283 : decode cL_law 283 = .ok (.aload_n 0, 1) := by decide +kernel
theorem dL_law_284 : decode cL_law 284 = .ok (.iload_n 3, 1) := by decide +kernel
theorem dL_law_285 : decode cL_law 285 = .ok (.iconst 2, 1) := by decide +kernel
theorem dL_law_286 : decode cL_law 286 = .ok (.iadd, 1) := by decide +kernel
theorem dL_law_287 : decode cL_law 287 = .ok (.iaload, 1) := by decide +kernel
theorem dL_law_288 : decode cL_law 288 = .ok (.invokevirtual 39, 3) := by decide +kernel
theorem dL_law_291 : decode cL_law 291 = .ok (.if_icmp .eq 337, 3) := by decide +kernel
theorem dL_law_294 : decode cL_law 294 = .ok (.iconst 0, 1) := by decide +kernel
theorem dL_law_295 : decode cL_law 295 = .ok (.ireturn, 1) := by decide +kernel
theorem dL_law_296 : decode cL_law 296 = .ok (.aload_n 1, 1) := by decide +kernel
theorem dL_law_297 : decode cL_law 297 = .ok (.aload_n 0, 1) := by decide +kernel
theorem dL_law_298 : decode cL_law 298 = .ok (.iload_n 3, 1) := by decide +kernel
theorem dL_law_299 : decode cL_law 299 = .ok (.iconst 1, 1) := by decide +kernel
theorem dL_law_300 : decode cL_law 300 = .ok (.iadd, 1) := by decide +kernel
theorem dL_law_301 : decode cL_law 301 = .ok (.iaload, 1) := by decide +kernel
theorem dL_law_302 : decode cL_law 302 = .ok (.invokevirtual 40, 3) := by decide +kernel
theorem dL_law_305 : decode cL_law 305 = .ok (.aload_n 2, 1) := by decide +kernel
theorem dL_law_306 : decode cL_law 306 = .ok (.aload_n 0, 1) := by decide +kernel
theorem dL_law_307 : decode cL_law 307 = .ok (.iload_n 3, 1) := by decide +kernel
theorem dL_law_308 : decode cL_law 308 = .ok (.iconst 1, 1) := by decide +kernel
theorem dL_law_309 : decode cL_law 309 = .ok (.iadd, 1) := by decide +kernel
theorem dL_law_310 : decode cL_law 310 = .ok (.iaload, 1) := by decide +kernel
theorem dL_law_311 : decode cL_law 311 = .ok (.invokevirtual 43, 3) := by decide +kernel
theorem dL_law_314 : decode cL_law 314 = .ok (.if_icmp .eq 314, 3) := by decide +kernel
theorem dL_law_317 : decode cL_law 317 = .ok (.iconst 0, 1) := by decide +kernel
theorem dL_law_318 : decode cL_law 318 = .ok (.ireturn, 1) := by decide +kernel
theorem dL_law_319 : decode cL_law 319 = .ok (.aload_n 1, 1) := by decide +kernel
theorem dL_law_320 : decode cL_law 320 = .ok (.aload_n 0, 1) := by decide +kernel
theorem dL_law_321 : decode cL_law 321 = .ok (.iload_n 3, 1) := by decide +kernel
theorem dL_law_322 : decode cL_law 322 = .ok (.iconst 1, 1) := by decide +kernel
theorem dL_law_323 : decode cL_law 323 = .ok (.iadd, 1) := by decide +kernel
theorem dL_law_324 : decode cL_law 324 = .ok (.iaload, 1) := by decide +kernel
theorem dL_law_325 : decode cL_law 325 = .ok (.aload_n 0, 1) := by decide +kernel
theorem dL_law_326 : decode cL_law 326 = .ok (.iload_n 3, 1) := by decide +kernel
theorem dL_law_327 : decode cL_law 327 = .ok (.iconst 2, 1) := by decide +kernel
theorem dL_law_328 : decode cL_law 328 = .ok (.iadd, 1) := by decide +kernel
theorem dL_law_329 : decode cL_law 329 = .ok (.iaload, 1) := by decide +kernel
theorem dL_law_330 : decode cL_law 330 = .ok (.aload_n 0, 1) := by decide +kernel
theorem dL_law_331 : decode cL_law 331 = .ok (.iload_n 3, 1) := by decide +kernel
theorem dL_law_332 : decode cL_law 332 = .ok (.iconst 3, 1) := by decide +kernel
theorem dL_law_333 : decode cL_law 333 = .ok (.iadd, 1) := by decide +kernel
theorem dL_law_334 : decode cL_law 334 = .ok (.iaload, 1) := by decide +kernel
theorem dL_law_335 : decode cL_law 335 = .ok (.invokevirtual 44, 3) := by decide +kernel
theorem dL_law_338 : decode cL_law 338 = .ok (.aload_n 2, 1) := by decide +kernel
theorem dL_law_339 : decode cL_law 339 = .ok (.aload_n 0, 1) := by decide +kernel
theorem dL_law_340 : decode cL_law 340 = .ok (.iload_n 3, 1) := by decide +kernel
theorem dL_law_341 : decode cL_law 341 = .ok (.iconst 1, 1) := by decide +kernel
theorem dL_law_342 : decode cL_law 342 = .ok (.iadd, 1) := by decide +kernel
theorem dL_law_343 : decode cL_law 343 = .ok (.iaload, 1) := by decide +kernel
theorem dL_law_344 : decode cL_law 344 = .ok (.aload_n 0, 1) := by decide +kernel
theorem dL_law_345 : decode cL_law 345 = .ok (.iload_n 3, 1) := by decide +kernel
theorem dL_law_346 : decode cL_law 346 = .ok (.iconst 2, 1) := by decide +kernel
theorem dL_law_347 : decode cL_law 347 = .ok (.iadd, 1) := by decide +kernel
theorem dL_law_348 : decode cL_law 348 = .ok (.iaload, 1) := by decide +kernel
theorem dL_law_349 : decode cL_law 349 = .ok (.aload_n 0, 1) := by decide +kernel
theorem dL_law_350 : decode cL_law 350 = .ok (.iload_n 3, 1) := by decide +kernel
theorem dL_law_351 : decode cL_law 351 = .ok (.iconst 3, 1) := by decide +kernel
theorem dL_law_352 : decode cL_law 352 = .ok (.iadd, 1) := by decide +kernel
theorem dL_law_353 : decode cL_law 353 = .ok (.iaload, 1) := by decide +kernel
theorem dL_law_354 : decode cL_law 354 = .ok (.invokevirtual 48, 3) := by decide +kernel
theorem dL_law_357 : decode cL_law 357 = .ok (.if_icmp .eq 271, 3) := by decide +kernel
theorem dL_law_360 : decode cL_law 360 = .ok (.iconst 0, 1) := by decide +kernel
theorem dL_law_361 : decode cL_law 361 = .ok (.ireturn, 1) := by decide +kernel
theorem dL_law_362 : decode cL_law 362 = .ok (.aload_n 1, 1) := by decide +kernel
theorem dL_law_363 : decode cL_law 363 = .ok (.aload_n 0, 1) := by decide +kernel
theorem dL_law_364 : decode cL_law 364 = .ok (.iload_n 3, 1) := by decide +kernel
theorem dL_law_365 : decode cL_law 365 = .ok (.iconst 1, 1) := by decide +kernel
theorem dL_law_366 : decode cL_law 366 = .ok (.iadd, 1) := by decide +kernel
theorem dL_law_367 : decode cL_law 367 = .ok (.iaload, 1) := by decide +kernel
theorem dL_law_368 : decode cL_law 368 = .ok (.aload_n 0, 1) := by decide +kernel
theorem dL_law_369 : decode cL_law 369 = .ok (.iload_n 3, 1) := by decide +kernel
theorem dL_law_370 : decode cL_law 370 = .ok (.iconst 2, 1) := by decide +kernel
theorem dL_law_371 : decode cL_law 371 = .ok (.iadd, 1) := by decide +kernel
theorem dL_law_372 : decode cL_law 372 = .ok (.iaload, 1) := by decide +kernel
theorem dL_law_373 : decode cL_law 373 = .ok (.invokevirtual 49, 3) := by decide +kernel
theorem dL_law_376 : decode cL_law 376 = .ok (.aload_n 2, 1) := by decide +kernel
theorem dL_law_377 : decode cL_law 377 = .ok (.aload_n 0, 1) := by decide +kernel
theorem dL_law_378 : decode cL_law 378 = .ok (.iload_n 3, 1) := by decide +kernel
theorem dL_law_379 : decode cL_law 379 = .ok (.iconst 1, 1) := by decide +kernel
theorem dL_law_380 : decode cL_law 380 = .ok (.iadd, 1) := by decide +kernel
theorem dL_law_381 : decode cL_law 381 = .ok (.iaload, 1) := by decide +kernel
theorem dL_law_382 : decode cL_law 382 = .ok (.aload_n 0, 1) := by decide +kernel
theorem dL_law_383 : decode cL_law 383 = .ok (.iload_n 3, 1) := by decide +kernel
theorem dL_law_384 : decode cL_law 384 = .ok (.iconst 2, 1) := by decide +kernel
theorem dL_law_385 : decode cL_law 385 = .ok (.iadd, 1) := by decide +kernel
theorem dL_law_386 : decode cL_law 386 = .ok (.iaload, 1) := by decide +kernel
theorem dL_law_387 : decode cL_law 387 = .ok (.invokevirtual 52, 3) := by decide +kernel
theorem dL_law_390 : decode cL_law 390 = .ok (.if_icmp .eq 238, 3) := by decide +kernel
theorem dL_law_393 : decode cL_law 393 = .ok (.iconst 0, 1) := by decide +kernel
theorem dL_law_394 : decode cL_law 394 = .ok (.ireturn, 1) := by decide +kernel
theorem dL_law_395 : decode cL_law 395 = .ok (.aload_n 1, 1) := by decide +kernel
theorem dL_law_396 : decode cL_law 396 = .ok (.aload_n 0, 1) := by decide +kernel
theorem dL_law_397 : decode cL_law 397 = .ok (.iload_n 3, 1) := by decide +kernel
theorem dL_law_398 : decode cL_law 398 = .ok (.iconst 1, 1) := by decide +kernel
theorem dL_law_399 : decode cL_law 399 = .ok (.iadd, 1) := by decide +kernel
theorem dL_law_400 : decode cL_law 400 = .ok (.iaload, 1) := by decide +kernel
theorem dL_law_401 : decode cL_law 401 = .ok (.invokevirtual 53, 3) := by decide +kernel
theorem dL_law_404 : decode cL_law 404 = .ok (.aload_n 2, 1) := by decide +kernel
theorem dL_law_405 : decode cL_law 405 = .ok (.aload_n 0, 1) := by decide +kernel
theorem dL_law_406 : decode cL_law 406 = .ok (.iload_n 3, 1) := by decide +kernel
theorem dL_law_407 : decode cL_law 407 = .ok (.iconst 1, 1) := by decide +kernel
theorem dL_law_408 : decode cL_law 408 = .ok (.iadd, 1) := by decide +kernel
theorem dL_law_409 : decode cL_law 409 = .ok (.iaload, 1) := by decide +kernel
theorem dL_law_410 : decode cL_law 410 = .ok (.invokevirtual 56, 3) := by decide +kernel
theorem dL_law_413 : decode cL_law 413 = .ok (.if_icmp .eq 215, 3) := by decide +kernel
theorem dL_law_416 : decode cL_law 416 = .ok (.iconst 0, 1) := by decide +kernel
theorem dL_law_417 : decode cL_law 417 = .ok (.ireturn, 1) := by decide +kernel
theorem dL_law_418 : decode cL_law 418 = .ok (.aload_n 1, 1) := by decide +kernel
theorem dL_law_419 : decode cL_law 419 = .ok (.aload_n 0, 1) := by decide +kernel
theorem dL_law_420 : decode cL_law 420 = .ok (.iload_n 3, 1) := by decide +kernel
theorem dL_law_421 : decode cL_law 421 = .ok (.iconst 1, 1) := by decide +kernel
theorem dL_law_422 : decode cL_law 422 = .ok (.iadd, 1) := by decide +kernel
theorem dL_law_423 : decode cL_law 423 = .ok (.iaload, 1) := by decide +kernel
theorem dL_law_424 : decode cL_law 424 = .ok (.aload_n 0, 1) := by decide +kernel
theorem dL_law_425 : decode cL_law 425 = .ok (.iload_n 3, 1) := by decide +kernel
theorem dL_law_426 : decode cL_law 426 = .ok (.iconst 2, 1) := by decide +kernel
theorem dL_law_427 : decode cL_law 427 = .ok (.iadd, 1) := by decide +kernel
theorem dL_law_428 : decode cL_law 428 = .ok (.iaload, 1) := by decide +kernel
theorem dL_law_429 : decode cL_law 429 = .ok (.invokevirtual 57, 3) := by decide +kernel
theorem dL_law_432 : decode cL_law 432 = .ok (.aload_n 2, 1) := by decide +kernel
theorem dL_law_433 : decode cL_law 433 = .ok (.aload_n 0, 1) := by decide +kernel
theorem dL_law_434 : decode cL_law 434 = .ok (.iload_n 3, 1) := by decide +kernel
theorem dL_law_435 : decode cL_law 435 = .ok (.iconst 1, 1) := by decide +kernel
theorem dL_law_436 : decode cL_law 436 = .ok (.iadd, 1) := by decide +kernel
theorem dL_law_437 : decode cL_law 437 = .ok (.iaload, 1) := by decide +kernel
theorem dL_law_438 : decode cL_law 438 = .ok (.aload_n 0, 1) := by decide +kernel
theorem dL_law_439 : decode cL_law 439 = .ok (.iload_n 3, 1) := by decide +kernel
theorem dL_law_440 : decode cL_law 440 = .ok (.iconst 2, 1) := by decide +kernel
theorem dL_law_441 : decode cL_law 441 = .ok (.iadd, 1) := by decide +kernel
theorem dL_law_442 : decode cL_law 442 = .ok (.iaload, 1) := by decide +kernel
theorem dL_law_443 : decode cL_law 443 = .ok (.invokevirtual 60, 3) := by decide +kernel
theorem dL_law_446 : decode cL_law 446 = .ok (.if_icmp .eq 182, 3) := by decide +kernel
theorem dL_law_449 : decode cL_law 449 = .ok (.iconst 0, 1) := by decide +kernel
theorem dL_law_450 : decode cL_law 450 = .ok (.ireturn, 1) := by decide +kernel
theorem dL_law_451 : decode cL_law 451 = .ok (.aload_n 1, 1) := by decide +kernel
theorem dL_law_452 : decode cL_law 452 = .ok (.aload_n 0, 1) := by decide +kernel
theorem dL_law_453 : decode cL_law 453 = .ok (.iload_n 3, 1) := by decide +kernel
theorem dL_law_454 : decode cL_law 454 = .ok (.iconst 1, 1) := by decide +kernel
theorem dL_law_455 : decode cL_law 455 = .ok (.iadd, 1) := by decide +kernel
theorem dL_law_456 : decode cL_law 456 = .ok (.iaload, 1) := by decide +kernel
theorem dL_law_457 : decode cL_law 457 = .ok (.aload_n 0, 1) := by decide +kernel
theorem dL_law_458 : decode cL_law 458 = .ok (.iload_n 3, 1) := by decide +kernel
theorem dL_law_459 : decode cL_law 459 = .ok (.iconst 2, 1) := by decide +kernel
theorem dL_law_460 : decode cL_law 460 = .ok (.iadd, 1) := by decide +kernel
theorem dL_law_461 : decode cL_law 461 = .ok (.iaload, 1) := by decide +kernel
theorem dL_law_462 : decode cL_law 462 = .ok (.invokevirtual 61, 3) := by decide +kernel
theorem dL_law_465 : decode cL_law 465 = .ok (.aload_n 2, 1) := by decide +kernel
theorem dL_law_466 : decode cL_law 466 = .ok (.aload_n 0, 1) := by decide +kernel
theorem dL_law_467 : decode cL_law 467 = .ok (.iload_n 3, 1) := by decide +kernel
theorem dL_law_468 : decode cL_law 468 = .ok (.iconst 1, 1) := by decide +kernel
theorem dL_law_469 : decode cL_law 469 = .ok (.iadd, 1) := by decide +kernel
theorem dL_law_470 : decode cL_law 470 = .ok (.iaload, 1) := by decide +kernel
theorem dL_law_471 : decode cL_law 471 = .ok (.aload_n 0, 1) := by decide +kernel
theorem dL_law_472 : decode cL_law 472 = .ok (.iload_n 3, 1) := by decide +kernel
theorem dL_law_473 : decode cL_law 473 = .ok (.iconst 2, 1) := by decide +kernel
theorem dL_law_474 : decode cL_law 474 = .ok (.iadd, 1) := by decide +kernel
theorem dL_law_475 : decode cL_law 475 = .ok (.iaload, 1) := by decide +kernel
theorem dL_law_476 : decode cL_law 476 = .ok (.invokevirtual 64, 3) := by decide +kernel
theorem dL_law_479 : decode cL_law 479 = .ok (.if_icmp .eq 149, 3) := by decide +kernel
theorem dL_law_482 : decode cL_law 482 = .ok (.iconst 0, 1) := by decide +kernel
theorem dL_law_483 : decode cL_law 483 = .ok (.ireturn, 1) := by decide +kernel
theorem dL_law_484 : decode cL_law 484 = .ok (.aload_n 1, 1) := by decide +kernel
theorem dL_law_485 : decode cL_law 485 = .ok (.invokevirtual 65, 3) := by decide +kernel
theorem dL_law_488 : decode cL_law 488 = .ok (.aload_n 2, 1) := by decide +kernel
theorem dL_law_489 : decode cL_law 489 = .ok (.invokevirtual 68, 3) := by decide +kernel
theorem dL_law_492 : decode cL_law 492 = .ok (.if_icmp .eq 136, 3) := by decide +kernel
theorem dL_law_495 : decode cL_law 495 = .ok (.iconst 0, 1) := by decide +kernel
theorem dL_law_496 : decode cL_law 496 = .ok (.ireturn, 1) := by decide +kernel
theorem dL_law_497 : decode cL_law 497 = .ok (.aload_n 1, 1) := by decide +kernel
theorem dL_law_498 : decode cL_law 498 = .ok (.aload_n 0, 1) := by decide +kernel
theorem dL_law_499 : decode cL_law 499 = .ok (.iload_n 3, 1) := by decide +kernel
theorem dL_law_500 : decode cL_law 500 = .ok (.iconst 1, 1) := by decide +kernel
theorem dL_law_501 : decode cL_law 501 = .ok (.iadd, 1) := by decide +kernel
theorem dL_law_502 : decode cL_law 502 = .ok (.iaload, 1) := by decide +kernel
theorem dL_law_503 : decode cL_law 503 = .ok (.invokevirtual 69, 3) := by decide +kernel
theorem dL_law_506 : decode cL_law 506 = .ok (.aload_n 2, 1) := by decide +kernel
theorem dL_law_507 : decode cL_law 507 = .ok (.aload_n 0, 1) := by decide +kernel
theorem dL_law_508 : decode cL_law 508 = .ok (.iload_n 3, 1) := by decide +kernel
theorem dL_law_509 : decode cL_law 509 = .ok (.iconst 1, 1) := by decide +kernel
theorem dL_law_510 : decode cL_law 510 = .ok (.iadd, 1) := by decide +kernel
theorem dL_law_511 : decode cL_law 511 = .ok (.iaload, 1) := by decide +kernel
theorem dL_law_512 : decode cL_law 512 = .ok (.invokevirtual 72, 3) := by decide +kernel
theorem dL_law_515 : decode cL_law 515 = .ok (.if_icmp .eq 113, 3) := by decide +kernel
theorem dL_law_518 : decode cL_law 518 = .ok (.iconst 0, 1) := by decide +kernel
theorem dL_law_519 : decode cL_law 519 = .ok (.ireturn, 1) := by decide +kernel
theorem dL_law_520 : decode cL_law 520 = .ok (.aload_n 1, 1) := by decide +kernel
theorem dL_law_521 : decode cL_law 521 = .ok (.aload_n 0, 1) := by decide +kernel
theorem dL_law_522 : decode cL_law 522 = .ok (.iload_n 3, 1) := by decide +kernel
theorem dL_law_523 : decode cL_law 523 = .ok (.iconst 1, 1) := by decide +kernel
theorem dL_law_524 : decode cL_law 524 = .ok (.iadd, 1) := by decide +kernel
theorem dL_law_525 : decode cL_law 525 = .ok (.iaload, 1) := by decide +kernel
theorem dL_law_526 : decode cL_law 526 = .ok (.invokevirtual 73, 3) := by decide +kernel
theorem dL_law_529 : decode cL_law 529 = .ok (.aload_n 2, 1) := by decide +kernel
theorem dL_law_530 : decode cL_law 530 = .ok (.aload_n 0, 1) := by decide +kernel
theorem dL_law_531 : decode cL_law 531 = .ok (.iload_n 3, 1) := by decide +kernel
theorem dL_law_532 : decode cL_law 532 = .ok (.iconst 1, 1) := by decide +kernel
theorem dL_law_533 : decode cL_law 533 = .ok (.iadd, 1) := by decide +kernel
theorem dL_law_534 : decode cL_law 534 = .ok (.iaload, 1) := by decide +kernel
theorem dL_law_535 : decode cL_law 535 = .ok (.invokevirtual 76, 3) := by decide +kernel
theorem dL_law_538 : decode cL_law 538 = .ok (.if_icmp .eq 90, 3) := by decide +kernel
theorem dL_law_541 : decode cL_law 541 = .ok (.iconst 0, 1) := by decide +kernel
theorem dL_law_542 : decode cL_law 542 = .ok (.ireturn, 1) := by decide +kernel
theorem dL_law_543 : decode cL_law 543 = .ok (.aload_n 1, 1) := by decide +kernel
theorem dL_law_544 : decode cL_law 544 = .ok (.invokevirtual 77, 3) := by decide +kernel
theorem dL_law_547 : decode cL_law 547 = .ok (.aload_n 2, 1) := by decide +kernel
theorem dL_law_548 : decode cL_law 548 = .ok (.invokevirtual 80, 3) := by decide +kernel
theorem dL_law_551 : decode cL_law 551 = .ok (.if_icmp .eq 77, 3) := by decide +kernel
theorem dL_law_554 : decode cL_law 554 = .ok (.iconst 0, 1) := by decide +kernel
theorem dL_law_555 : decode cL_law 555 = .ok (.ireturn, 1) := by decide +kernel
theorem dL_law_556 : decode cL_law 556 = .ok (.aload_n 1, 1) := by decide +kernel
theorem dL_law_557 : decode cL_law 557 = .ok (.aload_n 0, 1) := by decide +kernel
theorem dL_law_558 : decode cL_law 558 = .ok (.iload_n 3, 1) := by decide +kernel
theorem dL_law_559 : decode cL_law 559 = .ok (.iconst 1, 1) := by decide +kernel
theorem dL_law_560 : decode cL_law 560 = .ok (.iadd, 1) := by decide +kernel
theorem dL_law_561 : decode cL_law 561 = .ok (.iaload, 1) := by decide +kernel
theorem dL_law_562 : decode cL_law 562 = .ok (.invokevirtual 81, 3) := by decide +kernel
theorem dL_law_565 : decode cL_law 565 = .ok (.aload_n 2, 1) := by decide +kernel
theorem dL_law_566 : decode cL_law 566 = .ok (.aload_n 0, 1) := by decide +kernel
theorem dL_law_567 : decode cL_law 567 = .ok (.iload_n 3, 1) := by decide +kernel
theorem dL_law_568 : decode cL_law 568 = .ok (.iconst 1, 1) := by decide +kernel
theorem dL_law_569 : decode cL_law 569 = .ok (.iadd, 1) := by decide +kernel
theorem dL_law_570 : decode cL_law 570 = .ok (.iaload, 1) := by decide +kernel
theorem dL_law_571 : decode cL_law 571 = .ok (.invokevirtual 84, 3) := by decide +kernel
theorem dL_law_574 : decode cL_law 574 = .ok (.if_icmp .eq 54, 3) := by decide +kernel
theorem dL_law_577 : decode cL_law 577 = .ok (.iconst 0, 1) := by decide +kernel
theorem dL_law_578 : decode cL_law 578 = .ok (.ireturn, 1) := by decide +kernel
theorem dL_law_579 : decode cL_law 579 = .ok (.aload_n 1, 1) := by decide +kernel
theorem dL_law_580 : decode cL_law 580 = .ok (.invokevirtual 85, 3) := by decide +kernel
theorem dL_law_583 : decode cL_law 583 = .ok (.aload_n 2, 1) := by decide +kernel
theorem dL_law_584 : decode cL_law 584 = .ok (.invokevirtual 88, 3) := by decide +kernel
theorem dL_law_587 : decode cL_law 587 = .ok (.if_icmp .eq 41, 3) := by decide +kernel
theorem dL_law_590 : decode cL_law 590 = .ok (.iconst 0, 1) := by decide +kernel
theorem dL_law_591 : decode cL_law 591 = .ok (.ireturn, 1) := by decide +kernel
theorem dL_law_592 : decode cL_law 592 = .ok (.aload_n 1, 1) := by decide +kernel
theorem dL_law_593 : decode cL_law 593 = .ok (.aload_n 0, 1) := by decide +kernel
theorem dL_law_594 : decode cL_law 594 = .ok (.iload_n 3, 1) := by decide +kernel
theorem dL_law_595 : decode cL_law 595 = .ok (.iconst 1, 1) := by decide +kernel
theorem dL_law_596 : decode cL_law 596 = .ok (.iadd, 1) := by decide +kernel
theorem dL_law_597 : decode cL_law 597 = .ok (.iaload, 1) := by decide +kernel
theorem dL_law_598 : decode cL_law 598 = .ok (.invokevirtual 89, 3) := by decide +kernel
theorem dL_law_601 : decode cL_law 601 = .ok (.aload_n 2, 1) := by decide +kernel
theorem dL_law_602 : decode cL_law 602 = .ok (.aload_n 0, 1) := by decide +kernel
theorem dL_law_603 : decode cL_law 603 = .ok (.iload_n 3, 1) := by decide +kernel
theorem dL_law_604 : decode cL_law 604 = .ok (.iconst 1, 1) := by decide +kernel
theorem dL_law_605 : decode cL_law 605 = .ok (.iadd, 1) := by decide +kernel
theorem dL_law_606 : decode cL_law 606 = .ok (.iaload, 1) := by decide +kernel
theorem dL_law_607 : decode cL_law 607 = .ok (.invokevirtual 92, 3) := by decide +kernel
theorem dL_law_610 : decode cL_law 610 = .ok (.if_icmp .eq 18, 3) := by decide +kernel
theorem dL_law_613 : decode cL_law 613 = .ok (.iconst 0, 1) := by decide +kernel
theorem dL_law_614 : decode cL_law 614 = .ok (.ireturn, 1) := by decide +kernel
theorem dL_law_615 : decode cL_law 615 = .ok (.aload_n 1, 1) := by decide +kernel
theorem dL_law_616 : decode cL_law 616 = .ok (.invokevirtual 93, 3) := by decide +kernel
theorem dL_law_619 : decode cL_law 619 = .ok (.aload_n 2, 1) := by decide +kernel
theorem dL_law_620 : decode cL_law 620 = .ok (.invokevirtual 96, 3) := by decide +kernel
theorem dL_law_623 : decode cL_law 623 = .ok (.if_icmp .eq 5, 3) := by decide +kernel
theorem dL_law_626 : decode cL_law 626 = .ok (.iconst 0, 1) := by decide +kernel
theorem dL_law_627 : decode cL_law 627 = .ok (.ireturn, 1) := by decide +kernel
theorem dL_law_628 : decode cL_law 628 = .ok (.iinc 3 4, 3) := by decide +kernel
theorem dL_law_631 : decode cL_law 631 = .ok (.goto (-613), 3) := by decide +kernel
theorem dL_law_634 : decode cL_law 634 = .ok (.iconst 1, 1) := by decide +kernel
theorem dL_law_635 : decode cL_law 635 = .ok (.ireturn, 1) := by decide +kernel
