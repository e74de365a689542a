theorem dX8_init_34 : decode cX8_init 34 = .ok (.putfield 22, 3) := by decide +kernel
theorem dX8_init_37 : decode cX8_init 37 = .ok (.aload_n 0, 1) := by decide +kernel
theorem dX8_init_38 : decode cX8_init 38 = .ok (.iconst 2, 1) := by decide +kernel
theorem dX8_init_39 : decode cX8_init 39 = .ok (.anewarray 7, 3) := by decide +kernel
theorem dX8_init_42 : decode cX8_init 42 = .ok (.putfield 26, 3) := by decide +kernel
theorem dX8_init_45 : decode cX8_init 45 = .ok (.aload_n 0, 1) := by decide +kernel
theorem dX8_init_46 : decode cX8_init 46 = .ok (.new 30, 3) := by decide +kernel
theorem dX8_init_49 : decode cX8_init 49 = .ok (.dup, 1) := by decide +kernel
theorem dX8_init_50 : decode cX8_init 50 = .ok (.invokespecial 32, 3) := by decide +kernel
theorem dX8_init_53 : decode cX8_init 53 = .ok (.putfield 33, 3) := by decide +kernel
theorem dX8_init_56 : decode cX8_init 56 = .ok (.aload_n 0, 1) := by decide +kernel
theorem dX8_init_57 : decode cX8_init 57 = .ok (.aload_n 0, 1) := by decide +kernel
theorem dX8_init_58 : decode cX8_init 58 = .ok (.getfield 33, 3) := by decide +kernel
theorem dX8_init_61 : decode cX8_init 61 = .ok (.getfield 37, 3) := by decide +kernel
theorem dX8_init_64 : decode cX8_init 64 = .ok (.putfield 41, 3) := by decide +kernel
theorem dX8_init_67 : decode cX8_init 67 = .ok (.return_, 1) := by decide +kernel
theorem dX8_set_0 : decode cX8_set 0 = .ok (.iload_n 1, 1) := by decide +kernel
theorem dX8_set_1 : decode cX8_set 1 = .ok (.iload_n 2, 1) := by decide +kernel
theorem dX8_set_2 : decode cX8_set 2 = .ok (.invokestatic 42, 3) := by decide +kernel
theorem dX8_set_5 : decode cX8_set 5 = .ok (.ifCond .ne 6, 3) := by decide +kernel
theorem dX8_set_8 : decode cX8_set 8 = .ok (.bipush (-2), 2) := by decide +kernel
theorem dX8_set_10 : decode cX8_set 10 = .ok (.ireturn, 1) := by decide +kernel
theorem dX8_set_11 : decode cX8_set 11 = .ok (.iload_n 1, 1) := by decide +kernel
theorem dX8_set_12 : decode cX8_set 12 = .ok (.ifCond .eq 8, 3) := by decide +kernel
theorem dX8_set_15 : decode cX8_set 15 = .ok (.iload_n 1, 1) := by decide +kernel
theorem dX8_set_16 : decode cX8_set 16 = .ok (.iconst 1, 1) := by decide +kernel
theorem dX8_set_17 : decode cX8_set 17 = .ok (.if_icmp .ne 19, 3) := by decide +kernel
theorem dX8_set_20 : decode cX8_set 20 = .ok (.aload_n 0, 1) := by decide +kernel
theorem dX8_set_21 : decode cX8_set 21 = .ok (.getfield 10, 3) := by decide +kernel
theorem dX8_set_24 : decode cX8_set 24 = .ok (.getfield 46, 3) := by decide +kernel
theorem dX8_set_27 : decode cX8_set 27 = .ok (.invokevirtual 50, 3) := by decide +kernel
theorem dX8_set_30 : decode cX8_set 30 = .ok (.ifCond .le 6, 3) := by decide +kernel
theorem dX8_set_33 : decode cX8_set 33 = .ok (.bipush (-5), 2) := by decide +kernel
theorem dX8_set_35 : decode cX8_set 35 = .ok (.ireturn, 1) := by decide +kernel
theorem dX8_set_36 : decode cX8_set 36 = .ok (.aload_n 0, 1) := by decide +kernel
theorem dX8_set_37 : decode cX8_set 37 = .ok (.getfield 22, 3) := by decide +kernel
theorem dX8_set_40 : decode cX8_set 40 = .ok (.aload_n 0, 1) := by decide +kernel
theorem dX8_set_41 : decode cX8_set 41 = .ok (.getfield 10, 3) := by decide +kernel
theorem dX8_set_44 : decode cX8_set 44 = .ok (.invokevirtual 56, 3) := by decide +kernel
theorem dX8_set_47 : decode cX8_set 47 = .ok (.aload_n 0, 1) := by decide +kernel
theorem dX8_set_48 : decode cX8_set 48 = .ok (.getfield 10, 3) := by decide +kernel
theorem dX8_set_51 : decode cX8_set 51 = .ok (.getfield 60, 3) := by decide +kernel
theorem dX8_set_54 : decode cX8_set 54 = .ok (.iload_n 1, 1) := by decide +kernel
theorem dX8_set_55 : decode cX8_set 55 = .ok (.invokevirtual 64, 3) := by decide +kernel
theorem dX8_set_58 : decode cX8_set 58 = .ok (.istore_n 3, 1) := by decide +kernel
theorem dX8_set_59 : decode cX8_set 59 = .ok (.aload_n 0, 1) := by decide +kernel
theorem dX8_set_60 : decode cX8_set 60 = .ok (.getfield 10, 3) := by decide +kernel
theorem dX8_set_63 : decode cX8_set 63 = .ok (.getfield 60, 3) := by decide +kernel
theorem dX8_set_66 : decode cX8_set 66 = .ok (.iload_n 1, 1) := by decide +kernel
theorem dX8_set_67 : decode cX8_set 67 = .ok (.iload_n 2, 1) := by decide +kernel
theorem dX8_set_68 : decode cX8_set 68 = .ok (.invokevirtual 70, 3) := by decide +kernel
theorem dX8_set_71 : decode cX8_set 71 = .ok (.iload_n 3, 1) := by decide +kernel
theorem dX8_set_72 : decode cX8_set 72 = .ok (.ireturn, 1) := by decide +kernel
theorem dX8_read_0 : decode cX8_read 0 = .ok (.aload_n 0, 1) := by decide +kernel
theorem dX8_read_1 : decode cX8_read 1 = .ok (.iconst 0, 1) := by decide +kernel
theorem dX8_read_2 : decode cX8_read 2 = .ok (.iload_n 1, 1) := by decide +kernel
theorem dX8_read_3 : decode cX8_read 3 = .ok (.iload_n 2, 1) := by decide +kernel
theorem dX8_read_4 : decode cX8_read 4 = .ok (.iconst 0, 1) := by decide +kernel
theorem dX8_read_5 : decode cX8_read 5 = .ok (.iconst 1, 1) := by decide +kernel
theorem dX8_read_6 : decode cX8_read 6 = .ok (.invokevirtual 74, 3) := by decide +kernel
theorem dX8_read_9 : decode cX8_read 9 = .ok (.ireturn, 1) := by decide +kernel
theorem dX8_change_0 : decode cX8_change 0 = .ok (.aload_n 0, 1) := by decide +kernel
theorem dX8_change_1 : decode cX8_change 1 = .ok (.iconst 1, 1) := by decide +kernel
theorem dX8_change_2 : decode cX8_change 2 = .ok (.iload_n 1, 1) := by decide +kernel
theorem dX8_change_3 : decode cX8_change 3 = .ok (.iload_n 2, 1) := by decide +kernel
theorem dX8_change_4 : decode cX8_change 4 = .ok (.iload_n 3, 1) := by decide +kernel
theorem dX8_change_5 : decode cX8_change 5 = .ok (.iconst 1, 1) := by decide +kernel
theorem dX8_change_6 : decode cX8_change 6 = .ok (.invokevirtual 74, 3) := by decide +kernel
theorem dX8_change_9 : decode cX8_change 9 = .ok (.ireturn, 1) := by decide +kernel
theorem dX8_putBack_0 : decode cX8_putBack 0 = .ok (.aload_n 0, 1) := by decide +kernel
theorem dX8_putBack_1 : decode cX8_putBack 1 = .ok (.iconst 2, 1) := by decide +kernel
theorem dX8_putBack_2 : decode cX8_putBack 2 = .ok (.iload_n 1, 1) := by decide +kernel
theorem dX8_putBack_3 : decode cX8_putBack 3 = .ok (.iload_n 2, 1) := by decide +kernel
theorem dX8_putBack_4 : decode cX8_putBack 4 = .ok (.iconst 0, 1) := by decide +kernel
theorem dX8_putBack_5 : decode cX8_putBack 5 = .ok (.iconst 1, 1) := by decide +kernel
theorem dX8_putBack_6 : decode cX8_putBack 6 = .ok (.invokevirtual 74, 3) := by decide +kernel
theorem dX8_putBack_9 : decode cX8_putBack 9 = .ok (.ireturn, 1) := by decide +kernel
theorem dX8_recall_0 : decode cX8_recall 0 = .ok (.aload_n 0, 1) := by decide +kernel
theorem dX8_recall_1 : decode cX8_recall 1 = .ok (.iconst 3, 1) := by decide +kernel
theorem dX8_recall_2 : decode cX8_recall 2 = .ok (.iconst 0, 1) := by decide +kernel
theorem dX8_recall_3 : decode cX8_recall 3 = .ok (.iload_n 1, 1) := by decide +kernel
theorem dX8_recall_4 : decode cX8_recall 4 = .ok (.iconst 0, 1) := by decide +kernel
theorem dX8_recall_5 : decode cX8_recall 5 = .ok (.iconst 1, 1) := by decide +kernel
theorem dX8_recall_6 : decode cX8_recall 6 = .ok (.invokevirtual 74, 3) := by decide +kernel
theorem dX8_recall_9 : decode cX8_recall 9 = .ok (.ireturn, 1) := by decide +kernel
theorem dX8_happen_0 : decode cX8_happen 0 = .ok (.aload_n 0, 1) := by decide +kernel
theorem dX8_happen_1 : decode cX8_happen 1 = .ok (.getfield 10, 3) := by decide +kernel
theorem dX8_happen_4 : decode cX8_happen 4 = .ok (.iload_n 1, 1) := by decide +kernel
theorem dX8_happen_5 : decode cX8_happen 5 = .ok (.iload_n 2, 1) := by decide +kernel
theorem dX8_happen_6 : decode cX8_happen 6 = .ok (.iload_n 3, 1) := by decide +kernel
theorem dX8_happen_7 : decode cX8_happen 7 = .ok (.iload 4, 2) := by decide +kernel
theorem dX8_happen_9 : decode cX8_happen 9 = .ok (.invokevirtual 78, 3) := by decide +kernel
theorem dX8_happen_12 : decode cX8_happen 12 = .ok (.istore 6, 2) := by decide +kernel
theorem dX8_happen_14 : decode cX8_happen 14 = .ok (.iload 6, 2) := by decide +kernel
theorem dX8_happen_16 : decode cX8_happen 16 = .ok (.ifCond .eq 6, 3) := by decide +kernel
theorem dX8_happen_19 : decode cX8_happen 19 = .ok (.iload 6, 2) := by decide +kernel
theorem dX8_happen_21 : decode cX8_happen 21 = .ok (.ireturn, 1) := by decide +kernel
theorem dX8_happen_22 : decode cX8_happen 22 = .ok (.iload 5, 2) := by decide +kernel
theorem dX8_happen_24 : decode cX8_happen 24 = .ok (.ifCond .eq 14, 3) := by decide +kernel
theorem dX8_happen_27 : decode cX8_happen 27 = .ok (.aload_n 0, 1) := by decide +kernel
theorem dX8_happen_28 : decode cX8_happen 28 = .ok (.getfield 22, 3) := by decide +kernel
theorem dX8_happen_31 : decode cX8_happen 31 = .ok (.aload_n 0, 1) := by decide +kernel
theorem dX8_happen_32 : decode cX8_happen 32 = .ok (.getfield 10, 3) := by decide +kernel
theorem dX8_happen_35 : decode cX8_happen 35 = .ok (.invokevirtual 56, 3) := by decide +kernel
theorem dX8_happen_38 : decode cX8_happen 38 = .ok (.iload_n 1, 1) := by decide +kernel
theorem dX8_happen_39 : decode cX8_happen 39 = .ok (.tableswitch 94 0 2 #[25, 48, 73], 25) := by decide +kernel
theorem dX8_happen_64 : decode cX8_happen 64 = .ok (.aload_n 0, 1) := by decide +kernel
theorem dX8_happen_65 : decode cX8_happen 65 = .ok (.getfield 10, 3) := by decide +kernel
theorem dX8_happen_68 : decode cX8_happen 68 = .ok (.getfield 82, 3) := by decide +kernel
theorem dX8_happen_71 : decode cX8_happen 71 = .ok (.iload_n 1, 1) := by decide +kernel
theorem dX8_happen_72 : decode cX8_happen 72 = .ok (.iload_n 2, 1) := by decide +kernel
theorem dX8_happen_73 : decode cX8_happen 73 = .ok (.iload_n 3, 1) := by decide +kernel
theorem dX8_happen_74 : decode cX8_happen 74 = .ok (.invokevirtual 86, 3) := by decide +kernel
theorem dX8_happen_77 : decode cX8_happen 77 = .ok (.aload_n 0, 1) := by decide +kernel
theorem dX8_happen_78 : decode cX8_happen 78 = .ok (.getfield 10, 3) := by decide +kernel
theorem dX8_happen_81 : decode cX8_happen 81 = .ok (.iload_n 2, 1) := by decide +kernel
theorem dX8_happen_82 : decode cX8_happen 82 = .ok (.iload_n 3, 1) := by decide +kernel
theorem dX8_happen_83 : decode cX8_happen 83 = .ok (.invokevirtual 92, 3) := by decide +kernel
theorem dX8_happen_86 : decode cX8_happen 86 = .ok (.ireturn, 1) := by decide +kernel
theorem dX8_happen_87 : decode cX8_happen 87 = .ok (.aload_n 0, 1) := by decide +kernel
theorem dX8_happen_88 : decode cX8_happen 88 = .ok (.getfield 10, 3) := by decide +kernel
theorem dX8_happen_91 : decode cX8_happen 91 = .ok (.getfield 82, 3) := by decide +kernel
theorem dX8_happen_94 : decode cX8_happen 94 = .ok (.iload_n 1, 1) := by decide +kernel
theorem dX8_happen_95 : decode cX8_happen 95 = .ok (.iload_n 2, 1) := by decide +kernel
theorem dX8_happen_96 : decode cX8_happen 96 = .ok (.iload_n 3, 1) := by decide +kernel
theorem dX8_happen_97 : decode cX8_happen 97 = .ok (.invokevirtual 86, 3) := by decide +kernel
theorem dX8_happen_100 : decode cX8_happen 100 = .ok (.aload_n 0, 1) := by decide +kernel
theorem dX8_happen_101 : decode cX8_happen 101 = .ok (.getfield 10, 3) := by decide +kernel
theorem dX8_happen_104 : decode cX8_happen 104 = .ok (.iload_n 2, 1) := by decide +kernel
theorem dX8_happen_105 : decode cX8_happen 105 = .ok (.iload_n 3, 1) := by decide +kernel
theorem dX8_happen_106 : decode cX8_happen 106 = .ok (.iload 4, 2) := by decide +kernel
theorem dX8_happen_108 : decode cX8_happen 108 = .ok (.invokevirtual 96, 3) := by decide +kernel
theorem dX8_happen_111 : decode cX8_happen 111 = .ok (.ireturn, 1) := by decide +kernel
theorem dX8_happen_112 : decode cX8_happen 112 = .ok (.aload_n 0, 1) := by decide +kernel
theorem dX8_happen_113 : decode cX8_happen 113 = .ok (.getfield 10, 3) := by decide +kernel
theorem dX8_happen_116 : decode cX8_happen 116 = .ok (.iload_n 2, 1) := by decide +kernel
theorem dX8_happen_117 : decode cX8_happen 117 = .ok (.aload_n 0, 1) := by decide +kernel
theorem dX8_happen_118 : decode cX8_happen 118 = .ok (.getfield 10, 3) := by decide +kernel
theorem dX8_happen_121 : decode cX8_happen 121 = .ok (.getfield 100, 3) := by decide +kernel
theorem dX8_happen_124 : decode cX8_happen 124 = .ok (.iload_n 2, 1) := by decide +kernel
theorem dX8_happen_125 : decode cX8_happen 125 = .ok (.iload_n 3, 1) := by decide +kernel
theorem dX8_happen_126 : decode cX8_happen 126 = .ok (.invokevirtual 104, 3) := by decide +kernel
theorem dX8_happen_129 : decode cX8_happen 129 = .ok (.invokevirtual 109, 3) := by decide +kernel
theorem dX8_happen_132 : decode cX8_happen 132 = .ok (.ireturn, 1) := by decide +kernel
theorem dX8_happen_133 : decode cX8_happen 133 = .ok (.aload_n 0, 1) := by decide +kernel
theorem dX8_happen_134 : decode cX8_happen 134 = .ok (.getfield 10, 3) := by decide +kernel
theorem dX8_happen_137 : decode cX8_happen 137 = .ok (.iload_n 3, 1) := by decide +kernel
theorem dX8_happen_138 : decode cX8_happen 138 = .ok (.invokevirtual 112, 3) := by decide +kernel
theorem dX8_happen_141 : decode cX8_happen 141 = .ok (.ireturn, 1) := by decide +kernel
theorem dX8_ofNote_0 : decode cX8_ofNote 0 = .ok (.iload_n 1, 1) := by decide +kernel
theorem dX8_ofNote_1 : decode cX8_ofNote 1 = .ok (.invokestatic 115, 3) := by decide +kernel
theorem dX8_ofNote_4 : decode cX8_ofNote 4 = .ok (.ifCond .ne 5, 3) := by decide +kernel
theorem dX8_ofNote_7 : decode cX8_ofNote 7 = .ok (.iconst (-1), 1) := by decide +kernel
theorem dX8_ofNote_8 : decode cX8_ofNote 8 = .ok (.ireturn, 1) := by decide +kernel
theorem dX8_ofNote_9 : decode cX8_ofNote 9 = .ok (.aload_n 0, 1) := by decide +kernel
theorem dX8_ofNote_10 : decode cX8_ofNote 10 = .ok (.getfield 10, 3) := by decide +kernel
theorem dX8_ofNote_13 : decode cX8_ofNote 13 = .ok (.iload_n 1, 1) := by decide +kernel
theorem dX8_ofNote_14 : decode cX8_ofNote 14 = .ok (.invokevirtual 119, 3) := by decide +kernel
theorem dX8_ofNote_17 : decode cX8_ofNote 17 = .ok (.istore_n 3, 1) := by decide +kernel
theorem dX8_ofNote_18 : decode cX8_ofNote 18 = .ok (.aload_n 0, 1) := by decide +kernel
theorem dX8_ofNote_19 : decode cX8_ofNote 19 = .ok (.getfield 10, 3) := by decide +kernel
theorem dX8_ofNote_22 : decode cX8_ofNote 22 = .ok (.getfield 100, 3) := by decide +kernel
theorem dX8_ofNote_25 : decode cX8_ofNote 25 = .ok (.getfield 122, 3) := by decide +kernel
theorem dX8_ofNote_28 : decode cX8_ofNote 28 = .ok (.iload_n 1, 1) := by decide +kernel
theorem dX8_ofNote_29 : decode cX8_ofNote 29 = .ok (.invokevirtual 64, 3) := by decide +kernel
theorem dX8_ofNote_32 : decode cX8_ofNote 32 = .ok (.istore 4, 2) := by decide +kernel
theorem dX8_ofNote_34 : decode cX8_ofNote 34 = .ok (.iload_n 2, 1) := by decide +kernel
theorem dX8_ofNote_35 : decode cX8_ofNote 35 = .ok (.tableswitch 139 0 8 #[49, 61, 76, 91, 93, 96, 106, 115, 127], 49) := by decide +kernel
theorem dX8_ofNote_84 : decode cX8_ofNote 84 = .ok (.aload_n 0, 1) := by decide +kernel
theorem dX8_ofNote_85 : decode cX8_ofNote 85 = .ok (.getfield 10, 3) := by decide +kernel
theorem dX8_ofNote_88 : decode cX8_ofNote 88 = .ok (.getfield 125, 3) := by decide +kernel
theorem dX8_ofNote_91 : decode cX8_ofNote 91 = .ok (.iload_n 1, 1) := by decide +kernel
theorem dX8_ofNote_92 : decode cX8_ofNote 92 = .ok (.invokevirtual 64, 3) := by decide +kernel
theorem dX8_ofNote_95 : decode cX8_ofNote 95 = .ok (.ireturn, 1) := by decide +kernel
theorem dX8_ofNote_96 : decode cX8_ofNote 96 = .ok (.aload_n 0, 1) := by decide +kernel
theorem dX8_ofNote_97 : decode cX8_ofNote 97 = .ok (.getfield 10, 3) := by decide +kernel
theorem dX8_ofNote_100 : decode cX8_ofNote 100 = .ok (.getfield 46, 3) := by decide +kernel
theorem dX8_ofNote_103 : decode cX8_ofNote 103 = .ok (.getfield 128, 3) := by decide +kernel
theorem dX8_ofNote_106 : decode cX8_ofNote 106 = .ok (.iload_n 1, 1) := by decide +kernel
theorem dX8_ofNote_107 : decode cX8_ofNote 107 = .ok (.invokevirtual 64, 3) := by decide +kernel
theorem dX8_ofNote_110 : decode cX8_ofNote 110 = .ok (.ireturn, 1) := by decide +kernel
theorem dX8_ofNote_111 : decode cX8_ofNote 111 = .ok (.aload_n 0, 1) := by decide +kernel
theorem dX8_ofNote_112 : decode cX8_ofNote 112 = .ok (.getfield 10, 3) := by decide +kernel
theorem dX8_ofNote_115 : decode cX8_ofNote 115 = .ok (.getfield 46, 3) := by decide +kernel
theorem dX8_ofNote_118 : decode cX8_ofNote 118 = .ok (.getfield 131, 3) := by decide +kernel
theorem dX8_ofNote_121 : decode cX8_ofNote 121 = .ok (.iload_n 1, 1) := by decide +kernel
theorem dX8_ofNote_122 : decode cX8_ofNote 122 = .ok (.invokevirtual 64, 3) := by decide +kernel
theorem dX8_ofNote_125 : decode cX8_ofNote 125 = .ok (.ireturn, 1) := by decide +kernel
theorem dX8_ofNote_126 : decode cX8_ofNote 126 = .ok (.iload_n 3, 1) := by decide +kernel
theorem dX8_ofNote_127 : decode cX8_ofNote 127 = .ok (.ireturn, 1) := by decide +kernel
theorem dX8_ofNote_128 : decode cX8_ofNote 128 = .ok (.iload 4, 2) := by decide +kernel
theorem dX8_ofNote_130 : decode cX8_ofNote 130 = .ok (.ireturn, 1) := by decide +kernel
theorem dX8_ofNote_131 : decode cX8_ofNote 131 = .ok (.iload_n 3, 1) := by decide +kernel
theorem dX8_ofNote_132 : decode cX8_ofNote 132 = .ok (.iload 4, 2) := by decide +kernel
theorem dX8_ofNote_134 : decode cX8_ofNote 134 = .ok (.iconst (-1), 1) := by decide +kernel
theorem dX8_ofNote_135 : decode cX8_ofNote 135 = .ok (.ixor, 1) := by decide +kernel
theorem dX8_ofNote_136 : decode cX8_ofNote 136 = .ok (.iand, 1) := by decide +kernel
theorem dX8_ofNote_137 : decode cX8_ofNote 137 = .ok (.invokestatic 134, 3) := by decide +kernel
theorem dX8_ofNote_140 : decode cX8_ofNote 140 = .ok (.ireturn, 1) := by decide +kernel
theorem dX8_ofNote_141 : decode cX8_ofNote 141 = .ok (.aload_n 0, 1) := by decide +kernel
theorem dX8_ofNote_142 : decode cX8_ofNote 142 = .ok (.getfield 10, 3) := by decide +kernel
theorem dX8_ofNote_145 : decode cX8_ofNote 145 = .ok (.iload_n 1, 1) := by decide +kernel
theorem dX8_ofNote_146 : decode cX8_ofNote 146 = .ok (.invokevirtual 139, 3) := by decide +kernel
theorem dX8_ofNote_149 : decode cX8_ofNote 149 = .ok (.ireturn, 1) := by decide +kernel
theorem dX8_ofNote_150 : decode cX8_ofNote 150 = .ok (.aload_n 0, 1) := by decide +kernel
theorem dX8_ofNote_151 : decode cX8_ofNote 151 = .ok (.getfield 10, 3) := by decide +kernel
theorem dX8_ofNote_154 : decode cX8_ofNote 154 = .ok (.getfield 142, 3) := by decide +kernel
theorem dX8_ofNote_157 : decode cX8_ofNote 157 = .ok (.iload_n 1, 1) := by decide +kernel
theorem dX8_ofNote_158 : decode cX8_ofNote 158 = .ok (.invokevirtual 64, 3) := by decide +kernel
theorem dX8_ofNote_161 : decode cX8_ofNote 161 = .ok (.ireturn, 1) := by decide +kernel
theorem dX8_ofNote_162 : decode cX8_ofNote 162 = .ok (.aload_n 0, 1) := by decide +kernel
theorem dX8_ofNote_163 : decode cX8_ofNote 163 = .ok (.getfield 10, 3) := by decide +kernel
theorem dX8_ofNote_166 : decode cX8_ofNote 166 = .ok (.getfield 145, 3) := by decide +kernel
theorem dX8_ofNote_169 : decode cX8_ofNote 169 = .ok (.iload_n 1, 1) := by decide +kernel
theorem dX8_ofNote_170 : decode cX8_ofNote 170 = .ok (.invokevirtual 64, 3) := by decide +kernel
theorem dX8_ofNote_173 : decode cX8_ofNote 173 = .ok (.ireturn, 1) := by decide +kernel
theorem dX8_ofNote_174 : decode cX8_ofNote 174 = .ok (.bipush (-2), 2) := by decide +kernel
theorem dX8_ofNote_176 : decode cX8_ofNote 176 = .ok (.ireturn, 1) := by decide +kernel
theorem dX8_onShelf_0 : decode cX8_onShelf 0 = .ok (.iload_n 1, 1) := by decide +kernel
theorem dX8_onShelf_1 : decode cX8_onShelf 1 = .ok (.invokestatic 148, 3) := by decide +kernel
theorem dX8_onShelf_4 : decode cX8_onShelf 4 = .ok (.ifCond .eq 25, 3) := by decide +kernel
theorem dX8_onShelf_7 : decode cX8_onShelf 7 = .ok (.iload_n 2, 1) := by decide +kernel
theorem dX8_onShelf_8 : decode cX8_onShelf 8 = .ok (.ifCond .lt 21, 3) := by decide +kernel
theorem dX8_onShelf_11 : decode cX8_onShelf 11 = .ok (.iload_n 2, 1) := by decide +kernel
theorem dX8_onShelf_12 : decode cX8_onShelf 12 = .ok (.aload_n 0, 1) := by decide +kernel
theorem dX8_onShelf_13 : decode cX8_onShelf 13 = .ok (.getfield 10, 3) := by decide +kernel
theorem dX8_onShelf_16 : decode cX8_onShelf 16 = .ok (.getfield 100, 3) := by decide +kernel
theorem dX8_onShelf_19 : decode cX8_onShelf 19 = .ok (.getfield 151, 3) := by decide +kernel
theorem dX8_onShelf_22 : decode cX8_onShelf 22 = .ok (.iload_n 1, 1) := by decide +kernel
theorem dX8_onShelf_23 : decode cX8_onShelf 23 = .ok (.invokevirtual 64, 3) := by decide +kernel
theorem dX8_onShelf_26 : decode cX8_onShelf 26 = .ok (.if_icmp .lt 5, 3) := by decide +kernel
theorem dX8_onShelf_29 : decode cX8_onShelf 29 = .ok (.iconst (-1), 1) := by decide +kernel
theorem dX8_onShelf_30 : decode cX8_onShelf 30 = .ok (.ireturn, 1) := by decide +kernel
theorem dX8_onShelf_31 : decode cX8_onShelf 31 = .ok (.iload_n 3, 1) := by decide +kernel
theorem dX8_onShelf_32 : decode cX8_onShelf 32 = .ok (.tableswitch 75 0 2 #[28, 41, 54], 28) := by decide +kernel
theorem dX8_onShelf_60 : decode cX8_onShelf 60 = .ok (.aload_n 0, 1) := by decide +kernel
theorem dX8_onShelf_61 : decode cX8_onShelf 61 = .ok (.getfield 10, 3) := by decide +kernel
theorem dX8_onShelf_64 : decode cX8_onShelf 64 = .ok (.getfield 100, 3) := by decide +kernel
theorem dX8_onShelf_67 : decode cX8_onShelf 67 = .ok (.iload_n 1, 1) := by decide +kernel
theorem dX8_onShelf_68 : decode cX8_onShelf 68 = .ok (.iload_n 2, 1) := by decide +kernel
theorem dX8_onShelf_69 : decode cX8_onShelf 69 = .ok (.invokevirtual 154, 3) := by decide +kernel
theorem dX8_onShelf_72 : decode cX8_onShelf 72 = .ok (.ireturn, 1) := by decide +kernel
theorem dX8_onShelf_73 : decode cX8_onShelf 73 = .ok (.aload_n 0, 1) := by decide +kernel
theorem dX8_onShelf_74 : decode cX8_onShelf 74 = .ok (.getfield 10, 3) := by decide +kernel
theorem dX8_onShelf_77 : decode cX8_onShelf 77 = .ok (.getfield 100, 3) := by decide +kernel
theorem dX8_onShelf_80 : decode cX8_onShelf 80 = .ok (.iload_n 1, 1) := by decide +kernel
theorem dX8_onShelf_81 : decode cX8_onShelf 81 = .ok (.iload_n 2, 1) := by decide +kernel
theorem dX8_onShelf_82 : decode cX8_onShelf 82 = .ok (.invokevirtual 157, 3) := by decide +kernel
theorem dX8_onShelf_85 : decode cX8_onShelf 85 = .ok (.ireturn, 1) := by decide +kernel
theorem dX8_onShelf_86 : decode cX8_onShelf 86 = .ok (.aload_n 0, 1) := by decide +kernel
theorem dX8_onShelf_87 : decode cX8_onShelf 87 = .ok (.getfield 10, 3) := by decide +kernel
theorem dX8_onShelf_90 : decode cX8_onShelf 90 = .ok (.getfield 100, 3) := by decide +kernel
theorem dX8_onShelf_93 : decode cX8_onShelf 93 = .ok (.iload_n 1, 1) := by decide +kernel
theorem dX8_onShelf_94 : decode cX8_onShelf 94 = .ok (.iload_n 2, 1) := by decide +kernel
theorem dX8_onShelf_95 : decode cX8_onShelf 95 = .ok (.invokevirtual 160, 3) := by decide +kernel
theorem dX8_onShelf_98 : decode cX8_onShelf 98 = .ok (.ifCond .eq 7, 3) := by decide +kernel
theorem dX8_onShelf_101 : decode cX8_onShelf 101 = .ok (.iconst 1, 1) := by decide +kernel
theorem dX8_onShelf_102 : decode cX8_onShelf 102 = .ok (.goto 4, 3) := by decide +kernel
theorem dX8_onShelf_105 : decode cX8_onShelf 105 = .ok (.iconst 0, 1) := by decide +kernel
theorem dX8_onShelf_106 : decode cX8_onShelf 106 = .ok (.ireturn, 1) := by decide +kernel
theorem dX8_onShelf_107 : decode cX8_onShelf 107 = .ok (.bipush (-2), 2) := by decide +kernel
theorem dX8_onShelf_109 : decode cX8_onShelf 109 = .ok (.ireturn, 1) := by decide +kernel
theorem dX8_ofReader_0 : decode cX8_ofReader 0 = .ok (.iload_n 1, 1) := by decide +kernel
theorem dX8_ofReader_1 : decode cX8_ofReader 1 = .ok (.invokestatic 148, 3) := by decide +kernel
theorem dX8_ofReader_4 : decode cX8_ofReader 4 = .ok (.ifCond .ne 5, 3) := by decide +kernel
theorem dX8_ofReader_7 : decode cX8_ofReader 7 = .ok (.iconst (-1), 1) := by decide +kernel
theorem dX8_ofReader_8 : decode cX8_ofReader 8 = .ok (.ireturn, 1) := by decide +kernel
theorem dX8_ofReader_9 : decode cX8_ofReader 9 = .ok (.iload_n 2, 1) := by decide +kernel
theorem dX8_ofReader_10 : decode cX8_ofReader 10 = .ok (.tableswitch 130 0 6 #[42, 57, 73, 85, 97, 109, 121], 42) := by decide +kernel
theorem dX8_ofReader_52 : decode cX8_ofReader 52 = .ok (.aload_n 0, 1) := by decide +kernel
theorem dX8_ofReader_53 : decode cX8_ofReader 53 = .ok (.getfield 10, 3) := by decide +kernel
theorem dX8_ofReader_56 : decode cX8_ofReader 56 = .ok (.getfield 100, 3) := by decide +kernel
theorem dX8_ofReader_59 : decode cX8_ofReader 59 = .ok (.getfield 151, 3) := by decide +kernel
theorem dX8_ofReader_62 : decode cX8_ofReader 62 = .ok (.iload_n 1, 1) := by decide +kernel
theorem dX8_ofReader_63 : decode cX8_ofReader 63 = .ok (.invokevirtual 64, 3) := by decide +kernel
theorem dX8_ofReader_66 : decode cX8_ofReader 66 = .ok (.ireturn, 1) := by decide +kernel
theorem dX8_ofReader_67 : decode cX8_ofReader 67 = .ok (.iload_n 1, 1) := by decide +kernel
theorem dX8_ofReader_68 : decode cX8_ofReader 68 = .ok (.aload_n 0, 1) := by decide +kernel
theorem dX8_ofReader_69 : decode cX8_ofReader 69 = .ok (.getfield 10, 3) := by decide +kernel
theorem dX8_ofReader_72 : decode cX8_ofReader 72 = .ok (.getfield 60, 3) := by decide +kernel
theorem dX8_ofReader_75 : decode cX8_ofReader 75 = .ok (.iconst 1, 1) := by decide +kernel
theorem dX8_ofReader_76 : decode cX8_ofReader 76 = .ok (.invokevirtual 64, 3) := by decide +kernel
theorem dX8_ofReader_79 : decode cX8_ofReader 79 = .ok (.invokestatic 163, 3) := by decide +kernel
theorem dX8_ofReader_82 : decode cX8_ofReader 82 = .ok (.ireturn, 1) := by decide +kernel
theorem dX8_ofReader_83 : decode cX8_ofReader 83 = .ok (.aload_n 0, 1) := by decide +kernel
theorem dX8_ofReader_84 : decode cX8_ofReader 84 = .ok (.getfield 10, 3) := by decide +kernel
theorem dX8_ofReader_87 : decode cX8_ofReader 87 = .ok (.getfield 166, 3) := by decide +kernel
theorem dX8_ofReader_90 : decode cX8_ofReader 90 = .ok (.iload_n 1, 1) := by decide +kernel
theorem dX8_ofReader_91 : decode cX8_ofReader 91 = .ok (.invokevirtual 64, 3) := by decide +kernel
theorem dX8_ofReader_94 : decode cX8_ofReader 94 = .ok (.ireturn, 1) := by decide +kernel
theorem dX8_ofReader_95 : decode cX8_ofReader 95 = .ok (.aload_n 0, 1) := by decide +kernel
theorem dX8_ofReader_96 : decode cX8_ofReader 96 = .ok (.getfield 10, 3) := by decide +kernel
theorem dX8_ofReader_99 : decode cX8_ofReader 99 = .ok (.getfield 169, 3) := by decide +kernel
theorem dX8_ofReader_102 : decode cX8_ofReader 102 = .ok (.iload_n 1, 1) := by decide +kernel
theorem dX8_ofReader_103 : decode cX8_ofReader 103 = .ok (.invokevirtual 64, 3) := by decide +kernel
theorem dX8_ofReader_106 : decode cX8_ofReader 106 = .ok (.ireturn, 1) := by decide +kernel
theorem dX8_ofReader_107 : decode cX8_ofReader 107 = .ok (.aload_n 0, 1) := by decide +kernel
theorem dX8_ofReader_108 : decode cX8_ofReader 108 = .ok (.getfield 10, 3) := by decide +kernel
theorem dX8_ofReader_111 : decode cX8_ofReader 111 = .ok (.getfield 172, 3) := by decide +kernel
theorem dX8_ofReader_114 : decode cX8_ofReader 114 = .ok (.iload_n 1, 1) := by decide +kernel
theorem dX8_ofReader_115 : decode cX8_ofReader 115 = .ok (.invokevirtual 64, 3) := by decide +kernel
theorem dX8_ofReader_118 : decode cX8_ofReader 118 = .ok (.ireturn, 1) := by decide +kernel
theorem dX8_ofReader_119 : decode cX8_ofReader 119 = .ok (.aload_n 0, 1) := by decide +kernel
theorem dX8_ofReader_120 : decode cX8_ofReader 120 = .ok (.getfield 10, 3) := by decide +kernel
theorem dX8_ofReader_123 : decode cX8_ofReader 123 = .ok (.getfield 175, 3) := by decide +kernel
theorem dX8_ofReader_126 : decode cX8_ofReader 126 = .ok (.iload_n 1, 1) := by decide +kernel
theorem dX8_ofReader_127 : decode cX8_ofReader 127 = .ok (.invokevirtual 64, 3) := by decide +kernel
theorem dX8_ofReader_130 : decode cX8_ofReader 130 = .ok (.ireturn, 1) := by decide +kernel
theorem dX8_ofReader_131 : decode cX8_ofReader 131 = .ok (.aload_n 0, 1) := by decide +kernel
theorem dX8_ofReader_132 : decode cX8_ofReader 132 = .ok (.getfield 10, 3) := by decide +kernel
theorem dX8_ofReader_135 : decode cX8_ofReader 135 = .ok (.iload_n 1, 1) := by decide +kernel
theorem dX8_ofReader_136 : decode cX8_ofReader 136 = .ok (.invokevirtual 178, 3) := by decide +kernel
theorem dX8_ofReader_139 : decode cX8_ofReader 139 = .ok (.ireturn, 1) := by decide +kernel
theorem dX8_ofReader_140 : decode cX8_ofReader 140 = .ok (.bipush (-2), 2) := by decide +kernel
theorem dX8_ofReader_142 : decode cX8_ofReader 142 = .ok (.ireturn, 1) := by decide +kernel
theorem dX8_count_0 : decode cX8_count 0 = .ok (.iload_n 1, 1) := by decide +kernel
theorem dX8_count_1 : decode cX8_count 1 = .ok (.tableswitch 211 0 12 #[67, 79, 91, 103, 114, 125, 136, 147, 159, 171, 183, 195, 203], 67) := by decide +kernel
theorem dX8_count_68 : decode cX8_count 68 = .ok (.aload_n 0, 1) := by decide +kernel
theorem dX8_count_69 : decode cX8_count 69 = .ok (.getfield 10, 3) := by decide +kernel
theorem dX8_count_72 : decode cX8_count 72 = .ok (.getfield 181, 3) := by decide +kernel
theorem dX8_count_75 : decode cX8_count 75 = .ok (.iconst 0, 1) := by decide +kernel
theorem dX8_count_76 : decode cX8_count 76 = .ok (.invokevirtual 64, 3) := by decide +kernel
theorem dX8_count_79 : decode cX8_count 79 = .ok (.ireturn, 1) := by decide +kernel
theorem dX8_count_80 : decode cX8_count 80 = .ok (.aload_n 0, 1) := by decide +kernel
theorem dX8_count_81 : decode cX8_count 81 = .ok (.getfield 10, 3) := by decide +kernel
theorem dX8_count_84 : decode cX8_count 84 = .ok (.getfield 181, 3) := by decide +kernel
theorem dX8_count_87 : decode cX8_count 87 = .ok (.iconst 1, 1) := by decide +kernel
theorem dX8_count_88 : decode cX8_count 88 = .ok (.invokevirtual 64, 3) := by decide +kernel
theorem dX8_count_91 : decode cX8_count 91 = .ok (.ireturn, 1) := by decide +kernel
theorem dX8_count_92 : decode cX8_count 92 = .ok (.aload_n 0, 1) := by decide +kernel
theorem dX8_count_93 : decode cX8_count 93 = .ok (.getfield 10, 3) := by decide +kernel
theorem dX8_count_96 : decode cX8_count 96 = .ok (.getfield 181, 3) := by decide +kernel
theorem dX8_count_99 : decode cX8_count 99 = .ok (.iconst 2, 1) := by decide +kernel
theorem dX8_count_100 : decode cX8_count 100 = .ok (.invokevirtual 64, 3) := by decide +kernel
theorem dX8_count_103 : decode cX8_count 103 = .ok (.ireturn, 1) := by decide +kernel
theorem dX8_count_104 : decode cX8_count 104 = .ok (.aload_n 0, 1) := by decide +kernel
theorem dX8_count_105 : decode cX8_count 105 = .ok (.getfield 10, 3) := by decide +kernel
theorem dX8_count_108 : decode cX8_count 108 = .ok (.getfield 100, 3) := by decide +kernel
theorem dX8_count_111 : decode cX8_count 111 = .ok (.invokevirtual 184, 3) := by decide +kernel
theorem dX8_count_114 : decode cX8_count 114 = .ok (.ireturn, 1) := by decide +kernel
theorem dX8_count_115 : decode cX8_count 115 = .ok (.aload_n 0, 1) := by decide +kernel
theorem dX8_count_116 : decode cX8_count 116 = .ok (.getfield 10, 3) := by decide +kernel
theorem dX8_count_119 : decode cX8_count 119 = .ok (.getfield 100, 3) := by decide +kernel
theorem dX8_count_122 : decode cX8_count 122 = .ok (.invokevirtual 187, 3) := by decide +kernel
theorem dX8_count_125 : decode cX8_count 125 = .ok (.ireturn, 1) := by decide +kernel
theorem dX8_count_126 : decode cX8_count 126 = .ok (.aload_n 0, 1) := by decide +kernel
theorem dX8_count_127 : decode cX8_count 127 = .ok (.getfield 10, 3) := by decide +kernel
theorem dX8_count_130 : decode cX8_count 130 = .ok (.getfield 46, 3) := by decide +kernel
theorem dX8_count_133 : decode cX8_count 133 = .ok (.invokevirtual 50, 3) := by decide +kernel
theorem dX8_count_136 : decode cX8_count 136 = .ok (.ireturn, 1) := by decide +kernel
theorem dX8_count_137 : decode cX8_count 137 = .ok (.aload_n 0, 1) := by decide +kernel
theorem dX8_count_138 : decode cX8_count 138 = .ok (.getfield 10, 3) := by decide +kernel
theorem dX8_count_141 : decode cX8_count 141 = .ok (.getfield 46, 3) := by decide +kernel
theorem dX8_count_144 : decode cX8_count 144 = .ok (.invokevirtual 190, 3) := by decide +kernel
theorem dX8_count_147 : decode cX8_count 147 = .ok (.ireturn, 1) := by decide +kernel
theorem dX8_count_148 : decode cX8_count 148 = .ok (.aload_n 0, 1) := by decide +kernel
theorem dX8_count_149 : decode cX8_count 149 = .ok (.getfield 10, 3) := by decide +kernel
theorem dX8_count_152 : decode cX8_count 152 = .ok (.getfield 60, 3) := by decide +kernel
theorem dX8_count_155 : decode cX8_count 155 = .ok (.iconst 0, 1) := by decide +kernel
theorem dX8_count_156 : decode cX8_count 156 = .ok (.invokevirtual 64, 3) := by decide +kernel
theorem dX8_count_159 : decode cX8_count 159 = .ok (.ireturn, 1) := by decide +kernel
theorem dX8_count_160 : decode cX8_count 160 = .ok (.aload_n 0, 1) := by decide +kernel
theorem dX8_count_161 : decode cX8_count 161 = .ok (.getfield 10, 3) := by decide +kernel
theorem dX8_count_164 : decode cX8_count 164 = .ok (.getfield 60, 3) := by decide +kernel
theorem dX8_count_167 : decode cX8_count 167 = .ok (.iconst 1, 1) := by decide +kernel
theorem dX8_count_168 : decode cX8_count 168 = .ok (.invokevirtual 64, 3) := by decide +kernel
theorem dX8_count_171 : decode cX8_count 171 = .ok (.ireturn, 1) := by decide +kernel
theorem dX8_count_172 : decode cX8_count 172 = .ok (.aload_n 0, 1) := by decide +kernel
theorem dX8_count_173 : decode cX8_count 173 = .ok (.getfield 10, 3) := by decide +kernel
theorem dX8_count_176 : decode cX8_count 176 = .ok (.getfield 60, 3) := by decide +kernel
theorem dX8_count_179 : decode cX8_count 179 = .ok (.iconst 2, 1) := by decide +kernel
theorem dX8_count_180 : decode cX8_count 180 = .ok (.invokevirtual 64, 3) := by decide +kernel
theorem dX8_count_183 : decode cX8_count 183 = .ok (.ireturn, 1) := by decide +kernel
theorem dX8_count_184 : decode cX8_count 184 = .ok (.aload_n 0, 1) := by decide +kernel
theorem dX8_count_185 : decode cX8_count 185 = .ok (.getfield 10, 3) := by decide +kernel
theorem dX8_count_188 : decode cX8_count 188 = .ok (.getfield 60, 3) := by decide +kernel
theorem dX8_count_191 : decode cX8_count 191 = .ok (.iconst 3, 1) := by decide +kernel
theorem dX8_count_192 : decode cX8_count 192 = .ok (.invokevirtual 64, 3) := by decide +kernel
theorem dX8_count_195 : decode cX8_count 195 = .ok (.ireturn, 1) := by decide +kernel
theorem dX8_count_196 : decode cX8_count 196 = .ok (.aload_n 0, 1) := by decide +kernel
theorem dX8_count_197 : decode cX8_count 197 = .ok (.getfield 41, 3) := by decide +kernel
theorem dX8_count_200 : decode cX8_count 200 = .ok (.getfield 193, 3) := by decide +kernel
theorem dX8_count_203 : decode cX8_count 203 = .ok (.ireturn, 1) := by decide +kernel
theorem dX8_count_204 : decode cX8_count 204 = .ok (.aload_n 0, 1) := by decide +kernel
theorem dX8_count_205 : decode cX8_count 205 = .ok (.getfield 22, 3) := by decide +kernel
theorem dX8_count_208 : decode cX8_count 208 = .ok (.getfield 199, 3) := by decide +kernel
theorem dX8_count_211 : decode cX8_count 211 = .ok (.ireturn, 1) := by decide +kernel
theorem dX8_count_212 : decode cX8_count 212 = .ok (.bipush (-2), 2) := by decide +kernel
theorem dX8_count_214 : decode cX8_count 214 = .ok (.ireturn, 1) := by decide +kernel
theorem dX8_costOfReading_0 : decode cX8_costOfReading 0 = .ok (.iload_n 1, 1) := by decide +kernel
theorem dX8_costOfReading_1 : decode cX8_costOfReading 1 = .ok (.invokestatic 148, 3) := by decide +kernel
theorem dX8_costOfReading_4 : decode cX8_costOfReading 4 = .ok (.ifCond .eq 22, 3) := by decide +kernel
theorem dX8_costOfReading_7 : decode cX8_costOfReading 7 = .ok (.iload_n 2, 1) := by decide +kernel
theorem dX8_costOfReading_8 : decode cX8_costOfReading 8 = .ok (.invokestatic 115, 3) := by decide +kernel
theorem dX8_costOfReading_11 : decode cX8_costOfReading 11 = .ok (.ifCond .eq 15, 3) := by decide +kernel
theorem dX8_costOfReading_14 : decode cX8_costOfReading 14 = .ok (.aload_n 0, 1) := by decide +kernel
theorem dX8_costOfReading_15 : decode cX8_costOfReading 15 = .ok (.getfield 10, 3) := by decide +kernel
theorem dX8_costOfReading_18 : decode cX8_costOfReading 18 = .ok (.iload_n 1, 1) := by decide +kernel
theorem dX8_costOfReading_19 : decode cX8_costOfReading 19 = .ok (.iload_n 2, 1) := by decide +kernel
theorem dX8_costOfReading_20 : decode cX8_costOfReading 20 = .ok (.invokevirtual 200, 3) := by decide +kernel
theorem dX8_costOfReading_23 : decode cX8_costOfReading 23 = .ok (.goto 4, 3) := by decide +kernel
theorem dX8_costOfReading_26 : decode cX8_costOfReading 26 = .ok (.iconst (-1), 1) := by decide +kernel
theorem dX8_costOfReading_27 : decode cX8_costOfReading 27 = .ok (.ireturn, 1) := by decide +kernel
theorem dX8_costOfChange_0 : decode cX8_costOfChange 0 = .ok (.iload_n 1, 1) := by decide +kernel
theorem dX8_costOfChange_1 : decode cX8_costOfChange 1 = .ok (.invokestatic 148, 3) := by decide +kernel
theorem dX8_costOfChange_4 : decode cX8_costOfChange 4 = .ok (.ifCond .eq 10, 3) := by decide +kernel
theorem dX8_costOfChange_7 : decode cX8_costOfChange 7 = .ok (.iload_n 2, 1) := by decide +kernel
theorem dX8_costOfChange_8 : decode cX8_costOfChange 8 = .ok (.invokestatic 115, 3) := by decide +kernel
theorem dX8_costOfChange_11 : decode cX8_costOfChange 11 = .ok (.ifCond .ne 5, 3) := by decide +kernel
theorem dX8_costOfChange_14 : decode cX8_costOfChange 14 = .ok (.iconst (-1), 1) := by decide +kernel
theorem dX8_costOfChange_15 : decode cX8_costOfChange 15 = .ok (.ireturn, 1) := by decide +kernel
theorem dX8_costOfChange_16 : decode cX8_costOfChange 16 = .ok (.iload_n 3, 1) := by decide +kernel
theorem dX8_costOfChange_17 : decode cX8_costOfChange 17 = .ok (.lookupswitch 47 #[(0, 27), (1, 37)], 27) := by decide +kernel
theorem dX8_costOfChange_44 : decode cX8_costOfChange 44 = .ok (.aload_n 0, 1) := by decide +kernel
theorem dX8_costOfChange_45 : decode cX8_costOfChange 45 = .ok (.getfield 10, 3) := by decide +kernel
theorem dX8_costOfChange_48 : decode cX8_costOfChange 48 = .ok (.iload_n 1, 1) := by decide +kernel
theorem dX8_costOfChange_49 : decode cX8_costOfChange 49 = .ok (.iload_n 2, 1) := by decide +kernel
theorem dX8_costOfChange_50 : decode cX8_costOfChange 50 = .ok (.invokevirtual 203, 3) := by decide +kernel
theorem dX8_costOfChange_53 : decode cX8_costOfChange 53 = .ok (.ireturn, 1) := by decide +kernel
theorem dX8_costOfChange_54 : decode cX8_costOfChange 54 = .ok (.aload_n 0, 1) := by decide +kernel
theorem dX8_costOfChange_55 : decode cX8_costOfChange 55 = .ok (.getfield 10, 3) := by decide +kernel
theorem dX8_costOfChange_58 : decode cX8_costOfChange 58 = .ok (.iload_n 1, 1) := by decide +kernel
theorem dX8_costOfChange_59 : decode cX8_costOfChange 59 = .ok (.iload_n 2, 1) := by decide +kernel
theorem dX8_costOfChange_60 : decode cX8_costOfChange 60 = .ok (.invokevirtual 206, 3) := by decide +kernel
theorem dX8_costOfChange_63 : decode cX8_costOfChange 63 = .ok (.ireturn, 1) := by decide +kernel
theorem dX8_costOfChange_64 : decode cX8_costOfChange 64 = .ok (.bipush (-2), 2) := by decide +kernel
theorem dX8_costOfChange_66 : decode cX8_costOfChange 66 = .ok (.ireturn, 1) := by decide +kernel
theorem dX8_cheapest_0 : decode cX8_cheapest 0 = .ok (.iload_n 1, 1) := by decide +kernel
theorem dX8_cheapest_1 : decode cX8_cheapest 1 = .ok (.invokestatic 115, 3) := by decide +kernel
theorem dX8_cheapest_4 : decode cX8_cheapest 4 = .ok (.ifCond .ne 5, 3) := by decide +kernel
theorem dX8_cheapest_7 : decode cX8_cheapest 7 = .ok (.iconst (-1), 1) := by decide +kernel
theorem dX8_cheapest_8 : decode cX8_cheapest 8 = .ok (.ireturn, 1) := by decide +kernel
theorem dX8_cheapest_9 : decode cX8_cheapest 9 = .ok (.iconst 0, 1) := by decide +kernel
theorem dX8_cheapest_10 : decode cX8_cheapest 10 = .ok (.istore_n 2, 1) := by decide +kernel
theorem dX8_cheapest_11 : decode cX8_cheapest 11 = .ok (.aload_n 0, 1) := by decide +kernel
theorem dX8_cheapest_12 : decode cX8_cheapest 12 = .ok (.getfield 10, 3) := by decide +kernel
theorem dX8_cheapest_15 : decode cX8_cheapest 15 = .ok (.iconst 0, 1) := by decide +kernel
theorem dX8_cheapest_16 : decode cX8_cheapest 16 = .ok (.iload_n 1, 1) := by decide +kernel
theorem dX8_cheapest_17 : decode cX8_cheapest 17 = .ok (.invokevirtual 203, 3) := by decide +kernel
theorem dX8_cheapest_20 : decode cX8_cheapest 20 = .ok (.istore_n 3, 1) := by decide +kernel
theorem dX8_cheapest_21 : decode cX8_cheapest 21 = .ok (.iconst 1, 1) := by decide +kernel
theorem dX8_cheapest_22 : decode cX8_cheapest 22 = .ok (.istore 4, 2) := by decide +kernel
theorem dX8_cheapest_24 : decode cX8_cheapest 24 = .ok (.iload 4, 2) := by decide +kernel
theorem dX8_cheapest_26 : decode cX8_cheapest 26 = .ok (.bipush 16, 2) := by decide +kernel
theorem dX8_cheapest_28 : decode cX8_cheapest 28 = .ok (.if_icmp .ge 33, 3) := by decide +kernel
theorem dX8_cheapest_31 : decode cX8_cheapest 31 = .ok (.aload_n 0, 1) := by decide +kernel
theorem dX8_cheapest_32 : decode cX8_cheapest 32 = .ok (.getfield 10, 3) := by decide +kernel
theorem dX8_cheapest_35 : decode cX8_cheapest 35 = .ok (.iload 4, 2) := by decide +kernel
theorem dX8_cheapest_37 : decode cX8_cheapest 37 = .ok (.iload_n 1, 1) := by decide +kernel
theorem dX8_cheapest_38 : decode cX8_cheapest 38 = .ok (.invokevirtual 203, 3) := by decide +kernel
theorem dX8_cheapest_41 : decode cX8_cheapest 41 = .ok (.istore 5, 2) := by decide +kernel
theorem dX8_cheapest_43 : decode cX8_cheapest 43 = .ok (.iload 5, 2) := by decide +kernel
theorem dX8_cheapest_45 : decode cX8_cheapest 45 = .ok (.iload_n 3, 1) := by decide +kernel
theorem dX8_cheapest_46 : decode cX8_cheapest 46 = .ok (.if_icmp .ge 9, 3) := by decide +kernel
theorem dX8_cheapest_49 : decode cX8_cheapest 49 = .ok (.iload 4, 2) := by decide +kernel
theorem dX8_cheapest_51 : decode cX8_cheapest 51 = .ok (.istore_n 2, 1) := by decide +kernel
theorem dX8_cheapest_52 : decode cX8_cheapest 52 = .ok (.iload 5, 2) := by decide +kernel
theorem dX8_cheapest_54 : decode cX8_cheapest 54 = .ok (.istore_n 3, 1) := by decide +kernel
theorem dX8_cheapest_55 : decode cX8_cheapest 55 = .ok (.iinc 4 1, 3) := by decide +kernel
theorem dX8_cheapest_58 : decode cX8_cheapest 58 = .ok (.goto (-34), 3) := by decide +kernel
theorem dX8_cheapest_61 : decode cX8_cheapest 61 = .ok (.iload_n 2, 1) := by decide +kernel
theorem dX8_cheapest_62 : decode cX8_cheapest 62 = .ok (.ireturn, 1) := by decide +kernel
theorem dX8_loudest_0 : decode cX8_loudest 0 = .ok (.iload_n 1, 1) := by decide +kernel
theorem dX8_loudest_1 : decode cX8_loudest 1 = .ok (.ifCond .eq 11, 3) := by decide +kernel
theorem dX8_loudest_4 : decode cX8_loudest 4 = .ok (.iload_n 1, 1) := by decide +kernel
theorem dX8_loudest_5 : decode cX8_loudest 5 = .ok (.iconst 1, 1) := by decide +kernel
theorem dX8_loudest_6 : decode cX8_loudest 6 = .ok (.if_icmp .eq 6, 3) := by decide +kernel
theorem dX8_loudest_9 : decode cX8_loudest 9 = .ok (.bipush (-2), 2) := by decide +kernel
theorem dX8_loudest_11 : decode cX8_loudest 11 = .ok (.ireturn, 1) := by decide +kernel
theorem dX8_loudest_12 : decode cX8_loudest 12 = .ok (.bipush (-6), 2) := by decide +kernel
theorem dX8_loudest_14 : decode cX8_loudest 14 = .ok (.istore_n 2, 1) := by decide +kernel
theorem dX8_loudest_15 : decode cX8_loudest 15 = .ok (.iconst 0, 1) := by decide +kernel
theorem dX8_loudest_16 : decode cX8_loudest 16 = .ok (.istore_n 3, 1) := by decide +kernel
theorem dX8_loudest_17 : decode cX8_loudest 17 = .ok (.iconst 0, 1) := by decide +kernel
theorem dX8_loudest_18 : decode cX8_loudest 18 = .ok (.istore 4, 2) := by decide +kernel
theorem dX8_loudest_20 : decode cX8_loudest 20 = .ok (.iload 4, 2) := by decide +kernel
theorem dX8_loudest_22 : decode cX8_loudest 22 = .ok (.bipush 24, 2) := by decide +kernel
theorem dX8_loudest_24 : decode cX8_loudest 24 = .ok (.if_icmp .ge 32, 3) := by decide +kernel
theorem dX8_loudest_27 : decode cX8_loudest 27 = .ok (.aload_n 0, 1) := by decide +kernel
theorem dX8_loudest_28 : decode cX8_loudest 28 = .ok (.getfield 10, 3) := by decide +kernel
theorem dX8_loudest_31 : decode cX8_loudest 31 = .ok (.iload 4, 2) := by decide +kernel
theorem dX8_loudest_33 : decode cX8_loudest 33 = .ok (.invokevirtual 209, 3) := by decide +kernel
theorem dX8_loudest_36 : decode cX8_loudest 36 = .ok (.istore 5, 2) := by decide +kernel
theorem dX8_loudest_38 : decode cX8_loudest 38 = .ok (.iload 5, 2) := by decide +kernel
theorem dX8_loudest_40 : decode cX8_loudest 40 = .ok (.iload_n 3, 1) := by decide +kernel
theorem dX8_loudest_41 : decode cX8_loudest 41 = .ok (.if_icmp .le 9, 3) := by decide +kernel
theorem dX8_loudest_44 : decode cX8_loudest 44 = .ok (.iload 4, 2) := by decide +kernel
theorem dX8_loudest_46 : decode cX8_loudest 46 = .ok (.istore_n 2, 1) := by decide +kernel
theorem dX8_loudest_47 : decode cX8_loudest 47 = .ok (.iload 5, 2) := by decide +kernel
theorem dX8_loudest_49 : decode cX8_loudest 49 = .ok (.istore_n 3, 1) := by decide +kernel
theorem dX8_loudest_50 : decode cX8_loudest 50 = .ok (.iinc 4 1, 3) := by decide +kernel
theorem dX8_loudest_53 : decode cX8_loudest 53 = .ok (.goto (-33), 3) := by decide +kernel
theorem dX8_loudest_56 : decode cX8_loudest 56 = .ok (.iload_n 2, 1) := by decide +kernel
theorem dX8_loudest_57 : decode cX8_loudest 57 = .ok (.bipush (-6), 2) := by decide +kernel
theorem dX8_loudest_59 : decode cX8_loudest 59 = .ok (.if_icmp .eq 7, 3) := by decide +kernel
theorem dX8_loudest_62 : decode cX8_loudest 62 = .ok (.iload_n 1, 1) := by decide +kernel
theorem dX8_loudest_63 : decode cX8_loudest 63 = .ok (.ifCond .ne 7, 3) := by decide +kernel
theorem dX8_loudest_66 : decode cX8_loudest 66 = .ok (.iload_n 2, 1) := by decide +kernel
theorem dX8_loudest_67 : decode cX8_loudest 67 = .ok (.goto 4, 3) := by decide +kernel
theorem dX8_loudest_70 : decode cX8_loudest 70 = .ok (.iload_n 3, 1) := by decide +kernel
theorem dX8_loudest_71 : decode cX8_loudest 71 = .ok (.ireturn, 1) := by decide +kernel
theorem dX8_accountWith_0 : decode cX8_accountWith 0 = .ok (.iconst 0, 1) := by decide +kernel
theorem dX8_accountWith_1 : decode cX8_accountWith 1 = .ok (.iload_n 1, 1) := by decide +kernel
theorem dX8_accountWith_2 : decode cX8_accountWith 2 = .ok (.invokestatic 42, 3) := by decide +kernel
theorem dX8_accountWith_5 : decode cX8_accountWith 5 = .ok (.ifCond .eq 11, 3) := by decide +kernel
theorem dX8_accountWith_8 : decode cX8_accountWith 8 = .ok (.iconst 1, 1) := by decide +kernel
theorem dX8_accountWith_9 : decode cX8_accountWith 9 = .ok (.iload_n 2, 1) := by decide +kernel
theorem dX8_accountWith_10 : decode cX8_accountWith 10 = .ok (.invokestatic 42, 3) := by decide +kernel
theorem dX8_accountWith_13 : decode cX8_accountWith 13 = .ok (.ifCond .ne 6, 3) := by decide +kernel
theorem dX8_accountWith_16 : decode cX8_accountWith 16 = .ok (.bipush (-2), 2) := by decide +kernel
theorem dX8_accountWith_18 : decode cX8_accountWith 18 = .ok (.ireturn, 1) := by decide +kernel
theorem dX8_accountWith_19 : decode cX8_accountWith 19 = .ok (.aload_n 0, 1) := by decide +kernel
theorem dX8_accountWith_20 : decode cX8_accountWith 20 = .ok (.getfield 16, 3) := by decide +kernel
theorem dX8_accountWith_23 : decode cX8_accountWith 23 = .ok (.aload_n 0, 1) := by decide +kernel
theorem dX8_accountWith_24 : decode cX8_accountWith 24 = .ok (.getfield 10, 3) := by decide +kernel
theorem dX8_accountWith_27 : decode cX8_accountWith 27 = .ok (.iload_n 1, 1) := by decide +kernel
theorem dX8_accountWith_28 : decode cX8_accountWith 28 = .ok (.iload_n 2, 1) := by decide +kernel
theorem dX8_accountWith_29 : decode cX8_accountWith 29 = .ok (.invokevirtual 212, 3) := by decide +kernel
theorem dX8_accountWith_32 : decode cX8_accountWith 32 = .ok (.ireturn, 1) := by decide +kernel
theorem dX8_best_0 : decode cX8_best 0 = .ok (.iload_n 1, 1) := by decide +kernel
theorem dX8_best_1 : decode cX8_best 1 = .ok (.ifCond .lt 8, 3) := by decide +kernel
theorem dX8_best_4 : decode cX8_best 4 = .ok (.iload_n 1, 1) := by decide +kernel
theorem dX8_best_5 : decode cX8_best 5 = .ok (.iconst 2, 1) := by decide +kernel
theorem dX8_best_6 : decode cX8_best 6 = .ok (.if_icmp .le 6, 3) := by decide +kernel
theorem dX8_best_9 : decode cX8_best 9 = .ok (.bipush (-2), 2) := by decide +kernel
theorem dX8_best_11 : decode cX8_best 11 = .ok (.ireturn, 1) := by decide +kernel
theorem dX8_best_12 : decode cX8_best 12 = .ok (.iconst 0, 1) := by decide +kernel
theorem dX8_best_13 : decode cX8_best 13 = .ok (.istore_n 2, 1) := by decide +kernel
theorem dX8_best_14 : decode cX8_best 14 = .ok (.iconst 0, 1) := by decide +kernel
theorem dX8_best_15 : decode cX8_best 15 = .ok (.istore_n 3, 1) := by decide +kernel
theorem dX8_best_16 : decode cX8_best 16 = .ok (.bipush (-6), 2) := by decide +kernel
theorem dX8_best_18 : decode cX8_best 18 = .ok (.istore 4, 2) := by decide +kernel
theorem dX8_best_20 : decode cX8_best 20 = .ok (.getstatic 216, 3) := by decide +kernel
theorem dX8_best_23 : decode cX8_best 23 = .ok (.iconst 0, 1) := by decide +kernel
theorem dX8_best_24 : decode cX8_best 24 = .ok (.iaload, 1) := by decide +kernel
theorem dX8_best_25 : decode cX8_best 25 = .ok (.istore 5, 2) := by decide +kernel
theorem dX8_best_27 : decode cX8_best 27 = .ok (.iload 5, 2) := by decide +kernel
theorem dX8_best_29 : decode cX8_best 29 = .ok (.getstatic 220, 3) := by decide +kernel
theorem dX8_best_32 : decode cX8_best 32 = .ok (.iconst 0, 1) := by decide +kernel
theorem dX8_best_33 : decode cX8_best 33 = .ok (.iaload, 1) := by decide +kernel
theorem dX8_best_34 : decode cX8_best 34 = .ok (.if_icmp .gt 73, 3) := by decide +kernel
theorem dX8_best_37 : decode cX8_best 37 = .ok (.getstatic 216, 3) := by decide +kernel
theorem dX8_best_40 : decode cX8_best 40 = .ok (.iconst 1, 1) := by decide +kernel
theorem dX8_best_41 : decode cX8_best 41 = .ok (.iaload, 1) := by decide +kernel
theorem dX8_best_42 : decode cX8_best 42 = .ok (.istore 6, 2) := by decide +kernel
theorem dX8_best_44 : decode cX8_best 44 = .ok (.iload 6, 2) := by decide +kernel
theorem dX8_best_46 : decode cX8_best 46 = .ok (.getstatic 220, 3) := by decide +kernel
theorem dX8_best_49 : decode cX8_best 49 = .ok (.iconst 1, 1) := by decide +kernel
theorem dX8_best_50 : decode cX8_best 50 = .ok (.iaload, 1) := by decide +kernel
theorem dX8_best_51 : decode cX8_best 51 = .ok (.if_icmp .gt 50, 3) := by decide +kernel
theorem dX8_best_54 : decode cX8_best 54 = .ok (.aload_n 0, 1) := by decide +kernel
theorem dX8_best_55 : decode cX8_best 55 = .ok (.getfield 16, 3) := by decide +kernel
theorem dX8_best_58 : decode cX8_best 58 = .ok (.aload_n 0, 1) := by decide +kernel
theorem dX8_best_59 : decode cX8_best 59 = .ok (.getfield 10, 3) := by decide +kernel
theorem dX8_best_62 : decode cX8_best 62 = .ok (.iload 5, 2) := by decide +kernel
theorem dX8_best_64 : decode cX8_best 64 = .ok (.iload 6, 2) := by decide +kernel
theorem dX8_best_66 : decode cX8_best 66 = .ok (.invokevirtual 212, 3) := by decide +kernel
theorem dX8_best_69 : decode cX8_best 69 = .ok (.istore 7, 2) := by decide +kernel
theorem dX8_best_71 : decode cX8_best 71 = .ok (.iload 4, 2) := by decide +kernel
theorem dX8_best_73 : decode cX8_best 73 = .ok (.bipush (-6), 2) := by decide +kernel
theorem dX8_best_75 : decode cX8_best 75 = .ok (.if_icmp .eq 10, 3) := by decide +kernel
theorem dX8_best_78 : decode cX8_best 78 = .ok (.iload 7, 2) := by decide +kernel
theorem dX8_best_80 : decode cX8_best 80 = .ok (.iload 4, 2) := by decide +kernel
theorem dX8_best_82 : decode cX8_best 82 = .ok (.if_icmp .ge 13, 3) := by decide +kernel
theorem dX8_best_85 : decode cX8_best 85 = .ok (.iload 5, 2) := by decide +kernel
theorem dX8_best_87 : decode cX8_best 87 = .ok (.istore_n 2, 1) := by decide +kernel
theorem dX8_best_88 : decode cX8_best 88 = .ok (.iload 6, 2) := by decide +kernel
theorem dX8_best_90 : decode cX8_best 90 = .ok (.istore_n 3, 1) := by decide +kernel
theorem dX8_best_91 : decode cX8_best 91 = .ok (.iload 7, 2) := by decide +kernel
theorem dX8_best_93 : decode cX8_best 93 = .ok (.istore 4, 2) := by decide +kernel
theorem dX8_best_95 : decode cX8_best 95 = .ok (.iinc 6 1, 3) := by decide +kernel
theorem dX8_best_98 : decode cX8_best 98 = .ok (.goto (-54), 3) := by decide +kernel
theorem dX8_best_101 : decode cX8_best 101 = .ok (.iinc 5 1, 3) := by decide +kernel
theorem dX8_best_104 : decode cX8_best 104 = .ok (.goto (-77), 3) := by decide +kernel
theorem dX8_best_107 : decode cX8_best 107 = .ok (.iload_n 1, 1) := by decide +kernel
theorem dX8_best_108 : decode cX8_best 108 = .ok (.ifCond .ne 7, 3) := by decide +kernel
theorem dX8_best_111 : decode cX8_best 111 = .ok (.iload_n 2, 1) := by decide +kernel
theorem dX8_best_112 : decode cX8_best 112 = .ok (.goto 14, 3) := by decide +kernel
theorem dX8_best_115 : decode cX8_best 115 = .ok (.iload_n 1, 1) := by decide +kernel
theorem dX8_best_116 : decode cX8_best 116 = .ok (.iconst 1, 1) := by decide +kernel
theorem dX8_best_117 : decode cX8_best 117 = .ok (.if_icmp .ne 7, 3) := by decide +kernel
theorem dX8_best_120 : decode cX8_best 120 = .ok (.iload_n 3, 1) := by decide +kernel
theorem dX8_best_121 : decode cX8_best 121 = .ok (.goto 5, 3) := by decide +kernel
theorem dX8_best_124 : decode cX8_best 124 = .ok (.iload 4, 2) := by decide +kernel
theorem dX8_best_126 : decode cX8_best 126 = .ok (.ireturn, 1) := by decide +kernel
theorem dX8_account_0 : decode cX8_account 0 = .ok (.aload_n 0, 1) := by decide +kernel
theorem dX8_account_1 : decode cX8_account 1 = .ok (.getfield 22, 3) := by decide +kernel
theorem dX8_account_4 : decode cX8_account 4 = .ok (.aload_n 0, 1) := by decide +kernel
theorem dX8_account_5 : decode cX8_account 5 = .ok (.getfield 10, 3) := by decide +kernel
theorem dX8_account_8 : decode cX8_account 8 = .ok (.invokevirtual 56, 3) := by decide +kernel
theorem dX8_account_11 : decode cX8_account 11 = .ok (.aload_n 0, 1) := by decide +kernel
theorem dX8_account_12 : decode cX8_account 12 = .ok (.getfield 10, 3) := by decide +kernel
theorem dX8_account_15 : decode cX8_account 15 = .ok (.getfield 82, 3) := by decide +kernel
theorem dX8_account_18 : decode cX8_account 18 = .ok (.getfield 223, 3) := by decide +kernel
theorem dX8_account_21 : decode cX8_account 21 = .ok (.istore_n 1, 1) := by decide +kernel
theorem dX8_account_22 : decode cX8_account 22 = .ok (.aload_n 0, 1) := by decide +kernel
theorem dX8_account_23 : decode cX8_account 23 = .ok (.getfield 10, 3) := by decide +kernel
theorem dX8_account_26 : decode cX8_account 26 = .ok (.getfield 82, 3) := by decide +kernel
theorem dX8_account_29 : decode cX8_account 29 = .ok (.invokevirtual 224, 3) := by decide +kernel
theorem dX8_account_32 : decode cX8_account 32 = .ok (.iload_n 1, 1) := by decide +kernel
theorem dX8_account_33 : decode cX8_account 33 = .ok (.ireturn, 1) := by decide +kernel
theorem dX8_put_0 : decode cX8_put 0 = .ok (.lload_n 1, 1) := by decide +kernel
theorem dX8_put_1 : decode cX8_put 1 = .ok (.invokestatic 227, 3) := by decide +kernel
theorem dX8_put_4 : decode cX8_put 4 = .ok (.istore_n 3, 1) := by decide +kernel
theorem dX8_put_5 : decode cX8_put 5 = .ok (.iload_n 3, 1) := by decide +kernel
theorem dX8_put_6 : decode cX8_put 6 = .ok (.ifCond .ne 6, 3) := by decide +kernel
theorem dX8_put_9 : decode cX8_put 9 = .ok (.bipush (-2), 2) := by decide +kernel
theorem dX8_put_11 : decode cX8_put 11 = .ok (.ireturn, 1) := by decide +kernel
theorem dX8_put_12 : decode cX8_put 12 = .ok (.aload_n 0, 1) := by decide +kernel
theorem dX8_put_13 : decode cX8_put 13 = .ok (.getfield 41, 3) := by decide +kernel
theorem dX8_put_16 : decode cX8_put 16 = .ok (.getfield 193, 3) := by decide +kernel
theorem dX8_put_19 : decode cX8_put 19 = .ok (.iload_n 3, 1) := by decide +kernel
theorem dX8_put_20 : decode cX8_put 20 = .ok (.iadd, 1) := by decide +kernel
theorem dX8_put_21 : decode cX8_put 21 = .ok (.bipush 80, 2) := by decide +kernel
theorem dX8_put_23 : decode cX8_put 23 = .ok (.if_icmp .le 6, 3) := by decide +kernel
theorem dX8_put_26 : decode cX8_put 26 = .ok (.bipush (-4), 2) := by decide +kernel
theorem dX8_put_28 : decode cX8_put 28 = .ok (.ireturn, 1) := by decide +kernel
theorem dX8_put_29 : decode cX8_put 29 = .ok (.iload_n 3, 1) := by decide +kernel
theorem dX8_put_30 : decode cX8_put 30 = .ok (.iconst 1, 1) := by decide +kernel
theorem dX8_put_31 : decode cX8_put 31 = .ok (.isub, 1) := by decide +kernel
theorem dX8_put_32 : decode cX8_put 32 = .ok (.istore 4, 2) := by decide +kernel
theorem dX8_put_34 : decode cX8_put 34 = .ok (.iload 4, 2) := by decide +kernel
theorem dX8_put_36 : decode cX8_put 36 = .ok (.ifCond .lt 22, 3) := by decide +kernel
theorem dX8_put_39 : decode cX8_put 39 = .ok (.aload_n 0, 1) := by decide +kernel
theorem dX8_put_40 : decode cX8_put 40 = .ok (.getfield 41, 3) := by decide +kernel
theorem dX8_put_43 : decode cX8_put 43 = .ok (.lload_n 1, 1) := by decide +kernel
theorem dX8_put_44 : decode cX8_put 44 = .ok (.iload 4, 2) := by decide +kernel
theorem dX8_put_46 : decode cX8_put 46 = .ok (.invokestatic 231, 3) := by decide +kernel
theorem dX8_put_49 : decode cX8_put 49 = .ok (.invokevirtual 235, 3) := by decide +kernel
theorem dX8_put_52 : decode cX8_put 52 = .ok (.iinc 4 (-1), 3) := by decide +kernel
theorem dX8_put_55 : decode cX8_put 55 = .ok (.goto (-21), 3) := by decide +kernel
theorem dX8_put_58 : decode cX8_put 58 = .ok (.aload_n 0, 1) := by decide +kernel
theorem dX8_put_59 : decode cX8_put 59 = .ok (.getfield 41, 3) := by decide +kernel
theorem dX8_put_62 : decode cX8_put 62 = .ok (.getfield 193, 3) := by decide +kernel
theorem dX8_put_65 : decode cX8_put 65 = .ok (.ireturn, 1) := by decide +kernel
theorem dX8_wipe_0 : decode cX8_wipe 0 = .ok (.aload_n 0, 1) := by decide +kernel
theorem dX8_wipe_1 : decode cX8_wipe 1 = .ok (.getfield 41, 3) := by decide +kernel
theorem dX8_wipe_4 : decode cX8_wipe 4 = .ok (.getfield 193, 3) := by decide +kernel
theorem dX8_wipe_7 : decode cX8_wipe 7 = .ok (.istore_n 1, 1) := by decide +kernel
theorem dX8_wipe_8 : decode cX8_wipe 8 = .ok (.aload_n 0, 1) := by decide +kernel
theorem dX8_wipe_9 : decode cX8_wipe 9 = .ok (.getfield 41, 3) := by decide +kernel
theorem dX8_wipe_12 : decode cX8_wipe 12 = .ok (.iconst 0, 1) := by decide +kernel
theorem dX8_wipe_13 : decode cX8_wipe 13 = .ok (.putfield 193, 3) := by decide +kernel
theorem dX8_wipe_16 : decode cX8_wipe 16 = .ok (.iload_n 1, 1) := by decide +kernel
theorem dX8_wipe_17 : decode cX8_wipe 17 = .ok (.ireturn, 1) := by decide +kernel
theorem dX8_fault_0 : decode cX8_fault 0 = .ok (.aload_n 0, 1) := by decide +kernel
theorem dX8_fault_1 : decode cX8_fault 1 = .ok (.getfield 33, 3) := by decide +kernel
theorem dX8_fault_4 : decode cX8_fault 4 = .ok (.invokevirtual 238, 3) := by decide +kernel
theorem dX8_fault_7 : decode cX8_fault 7 = .ok (.ireturn, 1) := by decide +kernel
theorem dX8_carryOut_0 : decode cX8_carryOut 0 = .ok (.aload_n 0, 1) := by decide +kernel
theorem dX8_carryOut_1 : decode cX8_carryOut 1 = .ok (.getfield 33, 3) := by decide +kernel
theorem dX8_carryOut_4 : decode cX8_carryOut 4 = .ok (.invokevirtual 238, 3) := by decide +kernel
theorem dX8_carryOut_7 : decode cX8_carryOut 7 = .ok (.bipush (-6), 2) := by decide +kernel
theorem dX8_carryOut_9 : decode cX8_carryOut 9 = .ok (.if_icmp .eq 6, 3) := by decide +kernel
theorem dX8_carryOut_12 : decode cX8_carryOut 12 = .ok (.bipush (-3), 2) := by decide +kernel
theorem dX8_carryOut_14 : decode cX8_carryOut 14 = .ok (.ireturn, 1) := by decide +kernel
theorem dX8_carryOut_15 : decode cX8_carryOut 15 = .ok (.aload_n 0, 1) := by decide +kernel
theorem dX8_carryOut_16 : decode cX8_carryOut 16 = .ok (.getfield 22, 3) := by decide +kernel
theorem dX8_carryOut_19 : decode cX8_carryOut 19 = .ok (.aload_n 0, 1) := by decide +kernel
theorem dX8_carryOut_20 : decode cX8_carryOut 20 = .ok (.getfield 10, 3) := by decide +kernel
theorem dX8_carryOut_23 : decode cX8_carryOut 23 = .ok (.invokevirtual 56, 3) := by decide +kernel
theorem dX8_carryOut_26 : decode cX8_carryOut 26 = .ok (.iconst 0, 1) := by decide +kernel
theorem dX8_carryOut_27 : decode cX8_carryOut 27 = .ok (.istore_n 1, 1) := by decide +kernel
theorem dX8_carryOut_28 : decode cX8_carryOut 28 = .ok (.aload_n 0, 1) := by decide +kernel
theorem dX8_carryOut_29 : decode cX8_carryOut 29 = .ok (.getfield 33, 3) := by decide +kernel
theorem dX8_carryOut_32 : decode cX8_carryOut 32 = .ok (.iconst 0, 1) := by decide +kernel
theorem dX8_carryOut_33 : decode cX8_carryOut 33 = .ok (.putfield 241, 3) := by decide +kernel
theorem dX8_carryOut_36 : decode cX8_carryOut 36 = .ok (.iload_n 1, 1) := by decide +kernel
theorem dX8_carryOut_37 : decode cX8_carryOut 37 = .ok (.bipush 80, 2) := by decide +kernel
theorem dX8_carryOut_39 : decode cX8_carryOut 39 = .ok (.if_icmp .ge 55, 3) := by decide +kernel
theorem dX8_carryOut_42 : decode cX8_carryOut 42 = .ok (.aload_n 0, 1) := by decide +kernel
theorem dX8_carryOut_43 : decode cX8_carryOut 43 = .ok (.getfield 33, 3) := by decide +kernel
theorem dX8_carryOut_46 : decode cX8_carryOut 46 = .ok (.invokevirtual 244, 3) := by decide +kernel
theorem dX8_carryOut_49 : decode cX8_carryOut 49 = .ok (.ifCond .eq 45, 3) := by decide +kernel
theorem dX8_carryOut_52 : decode cX8_carryOut 52 = .ok (.aload_n 0, 1) := by decide +kernel
theorem dX8_carryOut_53 : decode cX8_carryOut 53 = .ok (.aload_n 0, 1) := by decide +kernel
theorem dX8_carryOut_54 : decode cX8_carryOut 54 = .ok (.getfield 33, 3) := by decide +kernel
theorem dX8_carryOut_57 : decode cX8_carryOut 57 = .ok (.getfield 248, 3) := by decide +kernel
theorem dX8_carryOut_60 : decode cX8_carryOut 60 = .ok (.aload_n 0, 1) := by decide +kernel
theorem dX8_carryOut_61 : decode cX8_carryOut 61 = .ok (.getfield 33, 3) := by decide +kernel
theorem dX8_carryOut_64 : decode cX8_carryOut 64 = .ok (.getfield 251, 3) := by decide +kernel
theorem dX8_carryOut_67 : decode cX8_carryOut 67 = .ok (.aload_n 0, 1) := by decide +kernel
theorem dX8_carryOut_68 : decode cX8_carryOut 68 = .ok (.getfield 33, 3) := by decide +kernel
theorem dX8_carryOut_71 : decode cX8_carryOut 71 = .ok (.getfield 254, 3) := by decide +kernel
theorem dX8_carryOut_74 : decode cX8_carryOut 74 = .ok (.aload_n 0, 1) := by decide +kernel
theorem dX8_carryOut_75 : decode cX8_carryOut 75 = .ok (.getfield 33, 3) := by decide +kernel
theorem dX8_carryOut_78 : decode cX8_carryOut 78 = .ok (.getfield 257, 3) := by decide +kernel
theorem dX8_carryOut_81 : decode cX8_carryOut 81 = .ok (.iconst 0, 1) := by decide +kernel
theorem dX8_carryOut_82 : decode cX8_carryOut 82 = .ok (.invokevirtual 74, 3) := by decide +kernel
theorem dX8_carryOut_85 : decode cX8_carryOut 85 = .ok (.ifCond .lt 9, 3) := by decide +kernel
theorem dX8_carryOut_88 : decode cX8_carryOut 88 = .ok (.iinc 1 1, 3) := by decide +kernel
theorem dX8_carryOut_91 : decode cX8_carryOut 91 = .ok (.goto (-55), 3) := by decide +kernel
theorem dX8_carryOut_94 : decode cX8_carryOut 94 = .ok (.aload_n 0, 1) := by decide +kernel
theorem dX8_carryOut_95 : decode cX8_carryOut 95 = .ok (.getfield 41, 3) := by decide +kernel
theorem dX8_carryOut_98 : decode cX8_carryOut 98 = .ok (.iconst 0, 1) := by decide +kernel
theorem dX8_carryOut_99 : decode cX8_carryOut 99 = .ok (.putfield 193, 3) := by decide +kernel
theorem dX8_carryOut_102 : decode cX8_carryOut 102 = .ok (.iload_n 1, 1) := by decide +kernel
theorem dX8_carryOut_103 : decode cX8_carryOut 103 = .ok (.ireturn, 1) := by decide +kernel
theorem dX8_howManyCharacters_0 : decode cX8_howManyCharacters 0 = .ok (.iconst 0, 1) := by decide +kernel
theorem dX8_howManyCharacters_1 : decode cX8_howManyCharacters 1 = .ok (.istore_n 2, 1) := by decide +kernel
theorem dX8_howManyCharacters_2 : decode cX8_howManyCharacters 2 = .ok (.iload_n 2, 1) := by decide +kernel
theorem dX8_howManyCharacters_3 : decode cX8_howManyCharacters 3 = .ok (.bipush 8, 2) := by decide +kernel
theorem dX8_howManyCharacters_5 : decode cX8_howManyCharacters 5 = .ok (.if_icmp .ge 37, 3) := by decide +kernel
theorem dX8_howManyCharacters_8 : decode cX8_howManyCharacters 8 = .ok (.lload_n 0, 1) := by decide +kernel
theorem dX8_howManyCharacters_9 : decode cX8_howManyCharacters 9 = .ok (.iload_n 2, 1) := by decide +kernel
theorem dX8_howManyCharacters_10 : decode cX8_howManyCharacters 10 = .ok (.invokestatic 231, 3) := by decide +kernel
theorem dX8_howManyCharacters_13 : decode cX8_howManyCharacters 13 = .ok (.ifCond .eq 29, 3) := by decide +kernel
theorem dX8_howManyCharacters_16 : decode cX8_howManyCharacters 16 = .ok (.lload_n 0, 1) := by decide +kernel
theorem dX8_howManyCharacters_17 : decode cX8_howManyCharacters 17 = .ok (.iload_n 2, 1) := by decide +kernel
theorem dX8_howManyCharacters_18 : decode cX8_howManyCharacters 18 = .ok (.invokestatic 231, 3) := by decide +kernel
theorem dX8_howManyCharacters_21 : decode cX8_howManyCharacters 21 = .ok (.istore_n 3, 1) := by decide +kernel
theorem dX8_howManyCharacters_22 : decode cX8_howManyCharacters 22 = .ok (.iload_n 3, 1) := by decide +kernel
theorem dX8_howManyCharacters_23 : decode cX8_howManyCharacters 23 = .ok (.bipush 33, 2) := by decide +kernel
theorem dX8_howManyCharacters_25 : decode cX8_howManyCharacters 25 = .ok (.if_icmp .lt 9, 3) := by decide +kernel
theorem dX8_howManyCharacters_28 : decode cX8_howManyCharacters 28 = .ok (.iload_n 3, 1) := by decide +kernel
theorem dX8_howManyCharacters_29 : decode cX8_howManyCharacters 29 = .ok (.bipush 126, 2) := by decide +kernel
theorem dX8_howManyCharacters_31 : decode cX8_howManyCharacters 31 = .ok (.if_icmp .le 5, 3) := by decide +kernel
theorem dX8_howManyCharacters_34 : decode cX8_howManyCharacters 34 = .ok (.iconst 0, 1) := by decide +kernel
theorem dX8_howManyCharacters_35 : decode cX8_howManyCharacters 35 = .ok (.ireturn, 1) := by decide +kernel
theorem dX8_howManyCharacters_36 : decode cX8_howManyCharacters 36 = .ok (.iinc 2 1, 3) := by decide +kernel
theorem dX8_howManyCharacters_39 : decode cX8_howManyCharacters 39 = .ok (.goto (-37), 3) := by decide +kernel
theorem dX8_howManyCharacters_42 : decode cX8_howManyCharacters 42 = .ok (.iload_n 2, 1) := by decide +kernel
theorem dX8_howManyCharacters_43 : decode cX8_howManyCharacters 43 = .ok (.bipush 8, 2) := by decide +kernel
theorem dX8_howManyCharacters_45 : decode cX8_howManyCharacters 45 = .ok (.if_icmp .eq 14, 3) := by decide +kernel
theorem dX8_howManyCharacters_48 : decode cX8_howManyCharacters 48 = .ok (.lload_n 0, 1) := by decide +kernel
theorem dX8_howManyCharacters_49 : decode cX8_howManyCharacters 49 = .ok (.bipush 8, 2) := by decide +kernel
theorem dX8_howManyCharacters_51 : decode cX8_howManyCharacters 51 = .ok (.iload_n 2, 1) := by decide +kernel
theorem dX8_howManyCharacters_52 : decode cX8_howManyCharacters 52 = .ok (.imul, 1) := by decide +kernel
theorem dX8_howManyCharacters_53 : decode cX8_howManyCharacters 53 = .ok (.lushr, 1) := by decide +kernel
theorem dX8_howManyCharacters_54 : decode cX8_howManyCharacters 54 = .ok (.lconst 0, 1) := by decide +kernel
theorem dX8_howManyCharacters_55 : decode cX8_howManyCharacters 55 = .ok (.lcmp, 1) := by decide +kernel
theorem dX8_howManyCharacters_56 : decode cX8_howManyCharacters 56 = .ok (.ifCond .ne 7, 3) := by decide +kernel
theorem dX8_howManyCharacters_59 : decode cX8_howManyCharacters 59 = .ok (.iload_n 2, 1) := by decide +kernel
theorem dX8_howManyCharacters_60 : decode cX8_howManyCharacters 60 = .ok (.goto 4, 3) := by decide +kernel
theorem dX8_howManyCharacters_63 : decode cX8_howManyCharacters 63 = .ok (.iconst 0, 1) := by decide +kernel
theorem dX8_howManyCharacters_64 : decode cX8_howManyCharacters 64 = .ok (.ireturn, 1) := by decide +kernel
theorem dX8_codeAt_0 : decode cX8_codeAt 0 = .ok (.lload_n 0, 1) := by decide +kernel
theorem dX8_codeAt_1 : decode cX8_codeAt 1 = .ok (.bipush 8, 2) := by decide +kernel
theorem dX8_codeAt_3 : decode cX8_codeAt 3 = .ok (.iload_n 2, 1) := by decide +kernel
theorem dX8_codeAt_4 : decode cX8_codeAt 4 = .ok (.imul, 1) := by decide +kernel
theorem dX8_codeAt_5 : decode cX8_codeAt 5 = .ok (.lushr, 1) := by decide +kernel
theorem dX8_codeAt_6 : decode cX8_codeAt 6 = .ok (.ldc2_w 260, 3) := by decide +kernel
theorem dX8_codeAt_9 : decode cX8_codeAt 9 = .ok (.land, 1) := by decide +kernel
theorem dX8_codeAt_10 : decode cX8_codeAt 10 = .ok (.l2i, 1) := by decide +kernel
theorem dX8_codeAt_11 : decode cX8_codeAt 11 = .ok (.ireturn, 1) := by decide +kernel
theorem dX8_undo_0 : decode cX8_undo 0 = .ok (.aload_n 0, 1) := by decide +kernel
theorem dX8_undo_1 : decode cX8_undo 1 = .ok (.getfield 22, 3) := by decide +kernel
theorem dX8_undo_4 : decode cX8_undo 4 = .ok (.aload_n 0, 1) := by decide +kernel
theorem dX8_undo_5 : decode cX8_undo 5 = .ok (.getfield 10, 3) := by decide +kernel
theorem dX8_undo_8 : decode cX8_undo 8 = .ok (.invokevirtual 262, 3) := by decide +kernel
theorem dX8_undo_11 : decode cX8_undo 11 = .ok (.ifCond .eq 13, 3) := by decide +kernel
theorem dX8_undo_14 : decode cX8_undo 14 = .ok (.aload_n 0, 1) := by decide +kernel
theorem dX8_undo_15 : decode cX8_undo 15 = .ok (.getfield 22, 3) := by decide +kernel
theorem dX8_undo_18 : decode cX8_undo 18 = .ok (.getfield 199, 3) := by decide +kernel
theorem dX8_undo_21 : decode cX8_undo 21 = .ok (.goto 5, 3) := by decide +kernel
theorem dX8_undo_24 : decode cX8_undo 24 = .ok (.bipush (-5), 2) := by decide +kernel
theorem dX8_undo_26 : decode cX8_undo 26 = .ok (.ireturn, 1) := by decide +kernel
theorem dX8_save_0 : decode cX8_save 0 = .ok (.iload_n 1, 1) := by decide +kernel
theorem dX8_save_1 : decode cX8_save 1 = .ok (.ifCond .lt 12, 3) := by decide +kernel
theorem dX8_save_4 : decode cX8_save 4 = .ok (.iload_n 1, 1) := by decide +kernel
theorem dX8_save_5 : decode cX8_save 5 = .ok (.aload_n 0, 1) := by decide +kernel
theorem dX8_save_6 : decode cX8_save 6 = .ok (.getfield 26, 3) := by decide +kernel
theorem dX8_save_9 : decode cX8_save 9 = .ok (.arraylength, 1) := by decide +kernel
theorem dX8_save_10 : decode cX8_save 10 = .ok (.if_icmp .lt 6, 3) := by decide +kernel
theorem dX8_save_13 : decode cX8_save 13 = .ok (.bipush (-2), 2) := by decide +kernel
theorem dX8_save_15 : decode cX8_save 15 = .ok (.ireturn, 1) := by decide +kernel
theorem dX8_save_16 : decode cX8_save 16 = .ok (.aload_n 0, 1) := by decide +kernel
theorem dX8_save_17 : decode cX8_save 17 = .ok (.getfield 26, 3) := by decide +kernel
theorem dX8_save_20 : decode cX8_save 20 = .ok (.iload_n 1, 1) := by decide +kernel
theorem dX8_save_21 : decode cX8_save 21 = .ok (.aaload, 1) := by decide +kernel
theorem dX8_save_22 : decode cX8_save 22 = .ok (.astore_n 2, 1) := by decide +kernel
theorem dX8_save_23 : decode cX8_save 23 = .ok (.aload_n 2, 1) := by decide +kernel
theorem dX8_save_24 : decode cX8_save 24 = .ok (.ifnonnull 18, 3) := by decide +kernel
theorem dX8_save_27 : decode cX8_save 27 = .ok (.new 7, 3) := by decide +kernel
theorem dX8_save_30 : decode cX8_save 30 = .ok (.dup, 1) := by decide +kernel
theorem dX8_save_31 : decode cX8_save 31 = .ok (.invokespecial 9, 3) := by decide +kernel
theorem dX8_save_34 : decode cX8_save 34 = .ok (.astore_n 2, 1) := by decide +kernel
theorem dX8_save_35 : decode cX8_save 35 = .ok (.aload_n 0, 1) := by decide +kernel
theorem dX8_save_36 : decode cX8_save 36 = .ok (.getfield 26, 3) := by decide +kernel
theorem dX8_save_39 : decode cX8_save 39 = .ok (.iload_n 1, 1) := by decide +kernel
theorem dX8_save_40 : decode cX8_save 40 = .ok (.aload_n 2, 1) := by decide +kernel
theorem dX8_save_41 : decode cX8_save 41 = .ok (.aastore, 1) := by decide +kernel
theorem dX8_save_42 : decode cX8_save 42 = .ok (.aload_n 2, 1) := by decide +kernel
theorem dX8_save_43 : decode cX8_save 43 = .ok (.aload_n 0, 1) := by decide +kernel
theorem dX8_save_44 : decode cX8_save 44 = .ok (.getfield 10, 3) := by decide +kernel
theorem dX8_save_47 : decode cX8_save 47 = .ok (.invokevirtual 266, 3) := by decide +kernel
theorem dX8_save_50 : decode cX8_save 50 = .ok (.aload_n 0, 1) := by decide +kernel
theorem dX8_save_51 : decode cX8_save 51 = .ok (.getfield 10, 3) := by decide +kernel
theorem dX8_save_54 : decode cX8_save 54 = .ok (.getfield 181, 3) := by decide +kernel
theorem dX8_save_57 : decode cX8_save 57 = .ok (.iconst 0, 1) := by decide +kernel
theorem dX8_save_58 : decode cX8_save 58 = .ok (.invokevirtual 64, 3) := by decide +kernel
theorem dX8_save_61 : decode cX8_save 61 = .ok (.ireturn, 1) := by decide +kernel
theorem dX8_restore_0 : decode cX8_restore 0 = .ok (.iload_n 1, 1) := by decide +kernel
theorem dX8_restore_1 : decode cX8_restore 1 = .ok (.ifCond .lt 12, 3) := by decide +kernel
theorem dX8_restore_4 : decode cX8_restore 4 = .ok (.iload_n 1, 1) := by decide +kernel
theorem dX8_restore_5 : decode cX8_restore 5 = .ok (.aload_n 0, 1) := by decide +kernel
theorem dX8_restore_6 : decode cX8_restore 6 = .ok (.getfield 26, 3) := by decide +kernel
theorem dX8_restore_9 : decode cX8_restore 9 = .ok (.arraylength, 1) := by decide +kernel
theorem dX8_restore_10 : decode cX8_restore 10 = .ok (.if_icmp .lt 6, 3) := by decide +kernel
theorem dX8_restore_13 : decode cX8_restore 13 = .ok (.bipush (-2), 2) := by decide +kernel
theorem dX8_restore_15 : decode cX8_restore 15 = .ok (.ireturn, 1) := by decide +kernel
theorem dX8_restore_16 : decode cX8_restore 16 = .ok (.aload_n 0, 1) := by decide +kernel
theorem dX8_restore_17 : decode cX8_restore 17 = .ok (.getfield 26, 3) := by decide +kernel
theorem dX8_restore_20 : decode cX8_restore 20 = .ok (.iload_n 1, 1) := by decide +kernel
theorem dX8_restore_21 : decode cX8_restore 21 = .ok (.aaload, 1) := by decide +kernel
theorem dX8_restore_22 : decode cX8_restore 22 = .ok (.astore_n 2, 1) := by decide +kernel
theorem dX8_restore_23 : decode cX8_restore 23 = .ok (.aload_n 2, 1) := by decide +kernel
theorem dX8_restore_24 : decode cX8_restore 24 = .ok (.ifnonnull 6, 3) := by decide +kernel
theorem dX8_restore_27 : decode cX8_restore 27 = .ok (.bipush (-5), 2) := by decide +kernel
theorem dX8_restore_29 : decode cX8_restore 29 = .ok (.ireturn, 1) := by decide +kernel
theorem dX8_restore_30 : decode cX8_restore 30 = .ok (.aload_n 0, 1) := by decide +kernel
theorem dX8_restore_31 : decode cX8_restore 31 = .ok (.getfield 22, 3) := by decide +kernel
theorem dX8_restore_34 : decode cX8_restore 34 = .ok (.aload_n 0, 1) := by decide +kernel
theorem dX8_restore_35 : decode cX8_restore 35 = .ok (.getfield 10, 3) := by decide +kernel
theorem dX8_restore_38 : decode cX8_restore 38 = .ok (.invokevirtual 56, 3) := by decide +kernel
theorem dX8_restore_41 : decode cX8_restore 41 = .ok (.aload_n 0, 1) := by decide +kernel
theorem dX8_restore_42 : decode cX8_restore 42 = .ok (.getfield 10, 3) := by decide +kernel
theorem dX8_restore_45 : decode cX8_restore 45 = .ok (.aload_n 2, 1) := by decide +kernel
theorem dX8_restore_46 : decode cX8_restore 46 = .ok (.invokevirtual 266, 3) := by decide +kernel
theorem dX8_restore_49 : decode cX8_restore 49 = .ok (.aload_n 0, 1) := by decide +kernel
theorem dX8_restore_50 : decode cX8_restore 50 = .ok (.getfield 10, 3) := by decide +kernel
theorem dX8_restore_53 : decode cX8_restore 53 = .ok (.getfield 181, 3) := by decide +kernel
theorem dX8_restore_56 : decode cX8_restore 56 = .ok (.iconst 0, 1) := by decide +kernel
theorem dX8_restore_57 : decode cX8_restore 57 = .ok (.invokevirtual 64, 3) := by decide +kernel
theorem dX8_restore_60 : decode cX8_restore 60 = .ok (.ireturn, 1) := by decide +kernel
theorem dX8_isReader_0 : decode cX8_isReader 0 = .ok (.iload_n 0, 1) := by decide +kernel
theorem dX8_isReader_1 : decode cX8_isReader 1 = .ok (.ifCond .lt 13, 3) := by decide +kernel
theorem dX8_isReader_4 : decode cX8_isReader 4 = .ok (.iload_n 0, 1) := by decide +kernel
theorem dX8_isReader_5 : decode cX8_isReader 5 = .ok (.bipush 16, 2) := by decide +kernel
theorem dX8_isReader_7 : decode cX8_isReader 7 = .ok (.if_icmp .ge 7, 3) := by decide +kernel
theorem dX8_isReader_10 : decode cX8_isReader 10 = .ok (.iconst 1, 1) := by decide +kernel
theorem dX8_isReader_11 : decode cX8_isReader 11 = .ok (.goto 4, 3) := by decide +kernel
theorem dX8_isReader_14 : decode cX8_isReader 14 = .ok (.iconst 0, 1) := by decide +kernel
theorem dX8_isReader_15 : decode cX8_isReader 15 = .ok (.ireturn, 1) := by decide +kernel
theorem dX8_isNote_0 : decode cX8_isNote 0 = .ok (.iload_n 0, 1) := by decide +kernel
theorem dX8_isNote_1 : decode cX8_isNote 1 = .ok (.ifCond .lt 13, 3) := by decide +kernel
theorem dX8_isNote_4 : decode cX8_isNote 4 = .ok (.iload_n 0, 1) := by decide +kernel
theorem dX8_isNote_5 : decode cX8_isNote 5 = .ok (.bipush 24, 2) := by decide +kernel
theorem dX8_isNote_7 : decode cX8_isNote 7 = .ok (.if_icmp .ge 7, 3) := by decide +kernel
theorem dX8_isNote_10 : decode cX8_isNote 10 = .ok (.iconst 1, 1) := by decide +kernel
theorem dX8_isNote_11 : decode cX8_isNote 11 = .ok (.goto 4, 3) := by decide +kernel
theorem dX8_isNote_14 : decode cX8_isNote 14 = .ok (.iconst 0, 1) := by decide +kernel
theorem dX8_isNote_15 : decode cX8_isNote 15 = .ok (.ireturn, 1) := by decide +kernel
theorem dX8_isValueOf_0 : decode cX8_isValueOf 0 = .ok (.iload_n 0, 1) := by decide +kernel
theorem dX8_isValueOf_1 : decode cX8_isValueOf 1 = .ok (.ifCond .lt 41, 3) := by decide +kernel
theorem dX8_isValueOf_4 : decode cX8_isValueOf 4 = .ok (.iload_n 0, 1) := by decide +kernel
theorem dX8_isValueOf_5 : decode cX8_isValueOf 5 = .ok (.getstatic 216, 3) := by decide +kernel
theorem dX8_isValueOf_8 : decode cX8_isValueOf 8 = .ok (.arraylength, 1) := by decide +kernel
theorem dX8_isValueOf_9 : decode cX8_isValueOf 9 = .ok (.if_icmp .ge 33, 3) := by decide +kernel
theorem dX8_isValueOf_12 : decode cX8_isValueOf 12 = .ok (.iload_n 0, 1) := by decide +kernel
theorem dX8_isValueOf_13 : decode cX8_isValueOf 13 = .ok (.getstatic 220, 3) := by decide +kernel
theorem dX8_isValueOf_16 : decode cX8_isValueOf 16 = .ok (.arraylength, 1) := by decide +kernel
theorem dX8_isValueOf_17 : decode cX8_isValueOf 17 = .ok (.if_icmp .ge 25, 3) := by decide +kernel
theorem dX8_isValueOf_20 : decode cX8_isValueOf 20 = .ok (.iload_n 1, 1) := by decide +kernel
theorem dX8_isValueOf_21 : decode cX8_isValueOf 21 = .ok (.getstatic 216, 3) := by decide +kernel
theorem dX8_isValueOf_24 : decode cX8_isValueOf 24 = .ok (.iload_n 0, 1) := by decide +kernel
theorem dX8_isValueOf_25 : decode cX8_isValueOf 25 = .ok (.iaload, 1) := by decide +kernel
theorem dX8_isValueOf_26 : decode cX8_isValueOf 26 = .ok (.if_icmp .lt 16, 3) := by decide +kernel
theorem dX8_isValueOf_29 : decode cX8_isValueOf 29 = .ok (.iload_n 1, 1) := by decide +kernel
theorem dX8_isValueOf_30 : decode cX8_isValueOf 30 = .ok (.getstatic 220, 3) := by decide +kernel
theorem dX8_isValueOf_33 : decode cX8_isValueOf 33 = .ok (.iload_n 0, 1) := by decide +kernel
theorem dX8_isValueOf_34 : decode cX8_isValueOf 34 = .ok (.iaload, 1) := by decide +kernel
theorem dX8_isValueOf_35 : decode cX8_isValueOf 35 = .ok (.if_icmp .gt 7, 3) := by decide +kernel
theorem dX8_isValueOf_38 : decode cX8_isValueOf 38 = .ok (.iconst 1, 1) := by decide +kernel
theorem dX8_isValueOf_39 : decode cX8_isValueOf 39 = .ok (.goto 4, 3) := by decide +kernel
theorem dX8_isValueOf_42 : decode cX8_isValueOf 42 = .ok (.iconst 0, 1) := by decide +kernel
theorem dX8_isValueOf_43 : decode cX8_isValueOf 43 = .ok (.ireturn, 1) := by decide +kernel
theorem dX8_groupOf_0 : decode cX8_groupOf 0 = .ok (.iload_n 1, 1) := by decide +kernel
theorem dX8_groupOf_1 : decode cX8_groupOf 1 = .ok (.ifCond .le 9, 3) := by decide +kernel
theorem dX8_groupOf_4 : decode cX8_groupOf 4 = .ok (.iload_n 0, 1) := by decide +kernel
theorem dX8_groupOf_5 : decode cX8_groupOf 5 = .ok (.iload_n 1, 1) := by decide +kernel
theorem dX8_groupOf_6 : decode cX8_groupOf 6 = .ok (.idiv, 1) := by decide +kernel
theorem dX8_groupOf_7 : decode cX8_groupOf 7 = .ok (.goto 4, 3) := by decide +kernel
theorem dX8_groupOf_10 : decode cX8_groupOf 10 = .ok (.iconst 0, 1) := by decide +kernel
theorem dX8_groupOf_11 : decode cX8_groupOf 11 = .ok (.ireturn, 1) := by decide +kernel
theorem dX8_only_0 : decode cX8_only 0 = .ok (.iconst 1, 1) := by decide +kernel
theorem dX8_only_1 : decode cX8_only 1 = .ok (.iload_n 0, 1) := by decide +kernel
theorem dX8_only_2 : decode cX8_only 2 = .ok (.ishl, 1) := by decide +kernel
theorem dX8_only_3 : decode cX8_only 3 = .ok (.ireturn, 1) := by decide +kernel
theorem dX8_isIn_0 : decode cX8_isIn 0 = .ok (.iload_n 1, 1) := by decide +kernel
theorem dX8_isIn_1 : decode cX8_isIn 1 = .ok (.iload_n 0, 1) := by decide +kernel
theorem dX8_isIn_2 : decode cX8_isIn 2 = .ok (.ishr, 1) := by decide +kernel
theorem dX8_isIn_3 : decode cX8_isIn 3 = .ok (.iconst 1, 1) := by decide +kernel
theorem dX8_isIn_4 : decode cX8_isIn 4 = .ok (.iand, 1) := by decide +kernel
theorem dX8_isIn_5 : decode cX8_isIn 5 = .ok (.ifCond .eq 7, 3) := by decide +kernel
theorem dX8_isIn_8 : decode cX8_isIn 8 = .ok (.iconst 1, 1) := by decide +kernel
theorem dX8_isIn_9 : decode cX8_isIn 9 = .ok (.goto 4, 3) := by decide +kernel
theorem dX8_isIn_12 : decode cX8_isIn 12 = .ok (.iconst 0, 1) := by decide +kernel
theorem dX8_isIn_13 : decode cX8_isIn 13 = .ok (.ireturn, 1) := by decide +kernel
theorem dX9_init_0 : decode cX9_init 0 = .ok (.aload_n 0, 1) := by decide +kernel
theorem dX9_init_1 : decode cX9_init 1 = .ok (.invokespecial 1, 3) := by decide +kernel
theorem dX9_init_4 : decode cX9_init 4 = .ok (.aload_n 0, 1) := by decide +kernel
theorem dX9_init_5 : decode cX9_init 5 = .ok (.sipush 652, 3) := by decide +kernel
theorem dX9_init_8 : decode cX9_init 8 = .ok (.newarray .int, 2) := by decide +kernel
theorem dX9_init_10 : decode cX9_init 10 = .ok (.putfield 7, 3) := by decide +kernel
theorem dX9_init_13 : decode cX9_init 13 = .ok (.aload_n 0, 1) := by decide +kernel
theorem dX9_init_14 : decode cX9_init 14 = .ok (.sipush 3912, 3) := by decide +kernel
theorem dX9_init_17 : decode cX9_init 17 = .ok (.newarray .int, 2) := by decide +kernel
theorem dX9_init_19 : decode cX9_init 19 = .ok (.putfield 13, 3) := by decide +kernel
theorem dX9_init_22 : decode cX9_init 22 = .ok (.aload_n 0, 1) := by decide +kernel
theorem dX9_init_23 : decode cX9_init 23 = .ok (.sipush 1304, 3) := by decide +kernel
theorem dX9_init_26 : decode cX9_init 26 = .ok (.newarray .int, 2) := by decide +kernel
theorem dX9_init_28 : decode cX9_init 28 = .ok (.putfield 16, 3) := by decide +kernel
theorem dX9_init_31 : decode cX9_init 31 = .ok (.aload_n 0, 1) := by decide +kernel
theorem dX9_init_32 : decode cX9_init 32 = .ok (.iconst 2, 1) := by decide +kernel
theorem dX9_init_33 : decode cX9_init 33 = .ok (.newarray .boolean, 2) := by decide +kernel
theorem dX9_init_35 : decode cX9_init 35 = .ok (.putfield 19, 3) := by decide +kernel
theorem dX9_init_38 : decode cX9_init 38 = .ok (.aload_n 0, 1) := by decide +kernel
theorem dX9_init_39 : decode cX9_init 39 = .ok (.sipush 652, 3) := by decide +kernel
theorem dX9_init_42 : decode cX9_init 42 = .ok (.newarray .int, 2) := by decide +kernel
theorem dX9_init_44 : decode cX9_init 44 = .ok (.putfield 23, 3) := by decide +kernel
theorem dX9_init_47 : decode cX9_init 47 = .ok (.aload_n 0, 1) := by decide +kernel
theorem dX9_init_48 : decode cX9_init 48 = .ok (.bipush 80, 2) := by decide +kernel
theorem dX9_init_50 : decode cX9_init 50 = .ok (.newarray .int, 2) := by decide +kernel
theorem dX9_init_52 : decode cX9_init 52 = .ok (.putfield 26, 3) := by decide +kernel
theorem dX9_init_55 : decode cX9_init 55 = .ok (.aload_n 0, 1) := by decide +kernel
theorem dX9_init_56 : decode cX9_init 56 = .ok (.bipush 29, 2) := by decide +kernel
theorem dX9_init_58 : decode cX9_init 58 = .ok (.newarray .int, 2) := by decide +kernel
theorem dX9_init_60 : decode cX9_init 60 = .ok (.putfield 29, 3) := by decide +kernel
theorem dX9_init_63 : decode cX9_init 63 = .ok (.aload_n 0, 1) := by decide +kernel
theorem dX9_init_64 : decode cX9_init 64 = .ok (.bipush 87, 2) := by decide +kernel
theorem dX9_init_66 : decode cX9_init 66 = .ok (.newarray .int, 2) := by decide +kernel
theorem dX9_init_68 : decode cX9_init 68 = .ok (.putfield 32, 3) := by decide +kernel
theorem dX9_init_71 : decode cX9_init 71 = .ok (.aload_n 0, 1) := by decide +kernel
theorem dX9_init_72 : decode cX9_init 72 = .ok (.getfield 7, 3) := by decide +kernel
theorem dX9_init_75 : decode cX9_init 75 = .ok (.iconst 0, 1) := by decide +kernel
theorem dX9_init_76 : decode cX9_init 76 = .ok (.iconst 2, 1) := by decide +kernel
theorem dX9_init_77 : decode cX9_init 77 = .ok (.iastore, 1) := by decide +kernel
theorem dX9_init_78 : decode cX9_init 78 = .ok (.aload_n 0, 1) := by decide +kernel
theorem dX9_init_79 : decode cX9_init 79 = .ok (.getfield 7, 3) := by decide +kernel
theorem dX9_init_82 : decode cX9_init 82 = .ok (.iconst 1, 1) := by decide +kernel
theorem dX9_init_83 : decode cX9_init 83 = .ok (.iconst 4, 1) := by decide +kernel
theorem dX9_init_84 : decode cX9_init 84 = .ok (.iastore, 1) := by decide +kernel
theorem dX9_init_85 : decode cX9_init 85 = .ok (.aload_n 0, 1) := by decide +kernel
theorem dX9_init_86 : decode cX9_init 86 = .ok (.getfield 7, 3) := by decide +kernel
theorem dX9_init_89 : decode cX9_init 89 = .ok (.iconst 2, 1) := by decide +kernel
theorem dX9_init_90 : decode cX9_init 90 = .ok (.iconst 3, 1) := by decide +kernel
theorem dX9_init_91 : decode cX9_init 91 = .ok (.iastore, 1) := by decide +kernel
theorem dX9_init_92 : decode cX9_init 92 = .ok (.return_, 1) := by decide +kernel
theorem dX9_in_0 : decode cX9_in 0 = .ok (.iload_n 0, 1) := by decide +kernel
theorem dX9_in_1 : decode cX9_in 1 = .ok (.iload_n 1, 1) := by decide +kernel
theorem dX9_in_2 : decode cX9_in 2 = .ok (.if_icmp .lt 12, 3) := by decide +kernel
theorem dX9_in_5 : decode cX9_in 5 = .ok (.iload_n 0, 1) := by decide +kernel
theorem dX9_in_6 : decode cX9_in 6 = .ok (.iload_n 2, 1) := by decide +kernel
theorem dX9_in_7 : decode cX9_in 7 = .ok (.if_icmp .gt 7, 3) := by decide +kernel
theorem dX9_in_10 : decode cX9_in 10 = .ok (.iconst 1, 1) := by decide +kernel
theorem dX9_in_11 : decode cX9_in 11 = .ok (.goto 4, 3) := by decide +kernel
theorem dX9_in_14 : decode cX9_in 14 = .ok (.iconst 0, 1) := by decide +kernel
theorem dX9_in_15 : decode cX9_in 15 = .ok (.ireturn, 1) := by decide +kernel
theorem dX9_has_0 : decode cX9_has 0 = .ok (.iload_n 0, 1) := by decide +kernel
theorem dX9_has_1 : decode cX9_has 1 = .ok (.iload_n 1, 1) := by decide +kernel
theorem dX9_has_2 : decode cX9_has 2 = .ok (.ishr, 1) := by decide +kernel
theorem dX9_has_3 : decode cX9_has 3 = .ok (.iconst 1, 1) := by decide +kernel
theorem dX9_has_4 : decode cX9_has 4 = .ok (.iand, 1) := by decide +kernel
theorem dX9_has_5 : decode cX9_has 5 = .ok (.iconst 1, 1) := by decide +kernel
theorem dX9_has_6 : decode cX9_has 6 = .ok (.if_icmp .ne 7, 3) := by decide +kernel
theorem dX9_has_9 : decode cX9_has 9 = .ok (.iconst 1, 1) := by decide +kernel
theorem dX9_has_10 : decode cX9_has 10 = .ok (.goto 4, 3) := by decide +kernel
theorem dX9_has_13 : decode cX9_has 13 = .ok (.iconst 0, 1) := by decide +kernel
theorem dX9_has_14 : decode cX9_has 14 = .ok (.ireturn, 1) := by decide +kernel
theorem dX9_many_0 : decode cX9_many 0 = .ok (.iconst 0, 1) := by decide +kernel
theorem dX9_many_1 : decode cX9_many 1 = .ok (.istore_n 1, 1) := by decide +kernel
theorem dX9_many_2 : decode cX9_many 2 = .ok (.iconst 0, 1) := by decide +kernel
theorem dX9_many_3 : decode cX9_many 3 = .ok (.istore_n 2, 1) := by decide +kernel
theorem dX9_many_4 : decode cX9_many 4 = .ok (.iload_n 2, 1) := by decide +kernel
theorem dX9_many_5 : decode cX9_many 5 = .ok (.bipush 24, 2) := by decide +kernel
theorem dX9_many_7 : decode cX9_many 7 = .ok (.if_icmp .ge 17, 3) := by decide +kernel
theorem dX9_many_10 : decode cX9_many 10 = .ok (.iload_n 1, 1) := by decide +kernel
theorem dX9_many_11 : decode cX9_many 11 = .ok (.iload_n 0, 1) := by decide +kernel
theorem dX9_many_12 : decode cX9_many 12 = .ok (.iload_n 2, 1) := by decide +kernel
theorem dX9_many_13 : decode cX9_many 13 = .ok (.ishr, 1) := by decide +kernel
theorem dX9_many_14 : decode cX9_many 14 = .ok (.iconst 1, 1) := by decide +kernel
theorem dX9_many_15 : decode cX9_many 15 = .ok (.iand, 1) := by decide +kernel
theorem dX9_many_16 : decode cX9_many 16 = .ok (.iadd, 1) := by decide +kernel
theorem dX9_many_17 : decode cX9_many 17 = .ok (.istore_n 1, 1) := by decide +kernel
theorem dX9_many_18 : decode cX9_many 18 = .ok (.iinc 2 1, 3) := by decide +kernel
theorem dX9_many_21 : decode cX9_many 21 = .ok (.goto (-17), 3) := by decide +kernel
theorem dX9_many_24 : decode cX9_many 24 = .ok (.iload_n 1, 1) := by decide +kernel
theorem dX9_many_25 : decode cX9_many 25 = .ok (.ireturn, 1) := by decide +kernel
theorem dX9_isReader_0 : decode cX9_isReader 0 = .ok (.iload_n 0, 1) := by decide +kernel
theorem dX9_isReader_1 : decode cX9_isReader 1 = .ok (.iconst 0, 1) := by decide +kernel
theorem dX9_isReader_2 : decode cX9_isReader 2 = .ok (.bipush 15, 2) := by decide +kernel
theorem dX9_isReader_4 : decode cX9_isReader 4 = .ok (.invokestatic 35, 3) := by decide +kernel
theorem dX9_isReader_7 : decode cX9_isReader 7 = .ok (.ireturn, 1) := by decide +kernel
theorem dX9_isNote_0 : decode cX9_isNote 0 = .ok (.iload_n 0, 1) := by decide +kernel
theorem dX9_isNote_1 : decode cX9_isNote 1 = .ok (.iconst 0, 1) := by decide +kernel
theorem dX9_isNote_2 : decode cX9_isNote 2 = .ok (.bipush 23, 2) := by decide +kernel
theorem dX9_isNote_4 : decode cX9_isNote 4 = .ok (.invokestatic 35, 3) := by decide +kernel
theorem dX9_isNote_7 : decode cX9_isNote 7 = .ok (.ireturn, 1) := by decide +kernel
theorem dX9_ofN_0 : decode cX9_ofN 0 = .ok (.aload_n 0, 1) := by decide +kernel
theorem dX9_ofN_1 : decode cX9_ofN 1 = .ok (.getfield 7, 3) := by decide +kernel
theorem dX9_ofN_4 : decode cX9_ofN 4 = .ok (.bipush 8, 2) := by decide +kernel
theorem dX9_ofN_6 : decode cX9_ofN 6 = .ok (.iconst 5, 1) := by decide +kernel
theorem dX9_ofN_7 : decode cX9_ofN 7 = .ok (.iload_n 1, 1) := by decide +kernel
theorem dX9_ofN_8 : decode cX9_ofN 8 = .ok (.imul, 1) := by decide +kernel
theorem dX9_ofN_9 : decode cX9_ofN 9 = .ok (.iadd, 1) := by decide +kernel
theorem dX9_ofN_10 : decode cX9_ofN 10 = .ok (.iload_n 2, 1) := by decide +kernel
theorem dX9_ofN_11 : decode cX9_ofN 11 = .ok (.iadd, 1) := by decide +kernel
theorem dX9_ofN_12 : decode cX9_ofN 12 = .ok (.iaload, 1) := by decide +kernel
theorem dX9_ofN_13 : decode cX9_ofN 13 = .ok (.ireturn, 1) := by decide +kernel
