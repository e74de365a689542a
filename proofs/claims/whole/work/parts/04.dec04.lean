theorem dX9_tryRecall_26 : decode cX9_tryRecall 26 = .ok (.aload_n 0, 1) := by decide +kernel
theorem dX9_tryRecall_27 : decode cX9_tryRecall 27 = .ok (.iload_n 1, 1) := by decide +kernel
theorem dX9_tryRecall_28 : decode cX9_tryRecall 28 = .ok (.iconst 3, 1) := by decide +kernel
theorem dX9_tryRecall_29 : decode cX9_tryRecall 29 = .ok (.invokevirtual 75, 3) := by decide +kernel
theorem dX9_tryRecall_32 : decode cX9_tryRecall 32 = .ok (.istore_n 3, 1) := by decide +kernel
theorem dX9_tryRecall_33 : decode cX9_tryRecall 33 = .ok (.aload_n 0, 1) := by decide +kernel
theorem dX9_tryRecall_34 : decode cX9_tryRecall 34 = .ok (.iload_n 1, 1) := by decide +kernel
theorem dX9_tryRecall_35 : decode cX9_tryRecall 35 = .ok (.bipush (-6), 2) := by decide +kernel
theorem dX9_tryRecall_37 : decode cX9_tryRecall 37 = .ok (.invokevirtual 120, 3) := by decide +kernel
theorem dX9_tryRecall_40 : decode cX9_tryRecall 40 = .ok (.aload_n 0, 1) := by decide +kernel
theorem dX9_tryRecall_41 : decode cX9_tryRecall 41 = .ok (.iload_n 1, 1) := by decide +kernel
theorem dX9_tryRecall_42 : decode cX9_tryRecall 42 = .ok (.iconst 0, 1) := by decide +kernel
theorem dX9_tryRecall_43 : decode cX9_tryRecall 43 = .ok (.iconst 0, 1) := by decide +kernel
theorem dX9_tryRecall_44 : decode cX9_tryRecall 44 = .ok (.invokevirtual 86, 3) := by decide +kernel
theorem dX9_tryRecall_47 : decode cX9_tryRecall 47 = .ok (.aload_n 0, 1) := by decide +kernel
theorem dX9_tryRecall_48 : decode cX9_tryRecall 48 = .ok (.iload_n 1, 1) := by decide +kernel
theorem dX9_tryRecall_49 : decode cX9_tryRecall 49 = .ok (.iconst 3, 1) := by decide +kernel
theorem dX9_tryRecall_50 : decode cX9_tryRecall 50 = .ok (.invokevirtual 75, 3) := by decide +kernel
theorem dX9_tryRecall_53 : decode cX9_tryRecall 53 = .ok (.iload_n 3, 1) := by decide +kernel
theorem dX9_tryRecall_54 : decode cX9_tryRecall 54 = .ok (.isub, 1) := by decide +kernel
theorem dX9_tryRecall_55 : decode cX9_tryRecall 55 = .ok (.ireturn, 1) := by decide +kernel
theorem dX9_recall_0 : decode cX9_recall 0 = .ok (.aload_n 0, 1) := by decide +kernel
theorem dX9_recall_1 : decode cX9_recall 1 = .ok (.iload_n 1, 1) := by decide +kernel
theorem dX9_recall_2 : decode cX9_recall 2 = .ok (.iconst 1, 1) := by decide +kernel
theorem dX9_recall_3 : decode cX9_recall 3 = .ok (.invokevirtual 160, 3) := by decide +kernel
theorem dX9_recall_6 : decode cX9_recall 6 = .ok (.ireturn, 1) := by decide +kernel
theorem dX9_cardsThat_0 : decode cX9_cardsThat 0 = .ok (.iconst 0, 1) := by decide +kernel
theorem dX9_cardsThat_1 : decode cX9_cardsThat 1 = .ok (.istore_n 3, 1) := by decide +kernel
theorem dX9_cardsThat_2 : decode cX9_cardsThat 2 = .ok (.iconst 0, 1) := by decide +kernel
theorem dX9_cardsThat_3 : decode cX9_cardsThat 3 = .ok (.istore 4, 2) := by decide +kernel
theorem dX9_cardsThat_5 : decode cX9_cardsThat 5 = .ok (.iload 4, 2) := by decide +kernel
theorem dX9_cardsThat_7 : decode cX9_cardsThat 7 = .ok (.bipush 24, 2) := by decide +kernel
theorem dX9_cardsThat_9 : decode cX9_cardsThat 9 = .ok (.if_icmp .ge 32, 3) := by decide +kernel
theorem dX9_cardsThat_12 : decode cX9_cardsThat 12 = .ok (.iload_n 3, 1) := by decide +kernel
theorem dX9_cardsThat_13 : decode cX9_cardsThat 13 = .ok (.aload_n 0, 1) := by decide +kernel
theorem dX9_cardsThat_14 : decode cX9_cardsThat 14 = .ok (.iload 4, 2) := by decide +kernel
theorem dX9_cardsThat_16 : decode cX9_cardsThat 16 = .ok (.iconst 1, 1) := by decide +kernel
theorem dX9_cardsThat_17 : decode cX9_cardsThat 17 = .ok (.invokevirtual 75, 3) := by decide +kernel
theorem dX9_cardsThat_20 : decode cX9_cardsThat 20 = .ok (.iload_n 1, 1) := by decide +kernel
theorem dX9_cardsThat_21 : decode cX9_cardsThat 21 = .ok (.iload_n 2, 1) := by decide +kernel
theorem dX9_cardsThat_22 : decode cX9_cardsThat 22 = .ok (.invokestatic 35, 3) := by decide +kernel
theorem dX9_cardsThat_25 : decode cX9_cardsThat 25 = .ok (.ifCond .eq 7, 3) := by decide +kernel
theorem dX9_cardsThat_28 : decode cX9_cardsThat 28 = .ok (.iconst 1, 1) := by decide +kernel
theorem dX9_cardsThat_29 : decode cX9_cardsThat 29 = .ok (.goto 4, 3) := by decide +kernel
theorem dX9_cardsThat_32 : decode cX9_cardsThat 32 = .ok (.iconst 0, 1) := by decide +kernel
theorem dX9_cardsThat_33 : decode cX9_cardsThat 33 = .ok (.iadd, 1) := by decide +kernel
theorem dX9_cardsThat_34 : decode cX9_cardsThat 34 = .ok (.istore_n 3, 1) := by decide +kernel
theorem dX9_cardsThat_35 : decode cX9_cardsThat 35 = .ok (.iinc 4 1, 3) := by decide +kernel
theorem dX9_cardsThat_38 : decode cX9_cardsThat 38 = .ok (.goto (-33), 3) := by decide +kernel
theorem dX9_cardsThat_41 : decode cX9_cardsThat 41 = .ok (.iload_n 3, 1) := by decide +kernel
theorem dX9_cardsThat_42 : decode cX9_cardsThat 42 = .ok (.ireturn, 1) := by decide +kernel
theorem dX9_set_0 : decode cX9_set 0 = .ok (.iload_n 1, 1) := by decide +kernel
theorem dX9_set_1 : decode cX9_set 1 = .ok (.iconst 0, 1) := by decide +kernel
theorem dX9_set_2 : decode cX9_set 2 = .ok (.iconst 3, 1) := by decide +kernel
theorem dX9_set_3 : decode cX9_set 3 = .ok (.invokestatic 35, 3) := by decide +kernel
theorem dX9_set_6 : decode cX9_set 6 = .ok (.ifCond .eq 44, 3) := by decide +kernel
theorem dX9_set_9 : decode cX9_set 9 = .ok (.iload_n 2, 1) := by decide +kernel
theorem dX9_set_10 : decode cX9_set 10 = .ok (.iload_n 1, 1) := by decide +kernel
theorem dX9_set_11 : decode cX9_set 11 = .ok (.iconst 1, 1) := by decide +kernel
theorem dX9_set_12 : decode cX9_set 12 = .ok (.if_icmp .eq 8, 3) := by decide +kernel
theorem dX9_set_15 : decode cX9_set 15 = .ok (.iload_n 1, 1) := by decide +kernel
theorem dX9_set_16 : decode cX9_set 16 = .ok (.iconst 2, 1) := by decide +kernel
theorem dX9_set_17 : decode cX9_set 17 = .ok (.if_icmp .ne 7, 3) := by decide +kernel
theorem dX9_set_20 : decode cX9_set 20 = .ok (.iconst 1, 1) := by decide +kernel
theorem dX9_set_21 : decode cX9_set 21 = .ok (.goto 4, 3) := by decide +kernel
theorem dX9_set_24 : decode cX9_set 24 = .ok (.iconst 0, 1) := by decide +kernel
theorem dX9_set_25 : decode cX9_set 25 = .ok (.iload_n 1, 1) := by decide +kernel
theorem dX9_set_26 : decode cX9_set 26 = .ok (.ifCond .ne 7, 3) := by decide +kernel
theorem dX9_set_29 : decode cX9_set 29 = .ok (.iconst 4, 1) := by decide +kernel
theorem dX9_set_30 : decode cX9_set 30 = .ok (.goto 14, 3) := by decide +kernel
theorem dX9_set_33 : decode cX9_set 33 = .ok (.iload_n 1, 1) := by decide +kernel
theorem dX9_set_34 : decode cX9_set 34 = .ok (.iconst 3, 1) := by decide +kernel
theorem dX9_set_35 : decode cX9_set 35 = .ok (.if_icmp .ne 7, 3) := by decide +kernel
theorem dX9_set_38 : decode cX9_set 38 = .ok (.iconst 1, 1) := by decide +kernel
theorem dX9_set_39 : decode cX9_set 39 = .ok (.goto 5, 3) := by decide +kernel
theorem dX9_set_42 : decode cX9_set 42 = .ok (.bipush 8, 2) := by decide +kernel
theorem dX9_set_44 : decode cX9_set 44 = .ok (.invokestatic 35, 3) := by decide +kernel
theorem dX9_set_47 : decode cX9_set 47 = .ok (.ifCond .ne 6, 3) := by decide +kernel
theorem dX9_set_50 : decode cX9_set 50 = .ok (.bipush (-2), 2) := by decide +kernel
theorem dX9_set_52 : decode cX9_set 52 = .ok (.ireturn, 1) := by decide +kernel
theorem dX9_set_53 : decode cX9_set 53 = .ok (.iload_n 1, 1) := by decide +kernel
theorem dX9_set_54 : decode cX9_set 54 = .ok (.iconst 2, 1) := by decide +kernel
theorem dX9_set_55 : decode cX9_set 55 = .ok (.if_icmp .ge 15, 3) := by decide +kernel
theorem dX9_set_58 : decode cX9_set 58 = .ok (.aload_n 0, 1) := by decide +kernel
theorem dX9_set_59 : decode cX9_set 59 = .ok (.iconst 1, 1) := by decide +kernel
theorem dX9_set_60 : decode cX9_set 60 = .ok (.iconst 3, 1) := by decide +kernel
theorem dX9_set_61 : decode cX9_set 61 = .ok (.invokevirtual 164, 3) := by decide +kernel
theorem dX9_set_64 : decode cX9_set 64 = .ok (.ifCond .le 6, 3) := by decide +kernel
theorem dX9_set_67 : decode cX9_set 67 = .ok (.bipush (-5), 2) := by decide +kernel
theorem dX9_set_69 : decode cX9_set 69 = .ok (.ireturn, 1) := by decide +kernel
theorem dX9_set_70 : decode cX9_set 70 = .ok (.aload_n 0, 1) := by decide +kernel
theorem dX9_set_71 : decode cX9_set 71 = .ok (.invokevirtual 46, 3) := by decide +kernel
theorem dX9_set_74 : decode cX9_set 74 = .ok (.aload_n 0, 1) := by decide +kernel
theorem dX9_set_75 : decode cX9_set 75 = .ok (.getfield 7, 3) := by decide +kernel
theorem dX9_set_78 : decode cX9_set 78 = .ok (.iload_n 1, 1) := by decide +kernel
theorem dX9_set_79 : decode cX9_set 79 = .ok (.iaload, 1) := by decide +kernel
theorem dX9_set_80 : decode cX9_set 80 = .ok (.istore_n 3, 1) := by decide +kernel
theorem dX9_set_81 : decode cX9_set 81 = .ok (.aload_n 0, 1) := by decide +kernel
theorem dX9_set_82 : decode cX9_set 82 = .ok (.getfield 7, 3) := by decide +kernel
theorem dX9_set_85 : decode cX9_set 85 = .ok (.iload_n 1, 1) := by decide +kernel
theorem dX9_set_86 : decode cX9_set 86 = .ok (.iload_n 2, 1) := by decide +kernel
theorem dX9_set_87 : decode cX9_set 87 = .ok (.iastore, 1) := by decide +kernel
theorem dX9_set_88 : decode cX9_set 88 = .ok (.iload_n 3, 1) := by decide +kernel
theorem dX9_set_89 : decode cX9_set 89 = .ok (.ireturn, 1) := by decide +kernel
theorem dX9_holders_0 : decode cX9_holders 0 = .ok (.iconst 0, 1) := by decide +kernel
theorem dX9_holders_1 : decode cX9_holders 1 = .ok (.istore_n 2, 1) := by decide +kernel
theorem dX9_holders_2 : decode cX9_holders 2 = .ok (.iconst 0, 1) := by decide +kernel
theorem dX9_holders_3 : decode cX9_holders 3 = .ok (.istore_n 3, 1) := by decide +kernel
theorem dX9_holders_4 : decode cX9_holders 4 = .ok (.iload_n 3, 1) := by decide +kernel
theorem dX9_holders_5 : decode cX9_holders 5 = .ok (.bipush 16, 2) := by decide +kernel
theorem dX9_holders_7 : decode cX9_holders 7 = .ok (.if_icmp .ge 28, 3) := by decide +kernel
theorem dX9_holders_10 : decode cX9_holders 10 = .ok (.iload_n 2, 1) := by decide +kernel
theorem dX9_holders_11 : decode cX9_holders 11 = .ok (.aload_n 0, 1) := by decide +kernel
theorem dX9_holders_12 : decode cX9_holders 12 = .ok (.iload_n 3, 1) := by decide +kernel
theorem dX9_holders_13 : decode cX9_holders 13 = .ok (.iload_n 1, 1) := by decide +kernel
theorem dX9_holders_14 : decode cX9_holders 14 = .ok (.invokevirtual 95, 3) := by decide +kernel
theorem dX9_holders_17 : decode cX9_holders 17 = .ok (.ifCond .lt 9, 3) := by decide +kernel
theorem dX9_holders_20 : decode cX9_holders 20 = .ok (.iconst 1, 1) := by decide +kernel
theorem dX9_holders_21 : decode cX9_holders 21 = .ok (.iload_n 3, 1) := by decide +kernel
theorem dX9_holders_22 : decode cX9_holders 22 = .ok (.ishl, 1) := by decide +kernel
theorem dX9_holders_23 : decode cX9_holders 23 = .ok (.goto 4, 3) := by decide +kernel
theorem dX9_holders_26 : decode cX9_holders 26 = .ok (.iconst 0, 1) := by decide +kernel
theorem dX9_holders_27 : decode cX9_holders 27 = .ok (.ior, 1) := by decide +kernel
theorem dX9_holders_28 : decode cX9_holders 28 = .ok (.istore_n 2, 1) := by decide +kernel
theorem dX9_holders_29 : decode cX9_holders 29 = .ok (.iinc 3 1, 3) := by decide +kernel
theorem dX9_holders_32 : decode cX9_holders 32 = .ok (.goto (-28), 3) := by decide +kernel
theorem dX9_holders_35 : decode cX9_holders 35 = .ok (.iload_n 2, 1) := by decide +kernel
theorem dX9_holders_36 : decode cX9_holders 36 = .ok (.ireturn, 1) := by decide +kernel
theorem dX9_valueNow_0 : decode cX9_valueNow 0 = .ok (.aload_n 0, 1) := by decide +kernel
theorem dX9_valueNow_1 : decode cX9_valueNow 1 = .ok (.iload_n 1, 1) := by decide +kernel
theorem dX9_valueNow_2 : decode cX9_valueNow 2 = .ok (.iconst 0, 1) := by decide +kernel
theorem dX9_valueNow_3 : decode cX9_valueNow 3 = .ok (.invokevirtual 75, 3) := by decide +kernel
theorem dX9_valueNow_6 : decode cX9_valueNow 6 = .ok (.istore_n 2, 1) := by decide +kernel
theorem dX9_valueNow_7 : decode cX9_valueNow 7 = .ok (.iconst 0, 1) := by decide +kernel
theorem dX9_valueNow_8 : decode cX9_valueNow 8 = .ok (.istore_n 3, 1) := by decide +kernel
theorem dX9_valueNow_9 : decode cX9_valueNow 9 = .ok (.iload_n 3, 1) := by decide +kernel
theorem dX9_valueNow_10 : decode cX9_valueNow 10 = .ok (.bipush 16, 2) := by decide +kernel
theorem dX9_valueNow_12 : decode cX9_valueNow 12 = .ok (.if_icmp .ge 47, 3) := by decide +kernel
theorem dX9_valueNow_15 : decode cX9_valueNow 15 = .ok (.aload_n 0, 1) := by decide +kernel
theorem dX9_valueNow_16 : decode cX9_valueNow 16 = .ok (.iload_n 3, 1) := by decide +kernel
theorem dX9_valueNow_17 : decode cX9_valueNow 17 = .ok (.iload_n 1, 1) := by decide +kernel
theorem dX9_valueNow_18 : decode cX9_valueNow 18 = .ok (.invokevirtual 95, 3) := by decide +kernel
theorem dX9_valueNow_21 : decode cX9_valueNow 21 = .ok (.istore 4, 2) := by decide +kernel
theorem dX9_valueNow_23 : decode cX9_valueNow 23 = .ok (.iload 4, 2) := by decide +kernel
theorem dX9_valueNow_25 : decode cX9_valueNow 25 = .ok (.ifCond .lt 26, 3) := by decide +kernel
theorem dX9_valueNow_28 : decode cX9_valueNow 28 = .ok (.aload_n 0, 1) := by decide +kernel
theorem dX9_valueNow_29 : decode cX9_valueNow 29 = .ok (.iload_n 3, 1) := by decide +kernel
theorem dX9_valueNow_30 : decode cX9_valueNow 30 = .ok (.iload 4, 2) := by decide +kernel
theorem dX9_valueNow_32 : decode cX9_valueNow 32 = .ok (.iconst 2, 1) := by decide +kernel
theorem dX9_valueNow_33 : decode cX9_valueNow 33 = .ok (.invokevirtual 53, 3) := by decide +kernel
theorem dX9_valueNow_36 : decode cX9_valueNow 36 = .ok (.iconst 1, 1) := by decide +kernel
theorem dX9_valueNow_37 : decode cX9_valueNow 37 = .ok (.if_icmp .ne 14, 3) := by decide +kernel
theorem dX9_valueNow_40 : decode cX9_valueNow 40 = .ok (.aload_n 0, 1) := by decide +kernel
theorem dX9_valueNow_41 : decode cX9_valueNow 41 = .ok (.iload_n 3, 1) := by decide +kernel
theorem dX9_valueNow_42 : decode cX9_valueNow 42 = .ok (.iload 4, 2) := by decide +kernel
theorem dX9_valueNow_44 : decode cX9_valueNow 44 = .ok (.iconst 1, 1) := by decide +kernel
theorem dX9_valueNow_45 : decode cX9_valueNow 45 = .ok (.invokevirtual 53, 3) := by decide +kernel
theorem dX9_valueNow_48 : decode cX9_valueNow 48 = .ok (.goto 4, 3) := by decide +kernel
theorem dX9_valueNow_51 : decode cX9_valueNow 51 = .ok (.iload_n 2, 1) := by decide +kernel
theorem dX9_valueNow_52 : decode cX9_valueNow 52 = .ok (.istore_n 2, 1) := by decide +kernel
theorem dX9_valueNow_53 : decode cX9_valueNow 53 = .ok (.iinc 3 1, 3) := by decide +kernel
theorem dX9_valueNow_56 : decode cX9_valueNow 56 = .ok (.goto (-47), 3) := by decide +kernel
theorem dX9_valueNow_59 : decode cX9_valueNow 59 = .ok (.iload_n 2, 1) := by decide +kernel
theorem dX9_valueNow_60 : decode cX9_valueNow 60 = .ok (.ireturn, 1) := by decide +kernel
theorem dX9_ofNote_0 : decode cX9_ofNote 0 = .ok (.iload_n 1, 1) := by decide +kernel
theorem dX9_ofNote_1 : decode cX9_ofNote 1 = .ok (.invokestatic 133, 3) := by decide +kernel
theorem dX9_ofNote_4 : decode cX9_ofNote 4 = .ok (.ifCond .ne 5, 3) := by decide +kernel
theorem dX9_ofNote_7 : decode cX9_ofNote 7 = .ok (.iconst (-1), 1) := by decide +kernel
theorem dX9_ofNote_8 : decode cX9_ofNote 8 = .ok (.ireturn, 1) := by decide +kernel
theorem dX9_ofNote_9 : decode cX9_ofNote 9 = .ok (.iload_n 2, 1) := by decide +kernel
theorem dX9_ofNote_10 : decode cX9_ofNote 10 = .ok (.tableswitch 106 0 8 #[50, 50, 50, 57, 63, 69, 86, 92, 99], 50) := by decide +kernel
theorem dX9_ofNote_60 : decode cX9_ofNote 60 = .ok (.aload_n 0, 1) := by decide +kernel
theorem dX9_ofNote_61 : decode cX9_ofNote 61 = .ok (.iload_n 1, 1) := by decide +kernel
theorem dX9_ofNote_62 : decode cX9_ofNote 62 = .ok (.iload_n 2, 1) := by decide +kernel
theorem dX9_ofNote_63 : decode cX9_ofNote 63 = .ok (.invokevirtual 75, 3) := by decide +kernel
theorem dX9_ofNote_66 : decode cX9_ofNote 66 = .ok (.ireturn, 1) := by decide +kernel
theorem dX9_ofNote_67 : decode cX9_ofNote 67 = .ok (.aload_n 0, 1) := by decide +kernel
theorem dX9_ofNote_68 : decode cX9_ofNote 68 = .ok (.iload_n 1, 1) := by decide +kernel
theorem dX9_ofNote_69 : decode cX9_ofNote 69 = .ok (.invokevirtual 101, 3) := by decide +kernel
theorem dX9_ofNote_72 : decode cX9_ofNote 72 = .ok (.ireturn, 1) := by decide +kernel
theorem dX9_ofNote_73 : decode cX9_ofNote 73 = .ok (.aload_n 0, 1) := by decide +kernel
theorem dX9_ofNote_74 : decode cX9_ofNote 74 = .ok (.iload_n 1, 1) := by decide +kernel
theorem dX9_ofNote_75 : decode cX9_ofNote 75 = .ok (.invokevirtual 167, 3) := by decide +kernel
theorem dX9_ofNote_78 : decode cX9_ofNote 78 = .ok (.ireturn, 1) := by decide +kernel
theorem dX9_ofNote_79 : decode cX9_ofNote 79 = .ok (.aload_n 0, 1) := by decide +kernel
theorem dX9_ofNote_80 : decode cX9_ofNote 80 = .ok (.iload_n 1, 1) := by decide +kernel
theorem dX9_ofNote_81 : decode cX9_ofNote 81 = .ok (.invokevirtual 101, 3) := by decide +kernel
theorem dX9_ofNote_84 : decode cX9_ofNote 84 = .ok (.aload_n 0, 1) := by decide +kernel
theorem dX9_ofNote_85 : decode cX9_ofNote 85 = .ok (.iload_n 1, 1) := by decide +kernel
theorem dX9_ofNote_86 : decode cX9_ofNote 86 = .ok (.invokevirtual 167, 3) := by decide +kernel
theorem dX9_ofNote_89 : decode cX9_ofNote 89 = .ok (.iconst (-1), 1) := by decide +kernel
theorem dX9_ofNote_90 : decode cX9_ofNote 90 = .ok (.ixor, 1) := by decide +kernel
theorem dX9_ofNote_91 : decode cX9_ofNote 91 = .ok (.iand, 1) := by decide +kernel
theorem dX9_ofNote_92 : decode cX9_ofNote 92 = .ok (.invokestatic 89, 3) := by decide +kernel
theorem dX9_ofNote_95 : decode cX9_ofNote 95 = .ok (.ireturn, 1) := by decide +kernel
theorem dX9_ofNote_96 : decode cX9_ofNote 96 = .ok (.aload_n 0, 1) := by decide +kernel
theorem dX9_ofNote_97 : decode cX9_ofNote 97 = .ok (.iload_n 1, 1) := by decide +kernel
theorem dX9_ofNote_98 : decode cX9_ofNote 98 = .ok (.invokevirtual 170, 3) := by decide +kernel
theorem dX9_ofNote_101 : decode cX9_ofNote 101 = .ok (.ireturn, 1) := by decide +kernel
theorem dX9_ofNote_102 : decode cX9_ofNote 102 = .ok (.aload_n 0, 1) := by decide +kernel
theorem dX9_ofNote_103 : decode cX9_ofNote 103 = .ok (.iload_n 1, 1) := by decide +kernel
theorem dX9_ofNote_104 : decode cX9_ofNote 104 = .ok (.iconst 3, 1) := by decide +kernel
theorem dX9_ofNote_105 : decode cX9_ofNote 105 = .ok (.invokevirtual 75, 3) := by decide +kernel
theorem dX9_ofNote_108 : decode cX9_ofNote 108 = .ok (.ireturn, 1) := by decide +kernel
theorem dX9_ofNote_109 : decode cX9_ofNote 109 = .ok (.aload_n 0, 1) := by decide +kernel
theorem dX9_ofNote_110 : decode cX9_ofNote 110 = .ok (.iload_n 1, 1) := by decide +kernel
theorem dX9_ofNote_111 : decode cX9_ofNote 111 = .ok (.iconst 4, 1) := by decide +kernel
theorem dX9_ofNote_112 : decode cX9_ofNote 112 = .ok (.invokevirtual 75, 3) := by decide +kernel
theorem dX9_ofNote_115 : decode cX9_ofNote 115 = .ok (.ireturn, 1) := by decide +kernel
theorem dX9_ofNote_116 : decode cX9_ofNote 116 = .ok (.bipush (-2), 2) := by decide +kernel
theorem dX9_ofNote_118 : decode cX9_ofNote 118 = .ok (.ireturn, 1) := by decide +kernel
theorem dX9_onShelf_0 : decode cX9_onShelf 0 = .ok (.iload_n 1, 1) := by decide +kernel
theorem dX9_onShelf_1 : decode cX9_onShelf 1 = .ok (.invokestatic 129, 3) := by decide +kernel
theorem dX9_onShelf_4 : decode cX9_onShelf 4 = .ok (.ifCond .eq 19, 3) := by decide +kernel
theorem dX9_onShelf_7 : decode cX9_onShelf 7 = .ok (.iload_n 2, 1) := by decide +kernel
theorem dX9_onShelf_8 : decode cX9_onShelf 8 = .ok (.iconst 0, 1) := by decide +kernel
theorem dX9_onShelf_9 : decode cX9_onShelf 9 = .ok (.aload_n 0, 1) := by decide +kernel
theorem dX9_onShelf_10 : decode cX9_onShelf 10 = .ok (.iload_n 1, 1) := by decide +kernel
theorem dX9_onShelf_11 : decode cX9_onShelf 11 = .ok (.iconst 0, 1) := by decide +kernel
theorem dX9_onShelf_12 : decode cX9_onShelf 12 = .ok (.invokevirtual 49, 3) := by decide +kernel
theorem dX9_onShelf_15 : decode cX9_onShelf 15 = .ok (.iconst 1, 1) := by decide +kernel
theorem dX9_onShelf_16 : decode cX9_onShelf 16 = .ok (.isub, 1) := by decide +kernel
theorem dX9_onShelf_17 : decode cX9_onShelf 17 = .ok (.invokestatic 35, 3) := by decide +kernel
theorem dX9_onShelf_20 : decode cX9_onShelf 20 = .ok (.ifCond .ne 5, 3) := by decide +kernel
theorem dX9_onShelf_23 : decode cX9_onShelf 23 = .ok (.iconst (-1), 1) := by decide +kernel
theorem dX9_onShelf_24 : decode cX9_onShelf 24 = .ok (.ireturn, 1) := by decide +kernel
theorem dX9_onShelf_25 : decode cX9_onShelf 25 = .ok (.iload_n 3, 1) := by decide +kernel
theorem dX9_onShelf_26 : decode cX9_onShelf 26 = .ok (.iconst 0, 1) := by decide +kernel
theorem dX9_onShelf_27 : decode cX9_onShelf 27 = .ok (.iconst 2, 1) := by decide +kernel
theorem dX9_onShelf_28 : decode cX9_onShelf 28 = .ok (.invokestatic 35, 3) := by decide +kernel
theorem dX9_onShelf_31 : decode cX9_onShelf 31 = .ok (.ifCond .eq 13, 3) := by decide +kernel
theorem dX9_onShelf_34 : decode cX9_onShelf 34 = .ok (.aload_n 0, 1) := by decide +kernel
theorem dX9_onShelf_35 : decode cX9_onShelf 35 = .ok (.iload_n 1, 1) := by decide +kernel
theorem dX9_onShelf_36 : decode cX9_onShelf 36 = .ok (.iload_n 2, 1) := by decide +kernel
theorem dX9_onShelf_37 : decode cX9_onShelf 37 = .ok (.iload_n 3, 1) := by decide +kernel
theorem dX9_onShelf_38 : decode cX9_onShelf 38 = .ok (.invokevirtual 53, 3) := by decide +kernel
theorem dX9_onShelf_41 : decode cX9_onShelf 41 = .ok (.goto 5, 3) := by decide +kernel
theorem dX9_onShelf_44 : decode cX9_onShelf 44 = .ok (.bipush (-2), 2) := by decide +kernel
theorem dX9_onShelf_46 : decode cX9_onShelf 46 = .ok (.ireturn, 1) := by decide +kernel
theorem dX9_callers_0 : decode cX9_callers 0 = .ok (.iconst 0, 1) := by decide +kernel
theorem dX9_callers_1 : decode cX9_callers 1 = .ok (.istore_n 2, 1) := by decide +kernel
theorem dX9_callers_2 : decode cX9_callers 2 = .ok (.iconst 0, 1) := by decide +kernel
theorem dX9_callers_3 : decode cX9_callers 3 = .ok (.istore_n 3, 1) := by decide +kernel
theorem dX9_callers_4 : decode cX9_callers 4 = .ok (.iload_n 3, 1) := by decide +kernel
theorem dX9_callers_5 : decode cX9_callers 5 = .ok (.bipush 24, 2) := by decide +kernel
theorem dX9_callers_7 : decode cX9_callers 7 = .ok (.if_icmp .ge 31, 3) := by decide +kernel
theorem dX9_callers_10 : decode cX9_callers 10 = .ok (.iload_n 2, 1) := by decide +kernel
theorem dX9_callers_11 : decode cX9_callers 11 = .ok (.aload_n 0, 1) := by decide +kernel
theorem dX9_callers_12 : decode cX9_callers 12 = .ok (.iload_n 3, 1) := by decide +kernel
theorem dX9_callers_13 : decode cX9_callers 13 = .ok (.invokevirtual 101, 3) := by decide +kernel
theorem dX9_callers_16 : decode cX9_callers 16 = .ok (.iload_n 1, 1) := by decide +kernel
theorem dX9_callers_17 : decode cX9_callers 17 = .ok (.invokestatic 82, 3) := by decide +kernel
theorem dX9_callers_20 : decode cX9_callers 20 = .ok (.ifCond .eq 9, 3) := by decide +kernel
theorem dX9_callers_23 : decode cX9_callers 23 = .ok (.iconst 1, 1) := by decide +kernel
theorem dX9_callers_24 : decode cX9_callers 24 = .ok (.iload_n 3, 1) := by decide +kernel
theorem dX9_callers_25 : decode cX9_callers 25 = .ok (.ishl, 1) := by decide +kernel
theorem dX9_callers_26 : decode cX9_callers 26 = .ok (.goto 4, 3) := by decide +kernel
theorem dX9_callers_29 : decode cX9_callers 29 = .ok (.iconst 0, 1) := by decide +kernel
theorem dX9_callers_30 : decode cX9_callers 30 = .ok (.ior, 1) := by decide +kernel
theorem dX9_callers_31 : decode cX9_callers 31 = .ok (.istore_n 2, 1) := by decide +kernel
theorem dX9_callers_32 : decode cX9_callers 32 = .ok (.iinc 3 1, 3) := by decide +kernel
theorem dX9_callers_35 : decode cX9_callers 35 = .ok (.goto (-31), 3) := by decide +kernel
theorem dX9_callers_38 : decode cX9_callers 38 = .ok (.iload_n 2, 1) := by decide +kernel
theorem dX9_callers_39 : decode cX9_callers 39 = .ok (.ireturn, 1) := by decide +kernel
theorem dX9_ofReader_0 : decode cX9_ofReader 0 = .ok (.iload_n 1, 1) := by decide +kernel
theorem dX9_ofReader_1 : decode cX9_ofReader 1 = .ok (.invokestatic 129, 3) := by decide +kernel
theorem dX9_ofReader_4 : decode cX9_ofReader 4 = .ok (.ifCond .ne 5, 3) := by decide +kernel
theorem dX9_ofReader_7 : decode cX9_ofReader 7 = .ok (.iconst (-1), 1) := by decide +kernel
theorem dX9_ofReader_8 : decode cX9_ofReader 8 = .ok (.ireturn, 1) := by decide +kernel
theorem dX9_ofReader_9 : decode cX9_ofReader 9 = .ok (.iload_n 2, 1) := by decide +kernel
theorem dX9_ofReader_10 : decode cX9_ofReader 10 = .ok (.tableswitch 89 0 6 #[42, 49, 55, 62, 69, 76, 83], 42) := by decide +kernel
theorem dX9_ofReader_52 : decode cX9_ofReader 52 = .ok (.aload_n 0, 1) := by decide +kernel
theorem dX9_ofReader_53 : decode cX9_ofReader 53 = .ok (.iload_n 1, 1) := by decide +kernel
theorem dX9_ofReader_54 : decode cX9_ofReader 54 = .ok (.iconst 0, 1) := by decide +kernel
theorem dX9_ofReader_55 : decode cX9_ofReader 55 = .ok (.invokevirtual 49, 3) := by decide +kernel
theorem dX9_ofReader_58 : decode cX9_ofReader 58 = .ok (.ireturn, 1) := by decide +kernel
theorem dX9_ofReader_59 : decode cX9_ofReader 59 = .ok (.aload_n 0, 1) := by decide +kernel
theorem dX9_ofReader_60 : decode cX9_ofReader 60 = .ok (.iload_n 1, 1) := by decide +kernel
theorem dX9_ofReader_61 : decode cX9_ofReader 61 = .ok (.invokevirtual 78, 3) := by decide +kernel
theorem dX9_ofReader_64 : decode cX9_ofReader 64 = .ok (.ireturn, 1) := by decide +kernel
theorem dX9_ofReader_65 : decode cX9_ofReader 65 = .ok (.aload_n 0, 1) := by decide +kernel
theorem dX9_ofReader_66 : decode cX9_ofReader 66 = .ok (.iload_n 1, 1) := by decide +kernel
theorem dX9_ofReader_67 : decode cX9_ofReader 67 = .ok (.iconst 1, 1) := by decide +kernel
theorem dX9_ofReader_68 : decode cX9_ofReader 68 = .ok (.invokevirtual 49, 3) := by decide +kernel
theorem dX9_ofReader_71 : decode cX9_ofReader 71 = .ok (.ireturn, 1) := by decide +kernel
theorem dX9_ofReader_72 : decode cX9_ofReader 72 = .ok (.aload_n 0, 1) := by decide +kernel
theorem dX9_ofReader_73 : decode cX9_ofReader 73 = .ok (.iload_n 1, 1) := by decide +kernel
theorem dX9_ofReader_74 : decode cX9_ofReader 74 = .ok (.iconst 2, 1) := by decide +kernel
theorem dX9_ofReader_75 : decode cX9_ofReader 75 = .ok (.invokevirtual 49, 3) := by decide +kernel
theorem dX9_ofReader_78 : decode cX9_ofReader 78 = .ok (.ireturn, 1) := by decide +kernel
theorem dX9_ofReader_79 : decode cX9_ofReader 79 = .ok (.aload_n 0, 1) := by decide +kernel
theorem dX9_ofReader_80 : decode cX9_ofReader 80 = .ok (.iload_n 1, 1) := by decide +kernel
theorem dX9_ofReader_81 : decode cX9_ofReader 81 = .ok (.iconst 3, 1) := by decide +kernel
theorem dX9_ofReader_82 : decode cX9_ofReader 82 = .ok (.invokevirtual 49, 3) := by decide +kernel
theorem dX9_ofReader_85 : decode cX9_ofReader 85 = .ok (.ireturn, 1) := by decide +kernel
theorem dX9_ofReader_86 : decode cX9_ofReader 86 = .ok (.aload_n 0, 1) := by decide +kernel
theorem dX9_ofReader_87 : decode cX9_ofReader 87 = .ok (.iload_n 1, 1) := by decide +kernel
theorem dX9_ofReader_88 : decode cX9_ofReader 88 = .ok (.iconst 4, 1) := by decide +kernel
theorem dX9_ofReader_89 : decode cX9_ofReader 89 = .ok (.invokevirtual 49, 3) := by decide +kernel
theorem dX9_ofReader_92 : decode cX9_ofReader 92 = .ok (.ireturn, 1) := by decide +kernel
theorem dX9_ofReader_93 : decode cX9_ofReader 93 = .ok (.aload_n 0, 1) := by decide +kernel
theorem dX9_ofReader_94 : decode cX9_ofReader 94 = .ok (.iload_n 1, 1) := by decide +kernel
theorem dX9_ofReader_95 : decode cX9_ofReader 95 = .ok (.invokevirtual 173, 3) := by decide +kernel
theorem dX9_ofReader_98 : decode cX9_ofReader 98 = .ok (.ireturn, 1) := by decide +kernel
theorem dX9_ofReader_99 : decode cX9_ofReader 99 = .ok (.bipush (-2), 2) := by decide +kernel
theorem dX9_ofReader_101 : decode cX9_ofReader 101 = .ok (.ireturn, 1) := by decide +kernel
theorem dX9_copies_0 : decode cX9_copies 0 = .ok (.iconst 0, 1) := by decide +kernel
theorem dX9_copies_1 : decode cX9_copies 1 = .ok (.istore_n 2, 1) := by decide +kernel
theorem dX9_copies_2 : decode cX9_copies 2 = .ok (.iconst 0, 1) := by decide +kernel
theorem dX9_copies_3 : decode cX9_copies 3 = .ok (.istore_n 3, 1) := by decide +kernel
theorem dX9_copies_4 : decode cX9_copies 4 = .ok (.iload_n 3, 1) := by decide +kernel
theorem dX9_copies_5 : decode cX9_copies 5 = .ok (.bipush 16, 2) := by decide +kernel
theorem dX9_copies_7 : decode cX9_copies 7 = .ok (.if_icmp .ge 53, 3) := by decide +kernel
theorem dX9_copies_10 : decode cX9_copies 10 = .ok (.iconst 0, 1) := by decide +kernel
theorem dX9_copies_11 : decode cX9_copies 11 = .ok (.istore 4, 2) := by decide +kernel
theorem dX9_copies_13 : decode cX9_copies 13 = .ok (.iload 4, 2) := by decide +kernel
theorem dX9_copies_15 : decode cX9_copies 15 = .ok (.aload_n 0, 1) := by decide +kernel
theorem dX9_copies_16 : decode cX9_copies 16 = .ok (.iload_n 3, 1) := by decide +kernel
theorem dX9_copies_17 : decode cX9_copies 17 = .ok (.iconst 0, 1) := by decide +kernel
theorem dX9_copies_18 : decode cX9_copies 18 = .ok (.invokevirtual 49, 3) := by decide +kernel
theorem dX9_copies_21 : decode cX9_copies 21 = .ok (.if_icmp .ge 33, 3) := by decide +kernel
theorem dX9_copies_24 : decode cX9_copies 24 = .ok (.iload_n 2, 1) := by decide +kernel
theorem dX9_copies_25 : decode cX9_copies 25 = .ok (.iload_n 1, 1) := by decide +kernel
theorem dX9_copies_26 : decode cX9_copies 26 = .ok (.ifCond .eq 15, 3) := by decide +kernel
theorem dX9_copies_29 : decode cX9_copies 29 = .ok (.aload_n 0, 1) := by decide +kernel
theorem dX9_copies_30 : decode cX9_copies 30 = .ok (.iload_n 3, 1) := by decide +kernel
theorem dX9_copies_31 : decode cX9_copies 31 = .ok (.iload 4, 2) := by decide +kernel
theorem dX9_copies_33 : decode cX9_copies 33 = .ok (.iconst 2, 1) := by decide +kernel
theorem dX9_copies_34 : decode cX9_copies 34 = .ok (.invokevirtual 53, 3) := by decide +kernel
theorem dX9_copies_37 : decode cX9_copies 37 = .ok (.iconst 1, 1) := by decide +kernel
theorem dX9_copies_38 : decode cX9_copies 38 = .ok (.if_icmp .ne 7, 3) := by decide +kernel
theorem dX9_copies_41 : decode cX9_copies 41 = .ok (.iconst 1, 1) := by decide +kernel
theorem dX9_copies_42 : decode cX9_copies 42 = .ok (.goto 4, 3) := by decide +kernel
theorem dX9_copies_45 : decode cX9_copies 45 = .ok (.iconst 0, 1) := by decide +kernel
theorem dX9_copies_46 : decode cX9_copies 46 = .ok (.iadd, 1) := by decide +kernel
theorem dX9_copies_47 : decode cX9_copies 47 = .ok (.istore_n 2, 1) := by decide +kernel
theorem dX9_copies_48 : decode cX9_copies 48 = .ok (.iinc 4 1, 3) := by decide +kernel
theorem dX9_copies_51 : decode cX9_copies 51 = .ok (.goto (-38), 3) := by decide +kernel
theorem dX9_copies_54 : decode cX9_copies 54 = .ok (.iinc 3 1, 3) := by decide +kernel
theorem dX9_copies_57 : decode cX9_copies 57 = .ok (.goto (-53), 3) := by decide +kernel
theorem dX9_copies_60 : decode cX9_copies 60 = .ok (.iload_n 2, 1) := by decide +kernel
theorem dX9_copies_61 : decode cX9_copies 61 = .ok (.ireturn, 1) := by decide +kernel
theorem dX9_count_0 : decode cX9_count 0 = .ok (.iload_n 1, 1) := by decide +kernel
theorem dX9_count_1 : decode cX9_count 1 = .ok (.bipush 7, 2) := by decide +kernel
theorem dX9_count_3 : decode cX9_count 3 = .ok (.bipush 10, 2) := by decide +kernel
theorem dX9_count_5 : decode cX9_count 5 = .ok (.invokestatic 35, 3) := by decide +kernel
theorem dX9_count_8 : decode cX9_count 8 = .ok (.ifCond .eq 13, 3) := by decide +kernel
theorem dX9_count_11 : decode cX9_count 11 = .ok (.aload_n 0, 1) := by decide +kernel
theorem dX9_count_12 : decode cX9_count 12 = .ok (.getfield 7, 3) := by decide +kernel
theorem dX9_count_15 : decode cX9_count 15 = .ok (.iload_n 1, 1) := by decide +kernel
theorem dX9_count_16 : decode cX9_count 16 = .ok (.bipush 7, 2) := by decide +kernel
theorem dX9_count_18 : decode cX9_count 18 = .ok (.isub, 1) := by decide +kernel
theorem dX9_count_19 : decode cX9_count 19 = .ok (.iaload, 1) := by decide +kernel
theorem dX9_count_20 : decode cX9_count 20 = .ok (.ireturn, 1) := by decide +kernel
theorem dX9_count_21 : decode cX9_count 21 = .ok (.iload_n 1, 1) := by decide +kernel
theorem dX9_count_22 : decode cX9_count 22 = .ok (.tableswitch 114 0 12 #[66, 66, 66, 75, 75, 90, 97, 114, 114, 114, 114, 104, 109], 66) := by decide +kernel
theorem dX9_count_88 : decode cX9_count 88 = .ok (.aload_n 0, 1) := by decide +kernel
theorem dX9_count_89 : decode cX9_count 89 = .ok (.getfield 7, 3) := by decide +kernel
theorem dX9_count_92 : decode cX9_count 92 = .ok (.iconst 4, 1) := by decide +kernel
theorem dX9_count_93 : decode cX9_count 93 = .ok (.iload_n 1, 1) := by decide +kernel
theorem dX9_count_94 : decode cX9_count 94 = .ok (.iadd, 1) := by decide +kernel
theorem dX9_count_95 : decode cX9_count 95 = .ok (.iaload, 1) := by decide +kernel
theorem dX9_count_96 : decode cX9_count 96 = .ok (.ireturn, 1) := by decide +kernel
theorem dX9_count_97 : decode cX9_count 97 = .ok (.aload_n 0, 1) := by decide +kernel
theorem dX9_count_98 : decode cX9_count 98 = .ok (.iload_n 1, 1) := by decide +kernel
theorem dX9_count_99 : decode cX9_count 99 = .ok (.iconst 4, 1) := by decide +kernel
theorem dX9_count_100 : decode cX9_count 100 = .ok (.if_icmp .ne 7, 3) := by decide +kernel
theorem dX9_count_103 : decode cX9_count 103 = .ok (.iconst 1, 1) := by decide +kernel
theorem dX9_count_104 : decode cX9_count 104 = .ok (.goto 4, 3) := by decide +kernel
theorem dX9_count_107 : decode cX9_count 107 = .ok (.iconst 0, 1) := by decide +kernel
theorem dX9_count_108 : decode cX9_count 108 = .ok (.invokevirtual 176, 3) := by decide +kernel
theorem dX9_count_111 : decode cX9_count 111 = .ok (.ireturn, 1) := by decide +kernel
theorem dX9_count_112 : decode cX9_count 112 = .ok (.aload_n 0, 1) := by decide +kernel
theorem dX9_count_113 : decode cX9_count 113 = .ok (.iconst 1, 1) := by decide +kernel
theorem dX9_count_114 : decode cX9_count 114 = .ok (.iconst 3, 1) := by decide +kernel
theorem dX9_count_115 : decode cX9_count 115 = .ok (.invokevirtual 164, 3) := by decide +kernel
theorem dX9_count_118 : decode cX9_count 118 = .ok (.ireturn, 1) := by decide +kernel
theorem dX9_count_119 : decode cX9_count 119 = .ok (.aload_n 0, 1) := by decide +kernel
theorem dX9_count_120 : decode cX9_count 120 = .ok (.iconst 2, 1) := by decide +kernel
theorem dX9_count_121 : decode cX9_count 121 = .ok (.iconst 2, 1) := by decide +kernel
theorem dX9_count_122 : decode cX9_count 122 = .ok (.invokevirtual 164, 3) := by decide +kernel
theorem dX9_count_125 : decode cX9_count 125 = .ok (.ireturn, 1) := by decide +kernel
theorem dX9_count_126 : decode cX9_count 126 = .ok (.aload_n 0, 1) := by decide +kernel
theorem dX9_count_127 : decode cX9_count 127 = .ok (.getfield 180, 3) := by decide +kernel
theorem dX9_count_130 : decode cX9_count 130 = .ok (.ireturn, 1) := by decide +kernel
theorem dX9_count_131 : decode cX9_count 131 = .ok (.aload_n 0, 1) := by decide +kernel
theorem dX9_count_132 : decode cX9_count 132 = .ok (.getfield 39, 3) := by decide +kernel
theorem dX9_count_135 : decode cX9_count 135 = .ok (.ireturn, 1) := by decide +kernel
theorem dX9_count_136 : decode cX9_count 136 = .ok (.bipush (-2), 2) := by decide +kernel
theorem dX9_count_138 : decode cX9_count 138 = .ok (.ireturn, 1) := by decide +kernel
theorem dX9_costOfReading_0 : decode cX9_costOfReading 0 = .ok (.iload_n 1, 1) := by decide +kernel
theorem dX9_costOfReading_1 : decode cX9_costOfReading 1 = .ok (.invokestatic 129, 3) := by decide +kernel
theorem dX9_costOfReading_4 : decode cX9_costOfReading 4 = .ok (.ifCond .eq 10, 3) := by decide +kernel
theorem dX9_costOfReading_7 : decode cX9_costOfReading 7 = .ok (.iload_n 2, 1) := by decide +kernel
theorem dX9_costOfReading_8 : decode cX9_costOfReading 8 = .ok (.invokestatic 133, 3) := by decide +kernel
theorem dX9_costOfReading_11 : decode cX9_costOfReading 11 = .ok (.ifCond .ne 5, 3) := by decide +kernel
theorem dX9_costOfReading_14 : decode cX9_costOfReading 14 = .ok (.iconst (-1), 1) := by decide +kernel
theorem dX9_costOfReading_15 : decode cX9_costOfReading 15 = .ok (.ireturn, 1) := by decide +kernel
theorem dX9_costOfReading_16 : decode cX9_costOfReading 16 = .ok (.aload_n 0, 1) := by decide +kernel
theorem dX9_costOfReading_17 : decode cX9_costOfReading 17 = .ok (.invokevirtual 183, 3) := by decide +kernel
theorem dX9_costOfReading_20 : decode cX9_costOfReading 20 = .ok (.aload_n 0, 1) := by decide +kernel
theorem dX9_costOfReading_21 : decode cX9_costOfReading 21 = .ok (.getfield 7, 3) := by decide +kernel
theorem dX9_costOfReading_24 : decode cX9_costOfReading 24 = .ok (.iconst 4, 1) := by decide +kernel
theorem dX9_costOfReading_25 : decode cX9_costOfReading 25 = .ok (.iaload, 1) := by decide +kernel
theorem dX9_costOfReading_26 : decode cX9_costOfReading 26 = .ok (.istore_n 3, 1) := by decide +kernel
theorem dX9_costOfReading_27 : decode cX9_costOfReading 27 = .ok (.aload_n 0, 1) := by decide +kernel
theorem dX9_costOfReading_28 : decode cX9_costOfReading 28 = .ok (.iload_n 1, 1) := by decide +kernel
theorem dX9_costOfReading_29 : decode cX9_costOfReading 29 = .ok (.iload_n 2, 1) := by decide +kernel
theorem dX9_costOfReading_30 : decode cX9_costOfReading 30 = .ok (.invokevirtual 143, 3) := by decide +kernel
theorem dX9_costOfReading_33 : decode cX9_costOfReading 33 = .ok (.pop, 1) := by decide +kernel
theorem dX9_costOfReading_34 : decode cX9_costOfReading 34 = .ok (.aload_n 0, 1) := by decide +kernel
theorem dX9_costOfReading_35 : decode cX9_costOfReading 35 = .ok (.getfield 7, 3) := by decide +kernel
theorem dX9_costOfReading_38 : decode cX9_costOfReading 38 = .ok (.iconst 4, 1) := by decide +kernel
theorem dX9_costOfReading_39 : decode cX9_costOfReading 39 = .ok (.iaload, 1) := by decide +kernel
theorem dX9_costOfReading_40 : decode cX9_costOfReading 40 = .ok (.iload_n 3, 1) := by decide +kernel
theorem dX9_costOfReading_41 : decode cX9_costOfReading 41 = .ok (.isub, 1) := by decide +kernel
theorem dX9_costOfReading_42 : decode cX9_costOfReading 42 = .ok (.istore 4, 2) := by decide +kernel
theorem dX9_costOfReading_44 : decode cX9_costOfReading 44 = .ok (.aload_n 0, 1) := by decide +kernel
theorem dX9_costOfReading_45 : decode cX9_costOfReading 45 = .ok (.invokevirtual 186, 3) := by decide +kernel
theorem dX9_costOfReading_48 : decode cX9_costOfReading 48 = .ok (.iload 4, 2) := by decide +kernel
theorem dX9_costOfReading_50 : decode cX9_costOfReading 50 = .ok (.ireturn, 1) := by decide +kernel
theorem dX9_cost_0 : decode cX9_cost 0 = .ok (.aload_n 0, 1) := by decide +kernel
theorem dX9_cost_1 : decode cX9_cost 1 = .ok (.invokevirtual 183, 3) := by decide +kernel
theorem dX9_cost_4 : decode cX9_cost 4 = .ok (.aload_n 0, 1) := by decide +kernel
theorem dX9_cost_5 : decode cX9_cost 5 = .ok (.getfield 7, 3) := by decide +kernel
theorem dX9_cost_8 : decode cX9_cost 8 = .ok (.iconst 4, 1) := by decide +kernel
theorem dX9_cost_9 : decode cX9_cost 9 = .ok (.iload_n 3, 1) := by decide +kernel
theorem dX9_cost_10 : decode cX9_cost 10 = .ok (.iadd, 1) := by decide +kernel
theorem dX9_cost_11 : decode cX9_cost 11 = .ok (.iaload, 1) := by decide +kernel
theorem dX9_cost_12 : decode cX9_cost 12 = .ok (.istore 4, 2) := by decide +kernel
theorem dX9_cost_14 : decode cX9_cost 14 = .ok (.aload_n 0, 1) := by decide +kernel
theorem dX9_cost_15 : decode cX9_cost 15 = .ok (.iload_n 1, 1) := by decide +kernel
theorem dX9_cost_16 : decode cX9_cost 16 = .ok (.iload_n 2, 1) := by decide +kernel
theorem dX9_cost_17 : decode cX9_cost 17 = .ok (.iconst 0, 1) := by decide +kernel
theorem dX9_cost_18 : decode cX9_cost 18 = .ok (.invokevirtual 150, 3) := by decide +kernel
theorem dX9_cost_21 : decode cX9_cost 21 = .ok (.pop, 1) := by decide +kernel
theorem dX9_cost_22 : decode cX9_cost 22 = .ok (.aload_n 0, 1) := by decide +kernel
theorem dX9_cost_23 : decode cX9_cost 23 = .ok (.getfield 7, 3) := by decide +kernel
theorem dX9_cost_26 : decode cX9_cost 26 = .ok (.iconst 4, 1) := by decide +kernel
theorem dX9_cost_27 : decode cX9_cost 27 = .ok (.iload_n 3, 1) := by decide +kernel
theorem dX9_cost_28 : decode cX9_cost 28 = .ok (.iadd, 1) := by decide +kernel
theorem dX9_cost_29 : decode cX9_cost 29 = .ok (.iaload, 1) := by decide +kernel
theorem dX9_cost_30 : decode cX9_cost 30 = .ok (.iload 4, 2) := by decide +kernel
theorem dX9_cost_32 : decode cX9_cost 32 = .ok (.isub, 1) := by decide +kernel
theorem dX9_cost_33 : decode cX9_cost 33 = .ok (.istore 5, 2) := by decide +kernel
theorem dX9_cost_35 : decode cX9_cost 35 = .ok (.aload_n 0, 1) := by decide +kernel
theorem dX9_cost_36 : decode cX9_cost 36 = .ok (.invokevirtual 186, 3) := by decide +kernel
theorem dX9_cost_39 : decode cX9_cost 39 = .ok (.iload 5, 2) := by decide +kernel
theorem dX9_cost_41 : decode cX9_cost 41 = .ok (.ireturn, 1) := by decide +kernel
theorem dX9_costOfChange_0 : decode cX9_costOfChange 0 = .ok (.iload_n 1, 1) := by decide +kernel
theorem dX9_costOfChange_1 : decode cX9_costOfChange 1 = .ok (.invokestatic 129, 3) := by decide +kernel
theorem dX9_costOfChange_4 : decode cX9_costOfChange 4 = .ok (.ifCond .eq 10, 3) := by decide +kernel
theorem dX9_costOfChange_7 : decode cX9_costOfChange 7 = .ok (.iload_n 2, 1) := by decide +kernel
theorem dX9_costOfChange_8 : decode cX9_costOfChange 8 = .ok (.invokestatic 133, 3) := by decide +kernel
theorem dX9_costOfChange_11 : decode cX9_costOfChange 11 = .ok (.ifCond .ne 5, 3) := by decide +kernel
theorem dX9_costOfChange_14 : decode cX9_costOfChange 14 = .ok (.iconst (-1), 1) := by decide +kernel
theorem dX9_costOfChange_15 : decode cX9_costOfChange 15 = .ok (.ireturn, 1) := by decide +kernel
theorem dX9_costOfChange_16 : decode cX9_costOfChange 16 = .ok (.iload_n 3, 1) := by decide +kernel
theorem dX9_costOfChange_17 : decode cX9_costOfChange 17 = .ok (.iconst 0, 1) := by decide +kernel
theorem dX9_costOfChange_18 : decode cX9_costOfChange 18 = .ok (.iconst 1, 1) := by decide +kernel
theorem dX9_costOfChange_19 : decode cX9_costOfChange 19 = .ok (.invokestatic 35, 3) := by decide +kernel
theorem dX9_costOfChange_22 : decode cX9_costOfChange 22 = .ok (.ifCond .eq 13, 3) := by decide +kernel
theorem dX9_costOfChange_25 : decode cX9_costOfChange 25 = .ok (.aload_n 0, 1) := by decide +kernel
theorem dX9_costOfChange_26 : decode cX9_costOfChange 26 = .ok (.iload_n 1, 1) := by decide +kernel
theorem dX9_costOfChange_27 : decode cX9_costOfChange 27 = .ok (.iload_n 2, 1) := by decide +kernel
theorem dX9_costOfChange_28 : decode cX9_costOfChange 28 = .ok (.iload_n 3, 1) := by decide +kernel
theorem dX9_costOfChange_29 : decode cX9_costOfChange 29 = .ok (.invokevirtual 189, 3) := by decide +kernel
theorem dX9_costOfChange_32 : decode cX9_costOfChange 32 = .ok (.goto 5, 3) := by decide +kernel
theorem dX9_costOfChange_35 : decode cX9_costOfChange 35 = .ok (.bipush (-2), 2) := by decide +kernel
theorem dX9_costOfChange_37 : decode cX9_costOfChange 37 = .ok (.ireturn, 1) := by decide +kernel
theorem dX9_cheapest_0 : decode cX9_cheapest 0 = .ok (.iload_n 1, 1) := by decide +kernel
theorem dX9_cheapest_1 : decode cX9_cheapest 1 = .ok (.invokestatic 133, 3) := by decide +kernel
theorem dX9_cheapest_4 : decode cX9_cheapest 4 = .ok (.ifCond .ne 5, 3) := by decide +kernel
theorem dX9_cheapest_7 : decode cX9_cheapest 7 = .ok (.iconst (-1), 1) := by decide +kernel
theorem dX9_cheapest_8 : decode cX9_cheapest 8 = .ok (.ireturn, 1) := by decide +kernel
theorem dX9_cheapest_9 : decode cX9_cheapest 9 = .ok (.iconst 0, 1) := by decide +kernel
theorem dX9_cheapest_10 : decode cX9_cheapest 10 = .ok (.istore_n 2, 1) := by decide +kernel
theorem dX9_cheapest_11 : decode cX9_cheapest 11 = .ok (.aload_n 0, 1) := by decide +kernel
theorem dX9_cheapest_12 : decode cX9_cheapest 12 = .ok (.iconst 0, 1) := by decide +kernel
theorem dX9_cheapest_13 : decode cX9_cheapest 13 = .ok (.iload_n 1, 1) := by decide +kernel
theorem dX9_cheapest_14 : decode cX9_cheapest 14 = .ok (.iconst 0, 1) := by decide +kernel
theorem dX9_cheapest_15 : decode cX9_cheapest 15 = .ok (.invokevirtual 189, 3) := by decide +kernel
theorem dX9_cheapest_18 : decode cX9_cheapest 18 = .ok (.istore_n 3, 1) := by decide +kernel
theorem dX9_cheapest_19 : decode cX9_cheapest 19 = .ok (.iconst 1, 1) := by decide +kernel
theorem dX9_cheapest_20 : decode cX9_cheapest 20 = .ok (.istore 4, 2) := by decide +kernel
theorem dX9_cheapest_22 : decode cX9_cheapest 22 = .ok (.iload 4, 2) := by decide +kernel
theorem dX9_cheapest_24 : decode cX9_cheapest 24 = .ok (.bipush 16, 2) := by decide +kernel
theorem dX9_cheapest_26 : decode cX9_cheapest 26 = .ok (.if_icmp .ge 45, 3) := by decide +kernel
theorem dX9_cheapest_29 : decode cX9_cheapest 29 = .ok (.aload_n 0, 1) := by decide +kernel
theorem dX9_cheapest_30 : decode cX9_cheapest 30 = .ok (.iload 4, 2) := by decide +kernel
theorem dX9_cheapest_32 : decode cX9_cheapest 32 = .ok (.iload_n 1, 1) := by decide +kernel
theorem dX9_cheapest_33 : decode cX9_cheapest 33 = .ok (.iconst 0, 1) := by decide +kernel
theorem dX9_cheapest_34 : decode cX9_cheapest 34 = .ok (.invokevirtual 189, 3) := by decide +kernel
theorem dX9_cheapest_37 : decode cX9_cheapest 37 = .ok (.istore 5, 2) := by decide +kernel
theorem dX9_cheapest_39 : decode cX9_cheapest 39 = .ok (.iload 5, 2) := by decide +kernel
theorem dX9_cheapest_41 : decode cX9_cheapest 41 = .ok (.iload_n 3, 1) := by decide +kernel
theorem dX9_cheapest_42 : decode cX9_cheapest 42 = .ok (.if_icmp .ge 8, 3) := by decide +kernel
theorem dX9_cheapest_45 : decode cX9_cheapest 45 = .ok (.iload 4, 2) := by decide +kernel
theorem dX9_cheapest_47 : decode cX9_cheapest 47 = .ok (.goto 4, 3) := by decide +kernel
theorem dX9_cheapest_50 : decode cX9_cheapest 50 = .ok (.iload_n 2, 1) := by decide +kernel
theorem dX9_cheapest_51 : decode cX9_cheapest 51 = .ok (.istore_n 2, 1) := by decide +kernel
theorem dX9_cheapest_52 : decode cX9_cheapest 52 = .ok (.iload 5, 2) := by decide +kernel
theorem dX9_cheapest_54 : decode cX9_cheapest 54 = .ok (.iload_n 3, 1) := by decide +kernel
theorem dX9_cheapest_55 : decode cX9_cheapest 55 = .ok (.if_icmp .ge 8, 3) := by decide +kernel
theorem dX9_cheapest_58 : decode cX9_cheapest 58 = .ok (.iload 5, 2) := by decide +kernel
theorem dX9_cheapest_60 : decode cX9_cheapest 60 = .ok (.goto 4, 3) := by decide +kernel
theorem dX9_cheapest_63 : decode cX9_cheapest 63 = .ok (.iload_n 3, 1) := by decide +kernel
theorem dX9_cheapest_64 : decode cX9_cheapest 64 = .ok (.istore_n 3, 1) := by decide +kernel
theorem dX9_cheapest_65 : decode cX9_cheapest 65 = .ok (.iinc 4 1, 3) := by decide +kernel
theorem dX9_cheapest_68 : decode cX9_cheapest 68 = .ok (.goto (-46), 3) := by decide +kernel
theorem dX9_cheapest_71 : decode cX9_cheapest 71 = .ok (.iload_n 2, 1) := by decide +kernel
theorem dX9_cheapest_72 : decode cX9_cheapest 72 = .ok (.ireturn, 1) := by decide +kernel
theorem dX9_fewestWasted_0 : decode cX9_fewestWasted 0 = .ok (.aload_n 0, 1) := by decide +kernel
theorem dX9_fewestWasted_1 : decode cX9_fewestWasted 1 = .ok (.iconst 0, 1) := by decide +kernel
theorem dX9_fewestWasted_2 : decode cX9_fewestWasted 2 = .ok (.iload_n 1, 1) := by decide +kernel
theorem dX9_fewestWasted_3 : decode cX9_fewestWasted 3 = .ok (.iconst 1, 1) := by decide +kernel
theorem dX9_fewestWasted_4 : decode cX9_fewestWasted 4 = .ok (.invokevirtual 189, 3) := by decide +kernel
theorem dX9_fewestWasted_7 : decode cX9_fewestWasted 7 = .ok (.istore_n 2, 1) := by decide +kernel
theorem dX9_fewestWasted_8 : decode cX9_fewestWasted 8 = .ok (.iconst 1, 1) := by decide +kernel
theorem dX9_fewestWasted_9 : decode cX9_fewestWasted 9 = .ok (.istore_n 3, 1) := by decide +kernel
theorem dX9_fewestWasted_10 : decode cX9_fewestWasted 10 = .ok (.iload_n 3, 1) := by decide +kernel
theorem dX9_fewestWasted_11 : decode cX9_fewestWasted 11 = .ok (.bipush 16, 2) := by decide +kernel
theorem dX9_fewestWasted_13 : decode cX9_fewestWasted 13 = .ok (.if_icmp .ge 35, 3) := by decide +kernel
theorem dX9_fewestWasted_16 : decode cX9_fewestWasted 16 = .ok (.iload_n 2, 1) := by decide +kernel
theorem dX9_fewestWasted_17 : decode cX9_fewestWasted 17 = .ok (.ifCond .le 31, 3) := by decide +kernel
theorem dX9_fewestWasted_20 : decode cX9_fewestWasted 20 = .ok (.aload_n 0, 1) := by decide +kernel
theorem dX9_fewestWasted_21 : decode cX9_fewestWasted 21 = .ok (.iload_n 3, 1) := by decide +kernel
theorem dX9_fewestWasted_22 : decode cX9_fewestWasted 22 = .ok (.iload_n 1, 1) := by decide +kernel
theorem dX9_fewestWasted_23 : decode cX9_fewestWasted 23 = .ok (.iconst 1, 1) := by decide +kernel
theorem dX9_fewestWasted_24 : decode cX9_fewestWasted 24 = .ok (.invokevirtual 189, 3) := by decide +kernel
theorem dX9_fewestWasted_27 : decode cX9_fewestWasted 27 = .ok (.istore 4, 2) := by decide +kernel
theorem dX9_fewestWasted_29 : decode cX9_fewestWasted 29 = .ok (.iload 4, 2) := by decide +kernel
theorem dX9_fewestWasted_31 : decode cX9_fewestWasted 31 = .ok (.iload_n 2, 1) := by decide +kernel
theorem dX9_fewestWasted_32 : decode cX9_fewestWasted 32 = .ok (.if_icmp .ge 8, 3) := by decide +kernel
theorem dX9_fewestWasted_35 : decode cX9_fewestWasted 35 = .ok (.iload 4, 2) := by decide +kernel
theorem dX9_fewestWasted_37 : decode cX9_fewestWasted 37 = .ok (.goto 4, 3) := by decide +kernel
theorem dX9_fewestWasted_40 : decode cX9_fewestWasted 40 = .ok (.iload_n 2, 1) := by decide +kernel
theorem dX9_fewestWasted_41 : decode cX9_fewestWasted 41 = .ok (.istore_n 2, 1) := by decide +kernel
theorem dX9_fewestWasted_42 : decode cX9_fewestWasted 42 = .ok (.iinc 3 1, 3) := by decide +kernel
theorem dX9_fewestWasted_45 : decode cX9_fewestWasted 45 = .ok (.goto (-35), 3) := by decide +kernel
theorem dX9_fewestWasted_48 : decode cX9_fewestWasted 48 = .ok (.iload_n 2, 1) := by decide +kernel
theorem dX9_fewestWasted_49 : decode cX9_fewestWasted 49 = .ok (.ireturn, 1) := by decide +kernel
theorem dX9_loudest_0 : decode cX9_loudest 0 = .ok (.iload_n 1, 1) := by decide +kernel
theorem dX9_loudest_1 : decode cX9_loudest 1 = .ok (.iconst 0, 1) := by decide +kernel
theorem dX9_loudest_2 : decode cX9_loudest 2 = .ok (.iconst 1, 1) := by decide +kernel
theorem dX9_loudest_3 : decode cX9_loudest 3 = .ok (.invokestatic 35, 3) := by decide +kernel
theorem dX9_loudest_6 : decode cX9_loudest 6 = .ok (.ifCond .ne 6, 3) := by decide +kernel
theorem dX9_loudest_9 : decode cX9_loudest 9 = .ok (.bipush (-2), 2) := by decide +kernel
theorem dX9_loudest_11 : decode cX9_loudest 11 = .ok (.ireturn, 1) := by decide +kernel
theorem dX9_loudest_12 : decode cX9_loudest 12 = .ok (.bipush (-6), 2) := by decide +kernel
theorem dX9_loudest_14 : decode cX9_loudest 14 = .ok (.istore_n 2, 1) := by decide +kernel
theorem dX9_loudest_15 : decode cX9_loudest 15 = .ok (.iconst 0, 1) := by decide +kernel
theorem dX9_loudest_16 : decode cX9_loudest 16 = .ok (.istore_n 3, 1) := by decide +kernel
theorem dX9_loudest_17 : decode cX9_loudest 17 = .ok (.iconst 0, 1) := by decide +kernel
theorem dX9_loudest_18 : decode cX9_loudest 18 = .ok (.istore 4, 2) := by decide +kernel
theorem dX9_loudest_20 : decode cX9_loudest 20 = .ok (.iload 4, 2) := by decide +kernel
theorem dX9_loudest_22 : decode cX9_loudest 22 = .ok (.bipush 24, 2) := by decide +kernel
theorem dX9_loudest_24 : decode cX9_loudest 24 = .ok (.if_icmp .ge 43, 3) := by decide +kernel
theorem dX9_loudest_27 : decode cX9_loudest 27 = .ok (.aload_n 0, 1) := by decide +kernel
theorem dX9_loudest_28 : decode cX9_loudest 28 = .ok (.iload 4, 2) := by decide +kernel
theorem dX9_loudest_30 : decode cX9_loudest 30 = .ok (.invokevirtual 192, 3) := by decide +kernel
theorem dX9_loudest_33 : decode cX9_loudest 33 = .ok (.istore 5, 2) := by decide +kernel
theorem dX9_loudest_35 : decode cX9_loudest 35 = .ok (.iload 5, 2) := by decide +kernel
theorem dX9_loudest_37 : decode cX9_loudest 37 = .ok (.iload_n 3, 1) := by decide +kernel
theorem dX9_loudest_38 : decode cX9_loudest 38 = .ok (.if_icmp .le 8, 3) := by decide +kernel
theorem dX9_loudest_41 : decode cX9_loudest 41 = .ok (.iload 4, 2) := by decide +kernel
theorem dX9_loudest_43 : decode cX9_loudest 43 = .ok (.goto 4, 3) := by decide +kernel
theorem dX9_loudest_46 : decode cX9_loudest 46 = .ok (.iload_n 2, 1) := by decide +kernel
theorem dX9_loudest_47 : decode cX9_loudest 47 = .ok (.istore_n 2, 1) := by decide +kernel
theorem dX9_loudest_48 : decode cX9_loudest 48 = .ok (.iload 5, 2) := by decide +kernel
theorem dX9_loudest_50 : decode cX9_loudest 50 = .ok (.iload_n 3, 1) := by decide +kernel
theorem dX9_loudest_51 : decode cX9_loudest 51 = .ok (.if_icmp .le 8, 3) := by decide +kernel
theorem dX9_loudest_54 : decode cX9_loudest 54 = .ok (.iload 5, 2) := by decide +kernel
theorem dX9_loudest_56 : decode cX9_loudest 56 = .ok (.goto 4, 3) := by decide +kernel
theorem dX9_loudest_59 : decode cX9_loudest 59 = .ok (.iload_n 3, 1) := by decide +kernel
theorem dX9_loudest_60 : decode cX9_loudest 60 = .ok (.istore_n 3, 1) := by decide +kernel
theorem dX9_loudest_61 : decode cX9_loudest 61 = .ok (.iinc 4 1, 3) := by decide +kernel
theorem dX9_loudest_64 : decode cX9_loudest 64 = .ok (.goto (-44), 3) := by decide +kernel
theorem dX9_loudest_67 : decode cX9_loudest 67 = .ok (.iload_n 2, 1) := by decide +kernel
theorem dX9_loudest_68 : decode cX9_loudest 68 = .ok (.ifCond .lt 7, 3) := by decide +kernel
theorem dX9_loudest_71 : decode cX9_loudest 71 = .ok (.iload_n 1, 1) := by decide +kernel
theorem dX9_loudest_72 : decode cX9_loudest 72 = .ok (.ifCond .ne 7, 3) := by decide +kernel
theorem dX9_loudest_75 : decode cX9_loudest 75 = .ok (.iload_n 2, 1) := by decide +kernel
theorem dX9_loudest_76 : decode cX9_loudest 76 = .ok (.goto 4, 3) := by decide +kernel
theorem dX9_loudest_79 : decode cX9_loudest 79 = .ok (.iload_n 3, 1) := by decide +kernel
theorem dX9_loudest_80 : decode cX9_loudest 80 = .ok (.ireturn, 1) := by decide +kernel
theorem dX9_messagesWith_0 : decode cX9_messagesWith 0 = .ok (.aload_n 0, 1) := by decide +kernel
theorem dX9_messagesWith_1 : decode cX9_messagesWith 1 = .ok (.invokevirtual 183, 3) := by decide +kernel
theorem dX9_messagesWith_4 : decode cX9_messagesWith 4 = .ok (.iconst 0, 1) := by decide +kernel
theorem dX9_messagesWith_5 : decode cX9_messagesWith 5 = .ok (.istore_n 3, 1) := by decide +kernel
theorem dX9_messagesWith_6 : decode cX9_messagesWith 6 = .ok (.iload_n 3, 1) := by decide +kernel
theorem dX9_messagesWith_7 : decode cX9_messagesWith 7 = .ok (.bipush 16, 2) := by decide +kernel
theorem dX9_messagesWith_9 : decode cX9_messagesWith 9 = .ok (.if_icmp .ge 24, 3) := by decide +kernel
theorem dX9_messagesWith_12 : decode cX9_messagesWith 12 = .ok (.aload_n 0, 1) := by decide +kernel
theorem dX9_messagesWith_13 : decode cX9_messagesWith 13 = .ok (.getfield 7, 3) := by decide +kernel
theorem dX9_messagesWith_16 : decode cX9_messagesWith 16 = .ok (.sipush 128, 3) := by decide +kernel
theorem dX9_messagesWith_19 : decode cX9_messagesWith 19 = .ok (.iconst 5, 1) := by decide +kernel
theorem dX9_messagesWith_20 : decode cX9_messagesWith 20 = .ok (.iload_n 3, 1) := by decide +kernel
theorem dX9_messagesWith_21 : decode cX9_messagesWith 21 = .ok (.imul, 1) := by decide +kernel
theorem dX9_messagesWith_22 : decode cX9_messagesWith 22 = .ok (.iadd, 1) := by decide +kernel
theorem dX9_messagesWith_23 : decode cX9_messagesWith 23 = .ok (.iconst 0, 1) := by decide +kernel
theorem dX9_messagesWith_24 : decode cX9_messagesWith 24 = .ok (.iadd, 1) := by decide +kernel
theorem dX9_messagesWith_25 : decode cX9_messagesWith 25 = .ok (.iconst 0, 1) := by decide +kernel
theorem dX9_messagesWith_26 : decode cX9_messagesWith 26 = .ok (.iastore, 1) := by decide +kernel
theorem dX9_messagesWith_27 : decode cX9_messagesWith 27 = .ok (.iinc 3 1, 3) := by decide +kernel
theorem dX9_messagesWith_30 : decode cX9_messagesWith 30 = .ok (.goto (-24), 3) := by decide +kernel
theorem dX9_messagesWith_33 : decode cX9_messagesWith 33 = .ok (.iconst 0, 1) := by decide +kernel
theorem dX9_messagesWith_34 : decode cX9_messagesWith 34 = .ok (.istore_n 3, 1) := by decide +kernel
theorem dX9_messagesWith_35 : decode cX9_messagesWith 35 = .ok (.iload_n 3, 1) := by decide +kernel
theorem dX9_messagesWith_36 : decode cX9_messagesWith 36 = .ok (.bipush 24, 2) := by decide +kernel
theorem dX9_messagesWith_38 : decode cX9_messagesWith 38 = .ok (.if_icmp .ge 16, 3) := by decide +kernel
theorem dX9_messagesWith_41 : decode cX9_messagesWith 41 = .ok (.aload_n 0, 1) := by decide +kernel
theorem dX9_messagesWith_42 : decode cX9_messagesWith 42 = .ok (.iload_n 3, 1) := by decide +kernel
theorem dX9_messagesWith_43 : decode cX9_messagesWith 43 = .ok (.iconst 0, 1) := by decide +kernel
theorem dX9_messagesWith_44 : decode cX9_messagesWith 44 = .ok (.iconst 0, 1) := by decide +kernel
theorem dX9_messagesWith_45 : decode cX9_messagesWith 45 = .ok (.invokevirtual 86, 3) := by decide +kernel
theorem dX9_messagesWith_48 : decode cX9_messagesWith 48 = .ok (.iinc 3 1, 3) := by decide +kernel
theorem dX9_messagesWith_51 : decode cX9_messagesWith 51 = .ok (.goto (-16), 3) := by decide +kernel
theorem dX9_messagesWith_54 : decode cX9_messagesWith 54 = .ok (.aload_n 0, 1) := by decide +kernel
theorem dX9_messagesWith_55 : decode cX9_messagesWith 55 = .ok (.getfield 7, 3) := by decide +kernel
theorem dX9_messagesWith_58 : decode cX9_messagesWith 58 = .ok (.iconst 0, 1) := by decide +kernel
theorem dX9_messagesWith_59 : decode cX9_messagesWith 59 = .ok (.iload_n 1, 1) := by decide +kernel
theorem dX9_messagesWith_60 : decode cX9_messagesWith 60 = .ok (.iastore, 1) := by decide +kernel
theorem dX9_messagesWith_61 : decode cX9_messagesWith 61 = .ok (.aload_n 0, 1) := by decide +kernel
theorem dX9_messagesWith_62 : decode cX9_messagesWith 62 = .ok (.getfield 7, 3) := by decide +kernel
theorem dX9_messagesWith_65 : decode cX9_messagesWith 65 = .ok (.iconst 1, 1) := by decide +kernel
theorem dX9_messagesWith_66 : decode cX9_messagesWith 66 = .ok (.iload_n 2, 1) := by decide +kernel
theorem dX9_messagesWith_67 : decode cX9_messagesWith 67 = .ok (.iastore, 1) := by decide +kernel
theorem dX9_messagesWith_68 : decode cX9_messagesWith 68 = .ok (.aload_n 0, 1) := by decide +kernel
theorem dX9_messagesWith_69 : decode cX9_messagesWith 69 = .ok (.getfield 7, 3) := by decide +kernel
theorem dX9_messagesWith_72 : decode cX9_messagesWith 72 = .ok (.iconst 4, 1) := by decide +kernel
theorem dX9_messagesWith_73 : decode cX9_messagesWith 73 = .ok (.iconst 0, 1) := by decide +kernel
theorem dX9_messagesWith_74 : decode cX9_messagesWith 74 = .ok (.iastore, 1) := by decide +kernel
theorem dX9_messagesWith_75 : decode cX9_messagesWith 75 = .ok (.iconst 0, 1) := by decide +kernel
theorem dX9_messagesWith_76 : decode cX9_messagesWith 76 = .ok (.istore_n 3, 1) := by decide +kernel
theorem dX9_messagesWith_77 : decode cX9_messagesWith 77 = .ok (.iload_n 3, 1) := by decide +kernel
theorem dX9_messagesWith_78 : decode cX9_messagesWith 78 = .ok (.aload_n 0, 1) := by decide +kernel
theorem dX9_messagesWith_79 : decode cX9_messagesWith 79 = .ok (.getfield 7, 3) := by decide +kernel
theorem dX9_messagesWith_82 : decode cX9_messagesWith 82 = .ok (.bipush 7, 2) := by decide +kernel
theorem dX9_messagesWith_84 : decode cX9_messagesWith 84 = .ok (.iaload, 1) := by decide +kernel
theorem dX9_messagesWith_85 : decode cX9_messagesWith 85 = .ok (.if_icmp .ge 68, 3) := by decide +kernel
theorem dX9_messagesWith_88 : decode cX9_messagesWith 88 = .ok (.aload_n 0, 1) := by decide +kernel
theorem dX9_messagesWith_89 : decode cX9_messagesWith 89 = .ok (.getfield 7, 3) := by decide +kernel
theorem dX9_messagesWith_92 : decode cX9_messagesWith 92 = .ok (.sipush 592, 3) := by decide +kernel
theorem dX9_messagesWith_95 : decode cX9_messagesWith 95 = .ok (.iload_n 3, 1) := by decide +kernel
theorem dX9_messagesWith_96 : decode cX9_messagesWith 96 = .ok (.iadd, 1) := by decide +kernel
theorem dX9_messagesWith_97 : decode cX9_messagesWith 97 = .ok (.iaload, 1) := by decide +kernel
theorem dX9_messagesWith_98 : decode cX9_messagesWith 98 = .ok (.istore 4, 2) := by decide +kernel
theorem dX9_messagesWith_100 : decode cX9_messagesWith 100 = .ok (.iload 4, 2) := by decide +kernel
theorem dX9_messagesWith_102 : decode cX9_messagesWith 102 = .ok (.iconst 2, 1) := by decide +kernel
theorem dX9_messagesWith_103 : decode cX9_messagesWith 103 = .ok (.idiv, 1) := by decide +kernel
theorem dX9_messagesWith_104 : decode cX9_messagesWith 104 = .ok (.bipush 24, 2) := by decide +kernel
theorem dX9_messagesWith_106 : decode cX9_messagesWith 106 = .ok (.idiv, 1) := by decide +kernel
theorem dX9_messagesWith_107 : decode cX9_messagesWith 107 = .ok (.istore 5, 2) := by decide +kernel
theorem dX9_messagesWith_109 : decode cX9_messagesWith 109 = .ok (.iload 4, 2) := by decide +kernel
theorem dX9_messagesWith_111 : decode cX9_messagesWith 111 = .ok (.iconst 2, 1) := by decide +kernel
theorem dX9_messagesWith_112 : decode cX9_messagesWith 112 = .ok (.idiv, 1) := by decide +kernel
theorem dX9_messagesWith_113 : decode cX9_messagesWith 113 = .ok (.bipush 24, 2) := by decide +kernel
theorem dX9_messagesWith_115 : decode cX9_messagesWith 115 = .ok (.irem, 1) := by decide +kernel
theorem dX9_messagesWith_116 : decode cX9_messagesWith 116 = .ok (.istore 6, 2) := by decide +kernel
theorem dX9_messagesWith_118 : decode cX9_messagesWith 118 = .ok (.iload 4, 2) := by decide +kernel
theorem dX9_messagesWith_120 : decode cX9_messagesWith 120 = .ok (.iconst 2, 1) := by decide +kernel
theorem dX9_messagesWith_121 : decode cX9_messagesWith 121 = .ok (.irem, 1) := by decide +kernel
theorem dX9_messagesWith_122 : decode cX9_messagesWith 122 = .ok (.ifCond .ne 15, 3) := by decide +kernel
theorem dX9_messagesWith_125 : decode cX9_messagesWith 125 = .ok (.aload_n 0, 1) := by decide +kernel
theorem dX9_messagesWith_126 : decode cX9_messagesWith 126 = .ok (.iload 5, 2) := by decide +kernel
theorem dX9_messagesWith_128 : decode cX9_messagesWith 128 = .ok (.iload 6, 2) := by decide +kernel
theorem dX9_messagesWith_130 : decode cX9_messagesWith 130 = .ok (.invokevirtual 143, 3) := by decide +kernel
theorem dX9_messagesWith_133 : decode cX9_messagesWith 133 = .ok (.pop, 1) := by decide +kernel
theorem dX9_messagesWith_134 : decode cX9_messagesWith 134 = .ok (.goto 13, 3) := by decide +kernel
theorem dX9_messagesWith_137 : decode cX9_messagesWith 137 = .ok (.aload_n 0, 1) := by decide +kernel
theorem dX9_messagesWith_138 : decode cX9_messagesWith 138 = .ok (.iload 5, 2) := by decide +kernel
theorem dX9_messagesWith_140 : decode cX9_messagesWith 140 = .ok (.iload 6, 2) := by decide +kernel
theorem dX9_messagesWith_142 : decode cX9_messagesWith 142 = .ok (.iconst 0, 1) := by decide +kernel
theorem dX9_messagesWith_143 : decode cX9_messagesWith 143 = .ok (.invokevirtual 150, 3) := by decide +kernel
theorem dX9_messagesWith_146 : decode cX9_messagesWith 146 = .ok (.pop, 1) := by decide +kernel
theorem dX9_messagesWith_147 : decode cX9_messagesWith 147 = .ok (.iinc 3 1, 3) := by decide +kernel
theorem dX9_messagesWith_150 : decode cX9_messagesWith 150 = .ok (.goto (-73), 3) := by decide +kernel
theorem dX9_messagesWith_153 : decode cX9_messagesWith 153 = .ok (.aload_n 0, 1) := by decide +kernel
theorem dX9_messagesWith_154 : decode cX9_messagesWith 154 = .ok (.getfield 7, 3) := by decide +kernel
theorem dX9_messagesWith_157 : decode cX9_messagesWith 157 = .ok (.iconst 4, 1) := by decide +kernel
theorem dX9_messagesWith_158 : decode cX9_messagesWith 158 = .ok (.iaload, 1) := by decide +kernel
theorem dX9_messagesWith_159 : decode cX9_messagesWith 159 = .ok (.istore_n 3, 1) := by decide +kernel
theorem dX9_messagesWith_160 : decode cX9_messagesWith 160 = .ok (.aload_n 0, 1) := by decide +kernel
theorem dX9_messagesWith_161 : decode cX9_messagesWith 161 = .ok (.invokevirtual 186, 3) := by decide +kernel
theorem dX9_messagesWith_164 : decode cX9_messagesWith 164 = .ok (.iload_n 3, 1) := by decide +kernel
theorem dX9_messagesWith_165 : decode cX9_messagesWith 165 = .ok (.ireturn, 1) := by decide +kernel
theorem dX9_accountWith_0 : decode cX9_accountWith 0 = .ok (.iload_n 1, 1) := by decide +kernel
theorem dX9_accountWith_1 : decode cX9_accountWith 1 = .ok (.iconst 0, 1) := by decide +kernel
theorem dX9_accountWith_2 : decode cX9_accountWith 2 = .ok (.iconst 4, 1) := by decide +kernel
theorem dX9_accountWith_3 : decode cX9_accountWith 3 = .ok (.invokestatic 35, 3) := by decide +kernel
theorem dX9_accountWith_6 : decode cX9_accountWith 6 = .ok (.ifCond .eq 22, 3) := by decide +kernel
theorem dX9_accountWith_9 : decode cX9_accountWith 9 = .ok (.iload_n 2, 1) := by decide +kernel
theorem dX9_accountWith_10 : decode cX9_accountWith 10 = .ok (.iconst 1, 1) := by decide +kernel
theorem dX9_accountWith_11 : decode cX9_accountWith 11 = .ok (.bipush 8, 2) := by decide +kernel
theorem dX9_accountWith_13 : decode cX9_accountWith 13 = .ok (.invokestatic 35, 3) := by decide +kernel
theorem dX9_accountWith_16 : decode cX9_accountWith 16 = .ok (.ifCond .eq 12, 3) := by decide +kernel
theorem dX9_accountWith_19 : decode cX9_accountWith 19 = .ok (.aload_n 0, 1) := by decide +kernel
theorem dX9_accountWith_20 : decode cX9_accountWith 20 = .ok (.iload_n 1, 1) := by decide +kernel
theorem dX9_accountWith_21 : decode cX9_accountWith 21 = .ok (.iload_n 2, 1) := by decide +kernel
theorem dX9_accountWith_22 : decode cX9_accountWith 22 = .ok (.invokevirtual 195, 3) := by decide +kernel
theorem dX9_accountWith_25 : decode cX9_accountWith 25 = .ok (.goto 5, 3) := by decide +kernel
theorem dX9_accountWith_28 : decode cX9_accountWith 28 = .ok (.bipush (-2), 2) := by decide +kernel
theorem dX9_accountWith_30 : decode cX9_accountWith 30 = .ok (.ireturn, 1) := by decide +kernel
theorem dX9_best_0 : decode cX9_best 0 = .ok (.iload_n 1, 1) := by decide +kernel
theorem dX9_best_1 : decode cX9_best 1 = .ok (.iconst 0, 1) := by decide +kernel
theorem dX9_best_2 : decode cX9_best 2 = .ok (.iconst 2, 1) := by decide +kernel
theorem dX9_best_3 : decode cX9_best 3 = .ok (.invokestatic 35, 3) := by decide +kernel
theorem dX9_best_6 : decode cX9_best 6 = .ok (.ifCond .ne 6, 3) := by decide +kernel
theorem dX9_best_9 : decode cX9_best 9 = .ok (.bipush (-2), 2) := by decide +kernel
theorem dX9_best_11 : decode cX9_best 11 = .ok (.ireturn, 1) := by decide +kernel
theorem dX9_best_12 : decode cX9_best 12 = .ok (.bipush (-6), 2) := by decide +kernel
theorem dX9_best_14 : decode cX9_best 14 = .ok (.istore_n 2, 1) := by decide +kernel
theorem dX9_best_15 : decode cX9_best 15 = .ok (.bipush (-6), 2) := by decide +kernel
theorem dX9_best_17 : decode cX9_best 17 = .ok (.istore_n 3, 1) := by decide +kernel
theorem dX9_best_18 : decode cX9_best 18 = .ok (.iconst 0, 1) := by decide +kernel
theorem dX9_best_19 : decode cX9_best 19 = .ok (.istore 4, 2) := by decide +kernel
theorem dX9_best_21 : decode cX9_best 21 = .ok (.iconst 0, 1) := by decide +kernel
theorem dX9_best_22 : decode cX9_best 22 = .ok (.istore 5, 2) := by decide +kernel
theorem dX9_best_24 : decode cX9_best 24 = .ok (.iload 5, 2) := by decide +kernel
theorem dX9_best_26 : decode cX9_best 26 = .ok (.iconst 4, 1) := by decide +kernel
theorem dX9_best_27 : decode cX9_best 27 = .ok (.if_icmp .gt 56, 3) := by decide +kernel
theorem dX9_best_30 : decode cX9_best 30 = .ok (.iconst 1, 1) := by decide +kernel
theorem dX9_best_31 : decode cX9_best 31 = .ok (.istore 6, 2) := by decide +kernel
theorem dX9_best_33 : decode cX9_best 33 = .ok (.iload 6, 2) := by decide +kernel
theorem dX9_best_35 : decode cX9_best 35 = .ok (.bipush 8, 2) := by decide +kernel
theorem dX9_best_37 : decode cX9_best 37 = .ok (.if_icmp .gt 40, 3) := by decide +kernel
theorem dX9_best_40 : decode cX9_best 40 = .ok (.aload_n 0, 1) := by decide +kernel
theorem dX9_best_41 : decode cX9_best 41 = .ok (.iload 5, 2) := by decide +kernel
theorem dX9_best_43 : decode cX9_best 43 = .ok (.iload 6, 2) := by decide +kernel
theorem dX9_best_45 : decode cX9_best 45 = .ok (.invokevirtual 195, 3) := by decide +kernel
theorem dX9_best_48 : decode cX9_best 48 = .ok (.istore 7, 2) := by decide +kernel
theorem dX9_best_50 : decode cX9_best 50 = .ok (.iload_n 2, 1) := by decide +kernel
theorem dX9_best_51 : decode cX9_best 51 = .ok (.ifCond .lt 10, 3) := by decide +kernel
theorem dX9_best_54 : decode cX9_best 54 = .ok (.iload 7, 2) := by decide +kernel
theorem dX9_best_56 : decode cX9_best 56 = .ok (.iload 4, 2) := by decide +kernel
theorem dX9_best_58 : decode cX9_best 58 = .ok (.if_icmp .ge 13, 3) := by decide +kernel
theorem dX9_best_61 : decode cX9_best 61 = .ok (.iload 5, 2) := by decide +kernel
theorem dX9_best_63 : decode cX9_best 63 = .ok (.istore_n 2, 1) := by decide +kernel
theorem dX9_best_64 : decode cX9_best 64 = .ok (.iload 6, 2) := by decide +kernel
theorem dX9_best_66 : decode cX9_best 66 = .ok (.istore_n 3, 1) := by decide +kernel
theorem dX9_best_67 : decode cX9_best 67 = .ok (.iload 7, 2) := by decide +kernel
theorem dX9_best_69 : decode cX9_best 69 = .ok (.istore 4, 2) := by decide +kernel
theorem dX9_best_71 : decode cX9_best 71 = .ok (.iinc 6 1, 3) := by decide +kernel
theorem dX9_best_74 : decode cX9_best 74 = .ok (.goto (-41), 3) := by decide +kernel
theorem dX9_best_77 : decode cX9_best 77 = .ok (.iinc 5 1, 3) := by decide +kernel
theorem dX9_best_80 : decode cX9_best 80 = .ok (.goto (-56), 3) := by decide +kernel
theorem dX9_best_83 : decode cX9_best 83 = .ok (.iload_n 1, 1) := by decide +kernel
theorem dX9_best_84 : decode cX9_best 84 = .ok (.ifCond .ne 7, 3) := by decide +kernel
theorem dX9_best_87 : decode cX9_best 87 = .ok (.iload_n 2, 1) := by decide +kernel
theorem dX9_best_88 : decode cX9_best 88 = .ok (.goto 14, 3) := by decide +kernel
theorem dX9_best_91 : decode cX9_best 91 = .ok (.iload_n 1, 1) := by decide +kernel
theorem dX9_best_92 : decode cX9_best 92 = .ok (.iconst 1, 1) := by decide +kernel
theorem dX9_best_93 : decode cX9_best 93 = .ok (.if_icmp .ne 7, 3) := by decide +kernel
theorem dX9_best_96 : decode cX9_best 96 = .ok (.iload_n 3, 1) := by decide +kernel
theorem dX9_best_97 : decode cX9_best 97 = .ok (.goto 5, 3) := by decide +kernel
theorem dX9_best_100 : decode cX9_best 100 = .ok (.iload 4, 2) := by decide +kernel
theorem dX9_best_102 : decode cX9_best 102 = .ok (.ireturn, 1) := by decide +kernel
theorem dX9_account_0 : decode cX9_account 0 = .ok (.aload_n 0, 1) := by decide +kernel
theorem dX9_account_1 : decode cX9_account 1 = .ok (.invokevirtual 46, 3) := by decide +kernel
theorem dX9_account_4 : decode cX9_account 4 = .ok (.aload_n 0, 1) := by decide +kernel
theorem dX9_account_5 : decode cX9_account 5 = .ok (.getfield 7, 3) := by decide +kernel
theorem dX9_account_8 : decode cX9_account 8 = .ok (.bipush 7, 2) := by decide +kernel
theorem dX9_account_10 : decode cX9_account 10 = .ok (.iaload, 1) := by decide +kernel
theorem dX9_account_11 : decode cX9_account 11 = .ok (.istore_n 1, 1) := by decide +kernel
theorem dX9_account_12 : decode cX9_account 12 = .ok (.aload_n 0, 1) := by decide +kernel
theorem dX9_account_13 : decode cX9_account 13 = .ok (.getfield 7, 3) := by decide +kernel
theorem dX9_account_16 : decode cX9_account 16 = .ok (.bipush 7, 2) := by decide +kernel
theorem dX9_account_18 : decode cX9_account 18 = .ok (.iconst 0, 1) := by decide +kernel
theorem dX9_account_19 : decode cX9_account 19 = .ok (.iastore, 1) := by decide +kernel
theorem dX9_account_20 : decode cX9_account 20 = .ok (.iload_n 1, 1) := by decide +kernel
theorem dX9_account_21 : decode cX9_account 21 = .ok (.ireturn, 1) := by decide +kernel
theorem dX9_put_0 : decode cX9_put 0 = .ok (.iconst 0, 1) := by decide +kernel
theorem dX9_put_1 : decode cX9_put 1 = .ok (.istore_n 3, 1) := by decide +kernel
theorem dX9_put_2 : decode cX9_put 2 = .ok (.lload_n 1, 1) := by decide +kernel
theorem dX9_put_3 : decode cX9_put 3 = .ok (.lstore 4, 2) := by decide +kernel
theorem dX9_put_5 : decode cX9_put 5 = .ok (.iload_n 3, 1) := by decide +kernel
theorem dX9_put_6 : decode cX9_put 6 = .ok (.bipush 8, 2) := by decide +kernel
theorem dX9_put_8 : decode cX9_put 8 = .ok (.if_icmp .ge 47, 3) := by decide +kernel
theorem dX9_put_11 : decode cX9_put 11 = .ok (.lload 4, 2) := by decide +kernel
theorem dX9_put_13 : decode cX9_put 13 = .ok (.ldc2_w 198, 3) := by decide +kernel
theorem dX9_put_16 : decode cX9_put 16 = .ok (.land, 1) := by decide +kernel
theorem dX9_put_17 : decode cX9_put 17 = .ok (.lconst 0, 1) := by decide +kernel
theorem dX9_put_18 : decode cX9_put 18 = .ok (.lcmp, 1) := by decide +kernel
theorem dX9_put_19 : decode cX9_put 19 = .ok (.ifCond .eq 36, 3) := by decide +kernel
theorem dX9_put_22 : decode cX9_put 22 = .ok (.lload 4, 2) := by decide +kernel
theorem dX9_put_24 : decode cX9_put 24 = .ok (.ldc2_w 198, 3) := by decide +kernel
theorem dX9_put_27 : decode cX9_put 27 = .ok (.land, 1) := by decide +kernel
theorem dX9_put_28 : decode cX9_put 28 = .ok (.l2i, 1) := by decide +kernel
theorem dX9_put_29 : decode cX9_put 29 = .ok (.bipush 33, 2) := by decide +kernel
theorem dX9_put_31 : decode cX9_put 31 = .ok (.bipush 126, 2) := by decide +kernel
theorem dX9_put_33 : decode cX9_put 33 = .ok (.invokestatic 35, 3) := by decide +kernel
theorem dX9_put_36 : decode cX9_put 36 = .ok (.ifCond .ne 6, 3) := by decide +kernel
theorem dX9_put_39 : decode cX9_put 39 = .ok (.bipush (-2), 2) := by decide +kernel
theorem dX9_put_41 : decode cX9_put 41 = .ok (.ireturn, 1) := by decide +kernel
theorem dX9_put_42 : decode cX9_put 42 = .ok (.iinc 3 1, 3) := by decide +kernel
theorem dX9_put_45 : decode cX9_put 45 = .ok (.lload 4, 2) := by decide +kernel
theorem dX9_put_47 : decode cX9_put 47 = .ok (.bipush 8, 2) := by decide +kernel
theorem dX9_put_49 : decode cX9_put 49 = .ok (.lushr, 1) := by decide +kernel
theorem dX9_put_50 : decode cX9_put 50 = .ok (.lstore 4, 2) := by decide +kernel
theorem dX9_put_52 : decode cX9_put 52 = .ok (.goto (-47), 3) := by decide +kernel
theorem dX9_put_55 : decode cX9_put 55 = .ok (.iload_n 3, 1) := by decide +kernel
theorem dX9_put_56 : decode cX9_put 56 = .ok (.ifCond .eq 10, 3) := by decide +kernel
theorem dX9_put_59 : decode cX9_put 59 = .ok (.lload 4, 2) := by decide +kernel
theorem dX9_put_61 : decode cX9_put 61 = .ok (.lconst 0, 1) := by decide +kernel
theorem dX9_put_62 : decode cX9_put 62 = .ok (.lcmp, 1) := by decide +kernel
theorem dX9_put_63 : decode cX9_put 63 = .ok (.ifCond .eq 6, 3) := by decide +kernel
theorem dX9_put_66 : decode cX9_put 66 = .ok (.bipush (-2), 2) := by decide +kernel
theorem dX9_put_68 : decode cX9_put 68 = .ok (.ireturn, 1) := by decide +kernel
theorem dX9_put_69 : decode cX9_put 69 = .ok (.aload_n 0, 1) := by decide +kernel
theorem dX9_put_70 : decode cX9_put 70 = .ok (.getfield 180, 3) := by decide +kernel
theorem dX9_put_73 : decode cX9_put 73 = .ok (.iload_n 3, 1) := by decide +kernel
theorem dX9_put_74 : decode cX9_put 74 = .ok (.iadd, 1) := by decide +kernel
theorem dX9_put_75 : decode cX9_put 75 = .ok (.bipush 80, 2) := by decide +kernel
theorem dX9_put_77 : decode cX9_put 77 = .ok (.if_icmp .le 6, 3) := by decide +kernel
theorem dX9_put_80 : decode cX9_put 80 = .ok (.bipush (-4), 2) := by decide +kernel
theorem dX9_put_82 : decode cX9_put 82 = .ok (.ireturn, 1) := by decide +kernel
theorem dX9_put_83 : decode cX9_put 83 = .ok (.iconst 0, 1) := by decide +kernel
theorem dX9_put_84 : decode cX9_put 84 = .ok (.istore 6, 2) := by decide +kernel
theorem dX9_put_86 : decode cX9_put 86 = .ok (.iload 6, 2) := by decide +kernel
theorem dX9_put_88 : decode cX9_put 88 = .ok (.iload_n 3, 1) := by decide +kernel
theorem dX9_put_89 : decode cX9_put 89 = .ok (.if_icmp .ge 37, 3) := by decide +kernel
theorem dX9_put_92 : decode cX9_put 92 = .ok (.aload_n 0, 1) := by decide +kernel
theorem dX9_put_93 : decode cX9_put 93 = .ok (.getfield 26, 3) := by decide +kernel
theorem dX9_put_96 : decode cX9_put 96 = .ok (.aload_n 0, 1) := by decide +kernel
theorem dX9_put_97 : decode cX9_put 97 = .ok (.getfield 180, 3) := by decide +kernel
theorem dX9_put_100 : decode cX9_put 100 = .ok (.iload 6, 2) := by decide +kernel
theorem dX9_put_102 : decode cX9_put 102 = .ok (.iadd, 1) := by decide +kernel
theorem dX9_put_103 : decode cX9_put 103 = .ok (.lload_n 1, 1) := by decide +kernel
theorem dX9_put_104 : decode cX9_put 104 = .ok (.bipush 8, 2) := by decide +kernel
theorem dX9_put_106 : decode cX9_put 106 = .ok (.iload_n 3, 1) := by decide +kernel
theorem dX9_put_107 : decode cX9_put 107 = .ok (.iconst 1, 1) := by decide +kernel
theorem dX9_put_108 : decode cX9_put 108 = .ok (.isub, 1) := by decide +kernel
theorem dX9_put_109 : decode cX9_put 109 = .ok (.iload 6, 2) := by decide +kernel
theorem dX9_put_111 : decode cX9_put 111 = .ok (.isub, 1) := by decide +kernel
theorem dX9_put_112 : decode cX9_put 112 = .ok (.imul, 1) := by decide +kernel
theorem dX9_put_113 : decode cX9_put 113 = .ok (.lshr, 1) := by decide +kernel
theorem dX9_put_114 : decode cX9_put 114 = .ok (.ldc2_w 198, 3) := by decide +kernel
theorem dX9_put_117 : decode cX9_put 117 = .ok (.land, 1) := by decide +kernel
theorem dX9_put_118 : decode cX9_put 118 = .ok (.l2i, 1) := by decide +kernel
theorem dX9_put_119 : decode cX9_put 119 = .ok (.iastore, 1) := by decide +kernel
theorem dX9_put_120 : decode cX9_put 120 = .ok (.iinc 6 1, 3) := by decide +kernel
theorem dX9_put_123 : decode cX9_put 123 = .ok (.goto (-37), 3) := by decide +kernel
theorem dX9_put_126 : decode cX9_put 126 = .ok (.aload_n 0, 1) := by decide +kernel
theorem dX9_put_127 : decode cX9_put 127 = .ok (.dup, 1) := by decide +kernel
theorem dX9_put_128 : decode cX9_put 128 = .ok (.getfield 180, 3) := by decide +kernel
theorem dX9_put_131 : decode cX9_put 131 = .ok (.iload_n 3, 1) := by decide +kernel
theorem dX9_put_132 : decode cX9_put 132 = .ok (.iadd, 1) := by decide +kernel
theorem dX9_put_133 : decode cX9_put 133 = .ok (.putfield 180, 3) := by decide +kernel
theorem dX9_put_136 : decode cX9_put 136 = .ok (.aload_n 0, 1) := by decide +kernel
theorem dX9_put_137 : decode cX9_put 137 = .ok (.getfield 180, 3) := by decide +kernel
theorem dX9_put_140 : decode cX9_put 140 = .ok (.ireturn, 1) := by decide +kernel
theorem dX9_wipe_0 : decode cX9_wipe 0 = .ok (.aload_n 0, 1) := by decide +kernel
theorem dX9_wipe_1 : decode cX9_wipe 1 = .ok (.getfield 180, 3) := by decide +kernel
theorem dX9_wipe_4 : decode cX9_wipe 4 = .ok (.istore_n 1, 1) := by decide +kernel
theorem dX9_wipe_5 : decode cX9_wipe 5 = .ok (.aload_n 0, 1) := by decide +kernel
theorem dX9_wipe_6 : decode cX9_wipe 6 = .ok (.iconst 0, 1) := by decide +kernel
theorem dX9_wipe_7 : decode cX9_wipe 7 = .ok (.putfield 180, 3) := by decide +kernel
theorem dX9_wipe_10 : decode cX9_wipe 10 = .ok (.iload_n 1, 1) := by decide +kernel
theorem dX9_wipe_11 : decode cX9_wipe 11 = .ok (.ireturn, 1) := by decide +kernel
theorem dX9_next_0 : decode cX9_next 0 = .ok (.aload_n 0, 1) := by decide +kernel
theorem dX9_next_1 : decode cX9_next 1 = .ok (.getfield 200, 3) := by decide +kernel
theorem dX9_next_4 : decode cX9_next 4 = .ok (.aload_n 0, 1) := by decide +kernel
theorem dX9_next_5 : decode cX9_next 5 = .ok (.getfield 180, 3) := by decide +kernel
theorem dX9_next_8 : decode cX9_next 8 = .ok (.if_icmp .ge 15, 3) := by decide +kernel
theorem dX9_next_11 : decode cX9_next 11 = .ok (.aload_n 0, 1) := by decide +kernel
theorem dX9_next_12 : decode cX9_next 12 = .ok (.getfield 26, 3) := by decide +kernel
theorem dX9_next_15 : decode cX9_next 15 = .ok (.aload_n 0, 1) := by decide +kernel
theorem dX9_next_16 : decode cX9_next 16 = .ok (.getfield 200, 3) := by decide +kernel
theorem dX9_next_19 : decode cX9_next 19 = .ok (.iaload, 1) := by decide +kernel
theorem dX9_next_20 : decode cX9_next 20 = .ok (.goto 4, 3) := by decide +kernel
theorem dX9_next_23 : decode cX9_next 23 = .ok (.iconst 0, 1) := by decide +kernel
theorem dX9_next_24 : decode cX9_next 24 = .ok (.ireturn, 1) := by decide +kernel
theorem dX9_takeSign_0 : decode cX9_takeSign 0 = .ok (.aload_n 0, 1) := by decide +kernel
theorem dX9_takeSign_1 : decode cX9_takeSign 1 = .ok (.aload_n 0, 1) := by decide +kernel
theorem dX9_takeSign_2 : decode cX9_takeSign 2 = .ok (.getfield 203, 3) := by decide +kernel
theorem dX9_takeSign_5 : decode cX9_takeSign 5 = .ok (.ifCond .ne 11, 3) := by decide +kernel
theorem dX9_takeSign_8 : decode cX9_takeSign 8 = .ok (.aload_n 0, 1) := by decide +kernel
theorem dX9_takeSign_9 : decode cX9_takeSign 9 = .ok (.invokevirtual 207, 3) := by decide +kernel
theorem dX9_takeSign_12 : decode cX9_takeSign 12 = .ok (.iload_n 1, 1) := by decide +kernel
theorem dX9_takeSign_13 : decode cX9_takeSign 13 = .ok (.if_icmp .eq 7, 3) := by decide +kernel
theorem dX9_takeSign_16 : decode cX9_takeSign 16 = .ok (.iconst 1, 1) := by decide +kernel
theorem dX9_takeSign_17 : decode cX9_takeSign 17 = .ok (.goto 4, 3) := by decide +kernel
theorem dX9_takeSign_20 : decode cX9_takeSign 20 = .ok (.iconst 0, 1) := by decide +kernel
theorem dX9_takeSign_21 : decode cX9_takeSign 21 = .ok (.putfield 203, 3) := by decide +kernel
theorem dX9_takeSign_24 : decode cX9_takeSign 24 = .ok (.aload_n 0, 1) := by decide +kernel
theorem dX9_takeSign_25 : decode cX9_takeSign 25 = .ok (.dup, 1) := by decide +kernel
theorem dX9_takeSign_26 : decode cX9_takeSign 26 = .ok (.getfield 200, 3) := by decide +kernel
theorem dX9_takeSign_29 : decode cX9_takeSign 29 = .ok (.aload_n 0, 1) := by decide +kernel
theorem dX9_takeSign_30 : decode cX9_takeSign 30 = .ok (.getfield 203, 3) := by decide +kernel
theorem dX9_takeSign_33 : decode cX9_takeSign 33 = .ok (.ifCond .eq 7, 3) := by decide +kernel
theorem dX9_takeSign_36 : decode cX9_takeSign 36 = .ok (.iconst 0, 1) := by decide +kernel
theorem dX9_takeSign_37 : decode cX9_takeSign 37 = .ok (.goto 4, 3) := by decide +kernel
theorem dX9_takeSign_40 : decode cX9_takeSign 40 = .ok (.iconst 1, 1) := by decide +kernel
theorem dX9_takeSign_41 : decode cX9_takeSign 41 = .ok (.iadd, 1) := by decide +kernel
theorem dX9_takeSign_42 : decode cX9_takeSign 42 = .ok (.putfield 200, 3) := by decide +kernel
theorem dX9_takeSign_45 : decode cX9_takeSign 45 = .ok (.return_, 1) := by decide +kernel
theorem dX9_takeNumber_0 : decode cX9_takeNumber 0 = .ok (.aload_n 0, 1) := by decide +kernel
theorem dX9_takeNumber_1 : decode cX9_takeNumber 1 = .ok (.aload_n 0, 1) := by decide +kernel
theorem dX9_takeNumber_2 : decode cX9_takeNumber 2 = .ok (.getfield 203, 3) := by decide +kernel
theorem dX9_takeNumber_5 : decode cX9_takeNumber 5 = .ok (.ifCond .ne 17, 3) := by decide +kernel
theorem dX9_takeNumber_8 : decode cX9_takeNumber 8 = .ok (.aload_n 0, 1) := by decide +kernel
theorem dX9_takeNumber_9 : decode cX9_takeNumber 9 = .ok (.invokevirtual 207, 3) := by decide +kernel
theorem dX9_takeNumber_12 : decode cX9_takeNumber 12 = .ok (.bipush 48, 2) := by decide +kernel
theorem dX9_takeNumber_14 : decode cX9_takeNumber 14 = .ok (.bipush 57, 2) := by decide +kernel
theorem dX9_takeNumber_16 : decode cX9_takeNumber 16 = .ok (.invokestatic 35, 3) := by decide +kernel
theorem dX9_takeNumber_19 : decode cX9_takeNumber 19 = .ok (.ifCond .ne 7, 3) := by decide +kernel
theorem dX9_takeNumber_22 : decode cX9_takeNumber 22 = .ok (.iconst 1, 1) := by decide +kernel
theorem dX9_takeNumber_23 : decode cX9_takeNumber 23 = .ok (.goto 4, 3) := by decide +kernel
theorem dX9_takeNumber_26 : decode cX9_takeNumber 26 = .ok (.iconst 0, 1) := by decide +kernel
theorem dX9_takeNumber_27 : decode cX9_takeNumber 27 = .ok (.putfield 203, 3) := by decide +kernel
theorem dX9_takeNumber_30 : decode cX9_takeNumber 30 = .ok (.aload_n 0, 1) := by decide +kernel
theorem dX9_takeNumber_31 : decode cX9_takeNumber 31 = .ok (.getfield 203, 3) := by decide +kernel
theorem dX9_takeNumber_34 : decode cX9_takeNumber 34 = .ok (.ifCond .eq 4, 3) := by decide +kernel
theorem dX9_takeNumber_37 : decode cX9_takeNumber 37 = .ok (.return_, 1) := by decide +kernel
theorem dX9_takeNumber_38 : decode cX9_takeNumber 38 = .ok (.aload_n 0, 1) := by decide +kernel
theorem dX9_takeNumber_39 : decode cX9_takeNumber 39 = .ok (.invokevirtual 207, 3) := by decide +kernel
theorem dX9_takeNumber_42 : decode cX9_takeNumber 42 = .ok (.bipush 48, 2) := by decide +kernel
theorem dX9_takeNumber_44 : decode cX9_takeNumber 44 = .ok (.isub, 1) := by decide +kernel
theorem dX9_takeNumber_45 : decode cX9_takeNumber 45 = .ok (.istore_n 2, 1) := by decide +kernel
theorem dX9_takeNumber_46 : decode cX9_takeNumber 46 = .ok (.aload_n 0, 1) := by decide +kernel
theorem dX9_takeNumber_47 : decode cX9_takeNumber 47 = .ok (.dup, 1) := by decide +kernel
theorem dX9_takeNumber_48 : decode cX9_takeNumber 48 = .ok (.getfield 200, 3) := by decide +kernel
theorem dX9_takeNumber_51 : decode cX9_takeNumber 51 = .ok (.iconst 1, 1) := by decide +kernel
theorem dX9_takeNumber_52 : decode cX9_takeNumber 52 = .ok (.iadd, 1) := by decide +kernel
theorem dX9_takeNumber_53 : decode cX9_takeNumber 53 = .ok (.putfield 200, 3) := by decide +kernel
theorem dX9_takeNumber_56 : decode cX9_takeNumber 56 = .ok (.aload_n 0, 1) := by decide +kernel
theorem dX9_takeNumber_57 : decode cX9_takeNumber 57 = .ok (.getfield 203, 3) := by decide +kernel
theorem dX9_takeNumber_60 : decode cX9_takeNumber 60 = .ok (.ifCond .ne 96, 3) := by decide +kernel
theorem dX9_takeNumber_63 : decode cX9_takeNumber 63 = .ok (.iload_n 2, 1) := by decide +kernel
theorem dX9_takeNumber_64 : decode cX9_takeNumber 64 = .ok (.ifCond .le 92, 3) := by decide +kernel
theorem dX9_takeNumber_67 : decode cX9_takeNumber 67 = .ok (.aload_n 0, 1) := by decide +kernel
theorem dX9_takeNumber_68 : decode cX9_takeNumber 68 = .ok (.invokevirtual 207, 3) := by decide +kernel
theorem dX9_takeNumber_71 : decode cX9_takeNumber 71 = .ok (.bipush 48, 2) := by decide +kernel
theorem dX9_takeNumber_73 : decode cX9_takeNumber 73 = .ok (.bipush 57, 2) := by decide +kernel
theorem dX9_takeNumber_75 : decode cX9_takeNumber 75 = .ok (.invokestatic 35, 3) := by decide +kernel
theorem dX9_takeNumber_78 : decode cX9_takeNumber 78 = .ok (.ifCond .eq 78, 3) := by decide +kernel
theorem dX9_takeNumber_81 : decode cX9_takeNumber 81 = .ok (.aload_n 0, 1) := by decide +kernel
theorem dX9_takeNumber_82 : decode cX9_takeNumber 82 = .ok (.bipush 10, 2) := by decide +kernel
theorem dX9_takeNumber_84 : decode cX9_takeNumber 84 = .ok (.iload_n 2, 1) := by decide +kernel
theorem dX9_takeNumber_85 : decode cX9_takeNumber 85 = .ok (.imul, 1) := by decide +kernel
theorem dX9_takeNumber_86 : decode cX9_takeNumber 86 = .ok (.aload_n 0, 1) := by decide +kernel
theorem dX9_takeNumber_87 : decode cX9_takeNumber 87 = .ok (.invokevirtual 207, 3) := by decide +kernel
theorem dX9_takeNumber_90 : decode cX9_takeNumber 90 = .ok (.iadd, 1) := by decide +kernel
theorem dX9_takeNumber_91 : decode cX9_takeNumber 91 = .ok (.bipush 48, 2) := by decide +kernel
theorem dX9_takeNumber_93 : decode cX9_takeNumber 93 = .ok (.isub, 1) := by decide +kernel
theorem dX9_takeNumber_94 : decode cX9_takeNumber 94 = .ok (.sipush 9999, 3) := by decide +kernel
theorem dX9_takeNumber_97 : decode cX9_takeNumber 97 = .ok (.if_icmp .le 7, 3) := by decide +kernel
theorem dX9_takeNumber_100 : decode cX9_takeNumber 100 = .ok (.iconst 1, 1) := by decide +kernel
theorem dX9_takeNumber_101 : decode cX9_takeNumber 101 = .ok (.goto 4, 3) := by decide +kernel
theorem dX9_takeNumber_104 : decode cX9_takeNumber 104 = .ok (.iconst 0, 1) := by decide +kernel
theorem dX9_takeNumber_105 : decode cX9_takeNumber 105 = .ok (.putfield 203, 3) := by decide +kernel
theorem dX9_takeNumber_108 : decode cX9_takeNumber 108 = .ok (.aload_n 0, 1) := by decide +kernel
theorem dX9_takeNumber_109 : decode cX9_takeNumber 109 = .ok (.getfield 203, 3) := by decide +kernel
theorem dX9_takeNumber_112 : decode cX9_takeNumber 112 = .ok (.ifCond .eq 7, 3) := by decide +kernel
theorem dX9_takeNumber_115 : decode cX9_takeNumber 115 = .ok (.iload_n 2, 1) := by decide +kernel
theorem dX9_takeNumber_116 : decode cX9_takeNumber 116 = .ok (.goto 15, 3) := by decide +kernel
theorem dX9_takeNumber_119 : decode cX9_takeNumber 119 = .ok (.bipush 10, 2) := by decide +kernel
theorem dX9_takeNumber_121 : decode cX9_takeNumber 121 = .ok (.iload_n 2, 1) := by decide +kernel
theorem dX9_takeNumber_122 : decode cX9_takeNumber 122 = .ok (.imul, 1) := by decide +kernel
theorem dX9_takeNumber_123 : decode cX9_takeNumber 123 = .ok (.aload_n 0, 1) := by decide +kernel
theorem dX9_takeNumber_124 : decode cX9_takeNumber 124 = .ok (.invokevirtual 207, 3) := by decide +kernel
theorem dX9_takeNumber_127 : decode cX9_takeNumber 127 = .ok (.iadd, 1) := by decide +kernel
theorem dX9_takeNumber_128 : decode cX9_takeNumber 128 = .ok (.bipush 48, 2) := by decide +kernel
theorem dX9_takeNumber_130 : decode cX9_takeNumber 130 = .ok (.isub, 1) := by decide +kernel
theorem dX9_takeNumber_131 : decode cX9_takeNumber 131 = .ok (.istore_n 2, 1) := by decide +kernel
theorem dX9_takeNumber_132 : decode cX9_takeNumber 132 = .ok (.aload_n 0, 1) := by decide +kernel
theorem dX9_takeNumber_133 : decode cX9_takeNumber 133 = .ok (.dup, 1) := by decide +kernel
theorem dX9_takeNumber_134 : decode cX9_takeNumber 134 = .ok (.getfield 200, 3) := by decide +kernel
theorem dX9_takeNumber_137 : decode cX9_takeNumber 137 = .ok (.aload_n 0, 1) := by decide +kernel
theorem dX9_takeNumber_138 : decode cX9_takeNumber 138 = .ok (.getfield 203, 3) := by decide +kernel
theorem dX9_takeNumber_141 : decode cX9_takeNumber 141 = .ok (.ifCond .eq 7, 3) := by decide +kernel
theorem dX9_takeNumber_144 : decode cX9_takeNumber 144 = .ok (.iconst 0, 1) := by decide +kernel
theorem dX9_takeNumber_145 : decode cX9_takeNumber 145 = .ok (.goto 4, 3) := by decide +kernel
theorem dX9_takeNumber_148 : decode cX9_takeNumber 148 = .ok (.iconst 1, 1) := by decide +kernel
theorem dX9_takeNumber_149 : decode cX9_takeNumber 149 = .ok (.iadd, 1) := by decide +kernel
theorem dX9_takeNumber_150 : decode cX9_takeNumber 150 = .ok (.putfield 200, 3) := by decide +kernel
theorem dX9_takeNumber_153 : decode cX9_takeNumber 153 = .ok (.goto (-97), 3) := by decide +kernel
theorem dX9_takeNumber_156 : decode cX9_takeNumber 156 = .ok (.aload_n 0, 1) := by decide +kernel
theorem dX9_takeNumber_157 : decode cX9_takeNumber 157 = .ok (.getfield 32, 3) := by decide +kernel
theorem dX9_takeNumber_160 : decode cX9_takeNumber 160 = .ok (.iconst 3, 1) := by decide +kernel
theorem dX9_takeNumber_161 : decode cX9_takeNumber 161 = .ok (.aload_n 0, 1) := by decide +kernel
theorem dX9_takeNumber_162 : decode cX9_takeNumber 162 = .ok (.getfield 211, 3) := by decide +kernel
theorem dX9_takeNumber_165 : decode cX9_takeNumber 165 = .ok (.imul, 1) := by decide +kernel
theorem dX9_takeNumber_166 : decode cX9_takeNumber 166 = .ok (.iload_n 1, 1) := by decide +kernel
theorem dX9_takeNumber_167 : decode cX9_takeNumber 167 = .ok (.iadd, 1) := by decide +kernel
theorem dX9_takeNumber_168 : decode cX9_takeNumber 168 = .ok (.iload_n 2, 1) := by decide +kernel
theorem dX9_takeNumber_169 : decode cX9_takeNumber 169 = .ok (.iastore, 1) := by decide +kernel
theorem dX9_takeNumber_170 : decode cX9_takeNumber 170 = .ok (.return_, 1) := by decide +kernel
theorem dX9_takeOrder_0 : decode cX9_takeOrder 0 = .ok (.aload_n 0, 1) := by decide +kernel
theorem dX9_takeOrder_1 : decode cX9_takeOrder 1 = .ok (.invokevirtual 207, 3) := by decide +kernel
theorem dX9_takeOrder_4 : decode cX9_takeOrder 4 = .ok (.istore_n 1, 1) := by decide +kernel
theorem dX9_takeOrder_5 : decode cX9_takeOrder 5 = .ok (.aload_n 0, 1) := by decide +kernel
theorem dX9_takeOrder_6 : decode cX9_takeOrder 6 = .ok (.dup, 1) := by decide +kernel
theorem dX9_takeOrder_7 : decode cX9_takeOrder 7 = .ok (.getfield 200, 3) := by decide +kernel
theorem dX9_takeOrder_10 : decode cX9_takeOrder 10 = .ok (.iconst 1, 1) := by decide +kernel
theorem dX9_takeOrder_11 : decode cX9_takeOrder 11 = .ok (.iadd, 1) := by decide +kernel
theorem dX9_takeOrder_12 : decode cX9_takeOrder 12 = .ok (.putfield 200, 3) := by decide +kernel
theorem dX9_takeOrder_15 : decode cX9_takeOrder 15 = .ok (.iload_n 1, 1) := by decide +kernel
theorem dX9_takeOrder_16 : decode cX9_takeOrder 16 = .ok (.lookupswitch 88 #[(98, 44), (99, 80), (114, 44), (119, 44)], 44) := by decide +kernel
