theorem dX0_init_0 : decode cX0_init 0 = .ok (.aload_n 0, 1) := by decide +kernel
theorem dX0_init_1 : decode cX0_init 1 = .ok (.invokespecial 3, 3) := by decide +kernel
theorem dX0_init_4 : decode cX0_init 4 = .ok (.aload_n 0, 1) := by decide +kernel
theorem dX0_init_5 : decode cX0_init 5 = .ok (.new 9, 3) := by decide +kernel
theorem dX0_init_8 : decode cX0_init 8 = .ok (.dup, 1) := by decide +kernel
theorem dX0_init_9 : decode cX0_init 9 = .ok (.bipush 60, 2) := by decide +kernel
theorem dX0_init_11 : decode cX0_init 11 = .ok (.invokespecial 11, 3) := by decide +kernel
theorem dX0_init_14 : decode cX0_init 14 = .ok (.putfield 14, 3) := by decide +kernel
theorem dX0_init_17 : decode cX0_init 17 = .ok (.aload_n 0, 1) := by decide +kernel
theorem dX0_init_18 : decode cX0_init 18 = .ok (.new 9, 3) := by decide +kernel
theorem dX0_init_21 : decode cX0_init 21 = .ok (.dup, 1) := by decide +kernel
theorem dX0_init_22 : decode cX0_init 22 = .ok (.bipush 60, 2) := by decide +kernel
theorem dX0_init_24 : decode cX0_init 24 = .ok (.invokespecial 11, 3) := by decide +kernel
theorem dX0_init_27 : decode cX0_init 27 = .ok (.putfield 20, 3) := by decide +kernel
theorem dX0_init_30 : decode cX0_init 30 = .ok (.aload_n 0, 1) := by decide +kernel
theorem dX0_init_31 : decode cX0_init 31 = .ok (.new 9, 3) := by decide +kernel
theorem dX0_init_34 : decode cX0_init 34 = .ok (.dup, 1) := by decide +kernel
theorem dX0_init_35 : decode cX0_init 35 = .ok (.bipush 60, 2) := by decide +kernel
theorem dX0_init_37 : decode cX0_init 37 = .ok (.invokespecial 11, 3) := by decide +kernel
theorem dX0_init_40 : decode cX0_init 40 = .ok (.putfield 23, 3) := by decide +kernel
theorem dX0_init_43 : decode cX0_init 43 = .ok (.return_, 1) := by decide +kernel
theorem dX0_cellOf_0 : decode cX0_cellOf 0 = .ok (.aload_n 0, 1) := by decide +kernel
theorem dX0_cellOf_1 : decode cX0_cellOf 1 = .ok (.getfield 26, 3) := by decide +kernel
theorem dX0_cellOf_4 : decode cX0_cellOf 4 = .ok (.iload_n 1, 1) := by decide +kernel
theorem dX0_cellOf_5 : decode cX0_cellOf 5 = .ok (.iadd, 1) := by decide +kernel
theorem dX0_cellOf_6 : decode cX0_cellOf 6 = .ok (.bipush 60, 2) := by decide +kernel
theorem dX0_cellOf_8 : decode cX0_cellOf 8 = .ok (.irem, 1) := by decide +kernel
theorem dX0_cellOf_9 : decode cX0_cellOf 9 = .ok (.ireturn, 1) := by decide +kernel
theorem dX0_append_0 : decode cX0_append 0 = .ok (.aload_n 0, 1) := by decide +kernel
theorem dX0_append_1 : decode cX0_append 1 = .ok (.aload_n 0, 1) := by decide +kernel
theorem dX0_append_2 : decode cX0_append 2 = .ok (.getfield 30, 3) := by decide +kernel
theorem dX0_append_5 : decode cX0_append 5 = .ok (.invokevirtual 33, 3) := by decide +kernel
theorem dX0_append_8 : decode cX0_append 8 = .ok (.istore 4, 2) := by decide +kernel
theorem dX0_append_10 : decode cX0_append 10 = .ok (.aload_n 0, 1) := by decide +kernel
theorem dX0_append_11 : decode cX0_append 11 = .ok (.getfield 14, 3) := by decide +kernel
theorem dX0_append_14 : decode cX0_append 14 = .ok (.iload 4, 2) := by decide +kernel
theorem dX0_append_16 : decode cX0_append 16 = .ok (.iload_n 1, 1) := by decide +kernel
theorem dX0_append_17 : decode cX0_append 17 = .ok (.invokevirtual 37, 3) := by decide +kernel
theorem dX0_append_20 : decode cX0_append 20 = .ok (.aload_n 0, 1) := by decide +kernel
theorem dX0_append_21 : decode cX0_append 21 = .ok (.getfield 20, 3) := by decide +kernel
theorem dX0_append_24 : decode cX0_append 24 = .ok (.iload 4, 2) := by decide +kernel
theorem dX0_append_26 : decode cX0_append 26 = .ok (.iload_n 2, 1) := by decide +kernel
theorem dX0_append_27 : decode cX0_append 27 = .ok (.invokevirtual 37, 3) := by decide +kernel
theorem dX0_append_30 : decode cX0_append 30 = .ok (.aload_n 0, 1) := by decide +kernel
theorem dX0_append_31 : decode cX0_append 31 = .ok (.getfield 23, 3) := by decide +kernel
theorem dX0_append_34 : decode cX0_append 34 = .ok (.iload 4, 2) := by decide +kernel
theorem dX0_append_36 : decode cX0_append 36 = .ok (.iload_n 3, 1) := by decide +kernel
theorem dX0_append_37 : decode cX0_append 37 = .ok (.invokevirtual 37, 3) := by decide +kernel
theorem dX0_append_40 : decode cX0_append 40 = .ok (.aload_n 0, 1) := by decide +kernel
theorem dX0_append_41 : decode cX0_append 41 = .ok (.getfield 30, 3) := by decide +kernel
theorem dX0_append_44 : decode cX0_append 44 = .ok (.bipush 60, 2) := by decide +kernel
theorem dX0_append_46 : decode cX0_append 46 = .ok (.if_icmp .ge 16, 3) := by decide +kernel
theorem dX0_append_49 : decode cX0_append 49 = .ok (.aload_n 0, 1) := by decide +kernel
theorem dX0_append_50 : decode cX0_append 50 = .ok (.dup, 1) := by decide +kernel
theorem dX0_append_51 : decode cX0_append 51 = .ok (.getfield 30, 3) := by decide +kernel
theorem dX0_append_54 : decode cX0_append 54 = .ok (.iconst 1, 1) := by decide +kernel
theorem dX0_append_55 : decode cX0_append 55 = .ok (.iadd, 1) := by decide +kernel
theorem dX0_append_56 : decode cX0_append 56 = .ok (.putfield 30, 3) := by decide +kernel
theorem dX0_append_59 : decode cX0_append 59 = .ok (.goto 12, 3) := by decide +kernel
theorem dX0_append_62 : decode cX0_append 62 = .ok (.aload_n 0, 1) := by decide +kernel
theorem dX0_append_63 : decode cX0_append 63 = .ok (.aload_n 0, 1) := by decide +kernel
theorem dX0_append_64 : decode cX0_append 64 = .ok (.iconst 1, 1) := by decide +kernel
theorem dX0_append_65 : decode cX0_append 65 = .ok (.invokevirtual 33, 3) := by decide +kernel
theorem dX0_append_68 : decode cX0_append 68 = .ok (.putfield 26, 3) := by decide +kernel
theorem dX0_append_71 : decode cX0_append 71 = .ok (.return_, 1) := by decide +kernel
theorem dX0_clear_0 : decode cX0_clear 0 = .ok (.aload_n 0, 1) := by decide +kernel
theorem dX0_clear_1 : decode cX0_clear 1 = .ok (.iconst 0, 1) := by decide +kernel
theorem dX0_clear_2 : decode cX0_clear 2 = .ok (.putfield 26, 3) := by decide +kernel
theorem dX0_clear_5 : decode cX0_clear 5 = .ok (.aload_n 0, 1) := by decide +kernel
theorem dX0_clear_6 : decode cX0_clear 6 = .ok (.iconst 0, 1) := by decide +kernel
theorem dX0_clear_7 : decode cX0_clear 7 = .ok (.putfield 30, 3) := by decide +kernel
theorem dX0_clear_10 : decode cX0_clear 10 = .ok (.return_, 1) := by decide +kernel
theorem dX0_copyFrom_0 : decode cX0_copyFrom 0 = .ok (.aload_n 0, 1) := by decide +kernel
theorem dX0_copyFrom_1 : decode cX0_copyFrom 1 = .ok (.getfield 14, 3) := by decide +kernel
theorem dX0_copyFrom_4 : decode cX0_copyFrom 4 = .ok (.aload_n 1, 1) := by decide +kernel
theorem dX0_copyFrom_5 : decode cX0_copyFrom 5 = .ok (.getfield 14, 3) := by decide +kernel
theorem dX0_copyFrom_8 : decode cX0_copyFrom 8 = .ok (.invokevirtual 41, 3) := by decide +kernel
theorem dX0_copyFrom_11 : decode cX0_copyFrom 11 = .ok (.aload_n 0, 1) := by decide +kernel
theorem dX0_copyFrom_12 : decode cX0_copyFrom 12 = .ok (.getfield 20, 3) := by decide +kernel
theorem dX0_copyFrom_15 : decode cX0_copyFrom 15 = .ok (.aload_n 1, 1) := by decide +kernel
theorem dX0_copyFrom_16 : decode cX0_copyFrom 16 = .ok (.getfield 20, 3) := by decide +kernel
theorem dX0_copyFrom_19 : decode cX0_copyFrom 19 = .ok (.invokevirtual 41, 3) := by decide +kernel
theorem dX0_copyFrom_22 : decode cX0_copyFrom 22 = .ok (.aload_n 0, 1) := by decide +kernel
theorem dX0_copyFrom_23 : decode cX0_copyFrom 23 = .ok (.getfield 23, 3) := by decide +kernel
theorem dX0_copyFrom_26 : decode cX0_copyFrom 26 = .ok (.aload_n 1, 1) := by decide +kernel
theorem dX0_copyFrom_27 : decode cX0_copyFrom 27 = .ok (.getfield 23, 3) := by decide +kernel
theorem dX0_copyFrom_30 : decode cX0_copyFrom 30 = .ok (.invokevirtual 41, 3) := by decide +kernel
theorem dX0_copyFrom_33 : decode cX0_copyFrom 33 = .ok (.aload_n 0, 1) := by decide +kernel
theorem dX0_copyFrom_34 : decode cX0_copyFrom 34 = .ok (.aload_n 1, 1) := by decide +kernel
theorem dX0_copyFrom_35 : decode cX0_copyFrom 35 = .ok (.getfield 26, 3) := by decide +kernel
theorem dX0_copyFrom_38 : decode cX0_copyFrom 38 = .ok (.putfield 26, 3) := by decide +kernel
theorem dX0_copyFrom_41 : decode cX0_copyFrom 41 = .ok (.aload_n 0, 1) := by decide +kernel
theorem dX0_copyFrom_42 : decode cX0_copyFrom 42 = .ok (.aload_n 1, 1) := by decide +kernel
theorem dX0_copyFrom_43 : decode cX0_copyFrom 43 = .ok (.getfield 30, 3) := by decide +kernel
theorem dX0_copyFrom_46 : decode cX0_copyFrom 46 = .ok (.putfield 30, 3) := by decide +kernel
theorem dX0_copyFrom_49 : decode cX0_copyFrom 49 = .ok (.return_, 1) := by decide +kernel
theorem dX1_init_0 : decode cX1_init 0 = .ok (.aload_n 0, 1) := by decide +kernel
theorem dX1_init_1 : decode cX1_init 1 = .ok (.invokespecial 3, 3) := by decide +kernel
theorem dX1_init_4 : decode cX1_init 4 = .ok (.aload_n 0, 1) := by decide +kernel
theorem dX1_init_5 : decode cX1_init 5 = .ok (.new 9, 3) := by decide +kernel
theorem dX1_init_8 : decode cX1_init 8 = .ok (.dup, 1) := by decide +kernel
theorem dX1_init_9 : decode cX1_init 9 = .ok (.bipush 24, 2) := by decide +kernel
theorem dX1_init_11 : decode cX1_init 11 = .ok (.invokespecial 11, 3) := by decide +kernel
theorem dX1_init_14 : decode cX1_init 14 = .ok (.putfield 14, 3) := by decide +kernel
theorem dX1_init_17 : decode cX1_init 17 = .ok (.aload_n 0, 1) := by decide +kernel
theorem dX1_init_18 : decode cX1_init 18 = .ok (.new 9, 3) := by decide +kernel
theorem dX1_init_21 : decode cX1_init 21 = .ok (.dup, 1) := by decide +kernel
theorem dX1_init_22 : decode cX1_init 22 = .ok (.bipush 24, 2) := by decide +kernel
theorem dX1_init_24 : decode cX1_init 24 = .ok (.invokespecial 11, 3) := by decide +kernel
theorem dX1_init_27 : decode cX1_init 27 = .ok (.putfield 20, 3) := by decide +kernel
theorem dX1_init_30 : decode cX1_init 30 = .ok (.return_, 1) := by decide +kernel
theorem dX1_isOwnedBy_0 : decode cX1_isOwnedBy 0 = .ok (.aload_n 0, 1) := by decide +kernel
theorem dX1_isOwnedBy_1 : decode cX1_isOwnedBy 1 = .ok (.getfield 14, 3) := by decide +kernel
theorem dX1_isOwnedBy_4 : decode cX1_isOwnedBy 4 = .ok (.iload_n 1, 1) := by decide +kernel
theorem dX1_isOwnedBy_5 : decode cX1_isOwnedBy 5 = .ok (.invokevirtual 23, 3) := by decide +kernel
theorem dX1_isOwnedBy_8 : decode cX1_isOwnedBy 8 = .ok (.iconst 3, 1) := by decide +kernel
theorem dX1_isOwnedBy_9 : decode cX1_isOwnedBy 9 = .ok (.if_icmp .ne 22, 3) := by decide +kernel
theorem dX1_isOwnedBy_12 : decode cX1_isOwnedBy 12 = .ok (.iload_n 2, 1) := by decide +kernel
theorem dX1_isOwnedBy_13 : decode cX1_isOwnedBy 13 = .ok (.aload_n 0, 1) := by decide +kernel
theorem dX1_isOwnedBy_14 : decode cX1_isOwnedBy 14 = .ok (.getfield 20, 3) := by decide +kernel
theorem dX1_isOwnedBy_17 : decode cX1_isOwnedBy 17 = .ok (.iload_n 1, 1) := by decide +kernel
theorem dX1_isOwnedBy_18 : decode cX1_isOwnedBy 18 = .ok (.invokevirtual 23, 3) := by decide +kernel
theorem dX1_isOwnedBy_21 : decode cX1_isOwnedBy 21 = .ok (.invokestatic 27, 3) := by decide +kernel
theorem dX1_isOwnedBy_24 : decode cX1_isOwnedBy 24 = .ok (.ifCond .eq 7, 3) := by decide +kernel
theorem dX1_isOwnedBy_27 : decode cX1_isOwnedBy 27 = .ok (.iconst 1, 1) := by decide +kernel
theorem dX1_isOwnedBy_28 : decode cX1_isOwnedBy 28 = .ok (.goto 4, 3) := by decide +kernel
theorem dX1_isOwnedBy_31 : decode cX1_isOwnedBy 31 = .ok (.iconst 0, 1) := by decide +kernel
theorem dX1_isOwnedBy_32 : decode cX1_isOwnedBy 32 = .ok (.ireturn, 1) := by decide +kernel
theorem dX1_called_0 : decode cX1_called 0 = .ok (.aload_n 0, 1) := by decide +kernel
theorem dX1_called_1 : decode cX1_called 1 = .ok (.getfield 20, 3) := by decide +kernel
theorem dX1_called_4 : decode cX1_called 4 = .ok (.iload_n 1, 1) := by decide +kernel
theorem dX1_called_5 : decode cX1_called 5 = .ok (.invokevirtual 23, 3) := by decide +kernel
theorem dX1_called_8 : decode cX1_called 8 = .ok (.istore_n 3, 1) := by decide +kernel
theorem dX1_called_9 : decode cX1_called 9 = .ok (.aload_n 0, 1) := by decide +kernel
theorem dX1_called_10 : decode cX1_called 10 = .ok (.getfield 14, 3) := by decide +kernel
theorem dX1_called_13 : decode cX1_called 13 = .ok (.iload_n 1, 1) := by decide +kernel
theorem dX1_called_14 : decode cX1_called 14 = .ok (.invokevirtual 23, 3) := by decide +kernel
theorem dX1_called_17 : decode cX1_called 17 = .ok (.iconst 2, 1) := by decide +kernel
theorem dX1_called_18 : decode cX1_called 18 = .ok (.if_icmp .eq 5, 3) := by decide +kernel
theorem dX1_called_21 : decode cX1_called 21 = .ok (.iload_n 3, 1) := by decide +kernel
theorem dX1_called_22 : decode cX1_called 22 = .ok (.ireturn, 1) := by decide +kernel
theorem dX1_called_23 : decode cX1_called 23 = .ok (.iconst 0, 1) := by decide +kernel
theorem dX1_called_24 : decode cX1_called 24 = .ok (.istore 4, 2) := by decide +kernel
theorem dX1_called_26 : decode cX1_called 26 = .ok (.iconst 0, 1) := by decide +kernel
theorem dX1_called_27 : decode cX1_called 27 = .ok (.istore 5, 2) := by decide +kernel
theorem dX1_called_29 : decode cX1_called 29 = .ok (.iload 5, 2) := by decide +kernel
theorem dX1_called_31 : decode cX1_called 31 = .ok (.bipush 16, 2) := by decide +kernel
theorem dX1_called_33 : decode cX1_called 33 = .ok (.if_icmp .ge 32, 3) := by decide +kernel
theorem dX1_called_36 : decode cX1_called 36 = .ok (.iload 5, 2) := by decide +kernel
theorem dX1_called_38 : decode cX1_called 38 = .ok (.iload_n 2, 1) := by decide +kernel
theorem dX1_called_39 : decode cX1_called 39 = .ok (.invokestatic 31, 3) := by decide +kernel
theorem dX1_called_42 : decode cX1_called 42 = .ok (.iload_n 3, 1) := by decide +kernel
theorem dX1_called_43 : decode cX1_called 43 = .ok (.invokestatic 27, 3) := by decide +kernel
theorem dX1_called_46 : decode cX1_called 46 = .ok (.ifCond .eq 13, 3) := by decide +kernel
theorem dX1_called_49 : decode cX1_called 49 = .ok (.iload 4, 2) := by decide +kernel
theorem dX1_called_51 : decode cX1_called 51 = .ok (.iload 5, 2) := by decide +kernel
theorem dX1_called_53 : decode cX1_called 53 = .ok (.invokestatic 35, 3) := by decide +kernel
theorem dX1_called_56 : decode cX1_called 56 = .ok (.ior, 1) := by decide +kernel
theorem dX1_called_57 : decode cX1_called 57 = .ok (.istore 4, 2) := by decide +kernel
theorem dX1_called_59 : decode cX1_called 59 = .ok (.iinc 5 1, 3) := by decide +kernel
theorem dX1_called_62 : decode cX1_called 62 = .ok (.goto (-33), 3) := by decide +kernel
theorem dX1_called_65 : decode cX1_called 65 = .ok (.iload 4, 2) := by decide +kernel
theorem dX1_called_67 : decode cX1_called 67 = .ok (.ireturn, 1) := by decide +kernel
theorem dX1_become_0 : decode cX1_become 0 = .ok (.aload_n 0, 1) := by decide +kernel
theorem dX1_become_1 : decode cX1_become 1 = .ok (.getfield 14, 3) := by decide +kernel
theorem dX1_become_4 : decode cX1_become 4 = .ok (.iload_n 1, 1) := by decide +kernel
theorem dX1_become_5 : decode cX1_become 5 = .ok (.iload_n 2, 1) := by decide +kernel
theorem dX1_become_6 : decode cX1_become 6 = .ok (.invokevirtual 38, 3) := by decide +kernel
theorem dX1_become_9 : decode cX1_become 9 = .ok (.aload_n 0, 1) := by decide +kernel
theorem dX1_become_10 : decode cX1_become 10 = .ok (.getfield 20, 3) := by decide +kernel
theorem dX1_become_13 : decode cX1_become 13 = .ok (.iload_n 1, 1) := by decide +kernel
theorem dX1_become_14 : decode cX1_become 14 = .ok (.iload_n 3, 1) := by decide +kernel
theorem dX1_become_15 : decode cX1_become 15 = .ok (.invokevirtual 38, 3) := by decide +kernel
theorem dX1_become_18 : decode cX1_become 18 = .ok (.return_, 1) := by decide +kernel
theorem dX1_name_0 : decode cX1_name 0 = .ok (.aload_n 0, 1) := by decide +kernel
theorem dX1_name_1 : decode cX1_name 1 = .ok (.getfield 20, 3) := by decide +kernel
theorem dX1_name_4 : decode cX1_name 4 = .ok (.iload_n 1, 1) := by decide +kernel
theorem dX1_name_5 : decode cX1_name 5 = .ok (.invokevirtual 23, 3) := by decide +kernel
theorem dX1_name_8 : decode cX1_name 8 = .ok (.istore 5, 2) := by decide +kernel
theorem dX1_name_10 : decode cX1_name 10 = .ok (.aload_n 0, 1) := by decide +kernel
theorem dX1_name_11 : decode cX1_name 11 = .ok (.getfield 14, 3) := by decide +kernel
theorem dX1_name_14 : decode cX1_name 14 = .ok (.iload_n 1, 1) := by decide +kernel
theorem dX1_name_15 : decode cX1_name 15 = .ok (.invokevirtual 23, 3) := by decide +kernel
theorem dX1_name_18 : decode cX1_name 18 = .ok (.iconst 2, 1) := by decide +kernel
theorem dX1_name_19 : decode cX1_name 19 = .ok (.if_icmp .ne 26, 3) := by decide +kernel
theorem dX1_name_22 : decode cX1_name 22 = .ok (.aload_n 0, 1) := by decide +kernel
theorem dX1_name_23 : decode cX1_name 23 = .ok (.getfield 20, 3) := by decide +kernel
theorem dX1_name_26 : decode cX1_name 26 = .ok (.iload_n 1, 1) := by decide +kernel
theorem dX1_name_27 : decode cX1_name 27 = .ok (.iload 5, 2) := by decide +kernel
theorem dX1_name_29 : decode cX1_name 29 = .ok (.iload_n 2, 1) := by decide +kernel
theorem dX1_name_30 : decode cX1_name 30 = .ok (.iload 4, 2) := by decide +kernel
theorem dX1_name_32 : decode cX1_name 32 = .ok (.invokestatic 31, 3) := by decide +kernel
theorem dX1_name_35 : decode cX1_name 35 = .ok (.invokestatic 35, 3) := by decide +kernel
theorem dX1_name_38 : decode cX1_name 38 = .ok (.ior, 1) := by decide +kernel
theorem dX1_name_39 : decode cX1_name 39 = .ok (.invokevirtual 38, 3) := by decide +kernel
theorem dX1_name_42 : decode cX1_name 42 = .ok (.goto 55, 3) := by decide +kernel
theorem dX1_name_45 : decode cX1_name 45 = .ok (.iload_n 2, 1) := by decide +kernel
theorem dX1_name_46 : decode cX1_name 46 = .ok (.iload 5, 2) := by decide +kernel
theorem dX1_name_48 : decode cX1_name 48 = .ok (.invokestatic 27, 3) := by decide +kernel
theorem dX1_name_51 : decode cX1_name 51 = .ok (.ifCond .ne 12, 3) := by decide +kernel
theorem dX1_name_54 : decode cX1_name 54 = .ok (.iload 5, 2) := by decide +kernel
theorem dX1_name_56 : decode cX1_name 56 = .ok (.invokestatic 42, 3) := by decide +kernel
theorem dX1_name_59 : decode cX1_name 59 = .ok (.iload_n 3, 1) := by decide +kernel
theorem dX1_name_60 : decode cX1_name 60 = .ok (.if_icmp .ge 19, 3) := by decide +kernel
theorem dX1_name_63 : decode cX1_name 63 = .ok (.aload_n 0, 1) := by decide +kernel
theorem dX1_name_64 : decode cX1_name 64 = .ok (.iload_n 1, 1) := by decide +kernel
theorem dX1_name_65 : decode cX1_name 65 = .ok (.iconst 1, 1) := by decide +kernel
theorem dX1_name_66 : decode cX1_name 66 = .ok (.iload 5, 2) := by decide +kernel
theorem dX1_name_68 : decode cX1_name 68 = .ok (.iload_n 2, 1) := by decide +kernel
theorem dX1_name_69 : decode cX1_name 69 = .ok (.invokestatic 35, 3) := by decide +kernel
theorem dX1_name_72 : decode cX1_name 72 = .ok (.ior, 1) := by decide +kernel
theorem dX1_name_73 : decode cX1_name 73 = .ok (.invokevirtual 47, 3) := by decide +kernel
theorem dX1_name_76 : decode cX1_name 76 = .ok (.goto 21, 3) := by decide +kernel
theorem dX1_name_79 : decode cX1_name 79 = .ok (.aload_n 0, 1) := by decide +kernel
theorem dX1_name_80 : decode cX1_name 80 = .ok (.iload_n 1, 1) := by decide +kernel
theorem dX1_name_81 : decode cX1_name 81 = .ok (.iconst 2, 1) := by decide +kernel
theorem dX1_name_82 : decode cX1_name 82 = .ok (.iload 5, 2) := by decide +kernel
theorem dX1_name_84 : decode cX1_name 84 = .ok (.iload_n 2, 1) := by decide +kernel
theorem dX1_name_85 : decode cX1_name 85 = .ok (.invokestatic 35, 3) := by decide +kernel
theorem dX1_name_88 : decode cX1_name 88 = .ok (.ior, 1) := by decide +kernel
theorem dX1_name_89 : decode cX1_name 89 = .ok (.iload 4, 2) := by decide +kernel
theorem dX1_name_91 : decode cX1_name 91 = .ok (.invokestatic 51, 3) := by decide +kernel
theorem dX1_name_94 : decode cX1_name 94 = .ok (.invokevirtual 47, 3) := by decide +kernel
theorem dX1_name_97 : decode cX1_name 97 = .ok (.return_, 1) := by decide +kernel
theorem dX1_strike_0 : decode cX1_strike 0 = .ok (.aload_n 0, 1) := by decide +kernel
theorem dX1_strike_1 : decode cX1_strike 1 = .ok (.getfield 14, 3) := by decide +kernel
theorem dX1_strike_4 : decode cX1_strike 4 = .ok (.iload_n 1, 1) := by decide +kernel
theorem dX1_strike_5 : decode cX1_strike 5 = .ok (.invokevirtual 23, 3) := by decide +kernel
theorem dX1_strike_8 : decode cX1_strike 8 = .ok (.iconst 2, 1) := by decide +kernel
theorem dX1_strike_9 : decode cX1_strike 9 = .ok (.if_icmp .ne 4, 3) := by decide +kernel
theorem dX1_strike_12 : decode cX1_strike 12 = .ok (.return_, 1) := by decide +kernel
theorem dX1_strike_13 : decode cX1_strike 13 = .ok (.aload_n 0, 1) := by decide +kernel
theorem dX1_strike_14 : decode cX1_strike 14 = .ok (.getfield 20, 3) := by decide +kernel
theorem dX1_strike_17 : decode cX1_strike 17 = .ok (.iload_n 1, 1) := by decide +kernel
theorem dX1_strike_18 : decode cX1_strike 18 = .ok (.invokevirtual 23, 3) := by decide +kernel
theorem dX1_strike_21 : decode cX1_strike 21 = .ok (.iload_n 2, 1) := by decide +kernel
theorem dX1_strike_22 : decode cX1_strike 22 = .ok (.invokestatic 35, 3) := by decide +kernel
theorem dX1_strike_25 : decode cX1_strike 25 = .ok (.iconst (-1), 1) := by decide +kernel
theorem dX1_strike_26 : decode cX1_strike 26 = .ok (.ixor, 1) := by decide +kernel
theorem dX1_strike_27 : decode cX1_strike 27 = .ok (.iand, 1) := by decide +kernel
theorem dX1_strike_28 : decode cX1_strike 28 = .ok (.istore_n 3, 1) := by decide +kernel
theorem dX1_strike_29 : decode cX1_strike 29 = .ok (.aload_n 0, 1) := by decide +kernel
theorem dX1_strike_30 : decode cX1_strike 30 = .ok (.getfield 20, 3) := by decide +kernel
theorem dX1_strike_33 : decode cX1_strike 33 = .ok (.iload_n 1, 1) := by decide +kernel
theorem dX1_strike_34 : decode cX1_strike 34 = .ok (.iload_n 3, 1) := by decide +kernel
theorem dX1_strike_35 : decode cX1_strike 35 = .ok (.invokevirtual 38, 3) := by decide +kernel
theorem dX1_strike_38 : decode cX1_strike 38 = .ok (.iload_n 3, 1) := by decide +kernel
theorem dX1_strike_39 : decode cX1_strike 39 = .ok (.ifCond .ne 12, 3) := by decide +kernel
theorem dX1_strike_42 : decode cX1_strike 42 = .ok (.aload_n 0, 1) := by decide +kernel
theorem dX1_strike_43 : decode cX1_strike 43 = .ok (.getfield 14, 3) := by decide +kernel
theorem dX1_strike_46 : decode cX1_strike 46 = .ok (.iload_n 1, 1) := by decide +kernel
theorem dX1_strike_47 : decode cX1_strike 47 = .ok (.iconst 0, 1) := by decide +kernel
theorem dX1_strike_48 : decode cX1_strike 48 = .ok (.invokevirtual 38, 3) := by decide +kernel
theorem dX1_strike_51 : decode cX1_strike 51 = .ok (.return_, 1) := by decide +kernel
theorem dX1_howManyInUse_0 : decode cX1_howManyInUse 0 = .ok (.iconst 0, 1) := by decide +kernel
theorem dX1_howManyInUse_1 : decode cX1_howManyInUse 1 = .ok (.istore_n 1, 1) := by decide +kernel
theorem dX1_howManyInUse_2 : decode cX1_howManyInUse 2 = .ok (.iconst 0, 1) := by decide +kernel
theorem dX1_howManyInUse_3 : decode cX1_howManyInUse 3 = .ok (.istore_n 2, 1) := by decide +kernel
theorem dX1_howManyInUse_4 : decode cX1_howManyInUse 4 = .ok (.iload_n 2, 1) := by decide +kernel
theorem dX1_howManyInUse_5 : decode cX1_howManyInUse 5 = .ok (.bipush 24, 2) := by decide +kernel
theorem dX1_howManyInUse_7 : decode cX1_howManyInUse 7 = .ok (.if_icmp .ge 28, 3) := by decide +kernel
theorem dX1_howManyInUse_10 : decode cX1_howManyInUse 10 = .ok (.iload_n 1, 1) := by decide +kernel
theorem dX1_howManyInUse_11 : decode cX1_howManyInUse 11 = .ok (.aload_n 0, 1) := by decide +kernel
theorem dX1_howManyInUse_12 : decode cX1_howManyInUse 12 = .ok (.getfield 14, 3) := by decide +kernel
theorem dX1_howManyInUse_15 : decode cX1_howManyInUse 15 = .ok (.iload_n 2, 1) := by decide +kernel
theorem dX1_howManyInUse_16 : decode cX1_howManyInUse 16 = .ok (.invokevirtual 23, 3) := by decide +kernel
theorem dX1_howManyInUse_19 : decode cX1_howManyInUse 19 = .ok (.ifCond .ne 7, 3) := by decide +kernel
theorem dX1_howManyInUse_22 : decode cX1_howManyInUse 22 = .ok (.iconst 0, 1) := by decide +kernel
theorem dX1_howManyInUse_23 : decode cX1_howManyInUse 23 = .ok (.goto 4, 3) := by decide +kernel
theorem dX1_howManyInUse_26 : decode cX1_howManyInUse 26 = .ok (.iconst 1, 1) := by decide +kernel
theorem dX1_howManyInUse_27 : decode cX1_howManyInUse 27 = .ok (.iadd, 1) := by decide +kernel
theorem dX1_howManyInUse_28 : decode cX1_howManyInUse 28 = .ok (.istore_n 1, 1) := by decide +kernel
theorem dX1_howManyInUse_29 : decode cX1_howManyInUse 29 = .ok (.iinc 2 1, 3) := by decide +kernel
theorem dX1_howManyInUse_32 : decode cX1_howManyInUse 32 = .ok (.goto (-28), 3) := by decide +kernel
theorem dX1_howManyInUse_35 : decode cX1_howManyInUse 35 = .ok (.iload_n 1, 1) := by decide +kernel
theorem dX1_howManyInUse_36 : decode cX1_howManyInUse 36 = .ok (.ireturn, 1) := by decide +kernel
theorem dX1_howManyGrouped_0 : decode cX1_howManyGrouped 0 = .ok (.iconst 0, 1) := by decide +kernel
theorem dX1_howManyGrouped_1 : decode cX1_howManyGrouped 1 = .ok (.istore_n 1, 1) := by decide +kernel
theorem dX1_howManyGrouped_2 : decode cX1_howManyGrouped 2 = .ok (.iconst 0, 1) := by decide +kernel
theorem dX1_howManyGrouped_3 : decode cX1_howManyGrouped 3 = .ok (.istore_n 2, 1) := by decide +kernel
theorem dX1_howManyGrouped_4 : decode cX1_howManyGrouped 4 = .ok (.iload_n 2, 1) := by decide +kernel
theorem dX1_howManyGrouped_5 : decode cX1_howManyGrouped 5 = .ok (.bipush 24, 2) := by decide +kernel
theorem dX1_howManyGrouped_7 : decode cX1_howManyGrouped 7 = .ok (.if_icmp .ge 29, 3) := by decide +kernel
theorem dX1_howManyGrouped_10 : decode cX1_howManyGrouped 10 = .ok (.iload_n 1, 1) := by decide +kernel
theorem dX1_howManyGrouped_11 : decode cX1_howManyGrouped 11 = .ok (.aload_n 0, 1) := by decide +kernel
theorem dX1_howManyGrouped_12 : decode cX1_howManyGrouped 12 = .ok (.getfield 14, 3) := by decide +kernel
theorem dX1_howManyGrouped_15 : decode cX1_howManyGrouped 15 = .ok (.iload_n 2, 1) := by decide +kernel
theorem dX1_howManyGrouped_16 : decode cX1_howManyGrouped 16 = .ok (.invokevirtual 23, 3) := by decide +kernel
theorem dX1_howManyGrouped_19 : decode cX1_howManyGrouped 19 = .ok (.iconst 2, 1) := by decide +kernel
theorem dX1_howManyGrouped_20 : decode cX1_howManyGrouped 20 = .ok (.if_icmp .ne 7, 3) := by decide +kernel
theorem dX1_howManyGrouped_23 : decode cX1_howManyGrouped 23 = .ok (.iconst 1, 1) := by decide +kernel
theorem dX1_howManyGrouped_24 : decode cX1_howManyGrouped 24 = .ok (.goto 4, 3) := by decide +kernel
theorem dX1_howManyGrouped_27 : decode cX1_howManyGrouped 27 = .ok (.iconst 0, 1) := by decide +kernel
theorem dX1_howManyGrouped_28 : decode cX1_howManyGrouped 28 = .ok (.iadd, 1) := by decide +kernel
theorem dX1_howManyGrouped_29 : decode cX1_howManyGrouped 29 = .ok (.istore_n 1, 1) := by decide +kernel
theorem dX1_howManyGrouped_30 : decode cX1_howManyGrouped 30 = .ok (.iinc 2 1, 3) := by decide +kernel
theorem dX1_howManyGrouped_33 : decode cX1_howManyGrouped 33 = .ok (.goto (-29), 3) := by decide +kernel
theorem dX1_howManyGrouped_36 : decode cX1_howManyGrouped 36 = .ok (.iload_n 1, 1) := by decide +kernel
theorem dX1_howManyGrouped_37 : decode cX1_howManyGrouped 37 = .ok (.ireturn, 1) := by decide +kernel
theorem dX1_clear_0 : decode cX1_clear 0 = .ok (.aload_n 0, 1) := by decide +kernel
theorem dX1_clear_1 : decode cX1_clear 1 = .ok (.getfield 14, 3) := by decide +kernel
theorem dX1_clear_4 : decode cX1_clear 4 = .ok (.invokevirtual 54, 3) := by decide +kernel
theorem dX1_clear_7 : decode cX1_clear 7 = .ok (.aload_n 0, 1) := by decide +kernel
theorem dX1_clear_8 : decode cX1_clear 8 = .ok (.getfield 20, 3) := by decide +kernel
theorem dX1_clear_11 : decode cX1_clear 11 = .ok (.invokevirtual 54, 3) := by decide +kernel
theorem dX1_clear_14 : decode cX1_clear 14 = .ok (.return_, 1) := by decide +kernel
theorem dX1_copyFrom_0 : decode cX1_copyFrom 0 = .ok (.aload_n 0, 1) := by decide +kernel
theorem dX1_copyFrom_1 : decode cX1_copyFrom 1 = .ok (.getfield 14, 3) := by decide +kernel
theorem dX1_copyFrom_4 : decode cX1_copyFrom 4 = .ok (.aload_n 1, 1) := by decide +kernel
theorem dX1_copyFrom_5 : decode cX1_copyFrom 5 = .ok (.getfield 14, 3) := by decide +kernel
theorem dX1_copyFrom_8 : decode cX1_copyFrom 8 = .ok (.invokevirtual 57, 3) := by decide +kernel
theorem dX1_copyFrom_11 : decode cX1_copyFrom 11 = .ok (.aload_n 0, 1) := by decide +kernel
theorem dX1_copyFrom_12 : decode cX1_copyFrom 12 = .ok (.getfield 20, 3) := by decide +kernel
theorem dX1_copyFrom_15 : decode cX1_copyFrom 15 = .ok (.aload_n 1, 1) := by decide +kernel
theorem dX1_copyFrom_16 : decode cX1_copyFrom 16 = .ok (.getfield 20, 3) := by decide +kernel
theorem dX1_copyFrom_19 : decode cX1_copyFrom 19 = .ok (.invokevirtual 57, 3) := by decide +kernel
theorem dX1_copyFrom_22 : decode cX1_copyFrom 22 = .ok (.return_, 1) := by decide +kernel
theorem dX1_groupsOf_0 : decode cX1_groupsOf 0 = .ok (.iconst 0, 1) := by decide +kernel
theorem dX1_groupsOf_1 : decode cX1_groupsOf 1 = .ok (.istore_n 2, 1) := by decide +kernel
theorem dX1_groupsOf_2 : decode cX1_groupsOf 2 = .ok (.iconst 0, 1) := by decide +kernel
theorem dX1_groupsOf_3 : decode cX1_groupsOf 3 = .ok (.istore_n 3, 1) := by decide +kernel
theorem dX1_groupsOf_4 : decode cX1_groupsOf 4 = .ok (.iload_n 3, 1) := by decide +kernel
theorem dX1_groupsOf_5 : decode cX1_groupsOf 5 = .ok (.bipush 16, 2) := by decide +kernel
theorem dX1_groupsOf_7 : decode cX1_groupsOf 7 = .ok (.if_icmp .ge 28, 3) := by decide +kernel
theorem dX1_groupsOf_10 : decode cX1_groupsOf 10 = .ok (.iload_n 3, 1) := by decide +kernel
theorem dX1_groupsOf_11 : decode cX1_groupsOf 11 = .ok (.iload_n 0, 1) := by decide +kernel
theorem dX1_groupsOf_12 : decode cX1_groupsOf 12 = .ok (.invokestatic 27, 3) := by decide +kernel
theorem dX1_groupsOf_15 : decode cX1_groupsOf 15 = .ok (.ifCond .eq 14, 3) := by decide +kernel
theorem dX1_groupsOf_18 : decode cX1_groupsOf 18 = .ok (.iload_n 2, 1) := by decide +kernel
theorem dX1_groupsOf_19 : decode cX1_groupsOf 19 = .ok (.iload_n 3, 1) := by decide +kernel
theorem dX1_groupsOf_20 : decode cX1_groupsOf 20 = .ok (.iload_n 1, 1) := by decide +kernel
theorem dX1_groupsOf_21 : decode cX1_groupsOf 21 = .ok (.invokestatic 31, 3) := by decide +kernel
theorem dX1_groupsOf_24 : decode cX1_groupsOf 24 = .ok (.invokestatic 35, 3) := by decide +kernel
theorem dX1_groupsOf_27 : decode cX1_groupsOf 27 = .ok (.ior, 1) := by decide +kernel
theorem dX1_groupsOf_28 : decode cX1_groupsOf 28 = .ok (.istore_n 2, 1) := by decide +kernel
theorem dX1_groupsOf_29 : decode cX1_groupsOf 29 = .ok (.iinc 3 1, 3) := by decide +kernel
theorem dX1_groupsOf_32 : decode cX1_groupsOf 32 = .ok (.goto (-28), 3) := by decide +kernel
theorem dX1_groupsOf_35 : decode cX1_groupsOf 35 = .ok (.iload_n 2, 1) := by decide +kernel
theorem dX1_groupsOf_36 : decode cX1_groupsOf 36 = .ok (.ireturn, 1) := by decide +kernel
theorem dX2_init_0 : decode cX2_init 0 = .ok (.aload_n 0, 1) := by decide +kernel
theorem dX2_init_1 : decode cX2_init 1 = .ok (.invokespecial 3, 3) := by decide +kernel
theorem dX2_init_4 : decode cX2_init 4 = .ok (.aload_n 0, 1) := by decide +kernel
theorem dX2_init_5 : decode cX2_init 5 = .ok (.bipush 6, 2) := by decide +kernel
theorem dX2_init_7 : decode cX2_init 7 = .ok (.anewarray 9, 3) := by decide +kernel
theorem dX2_init_10 : decode cX2_init 10 = .ok (.putfield 11, 3) := by decide +kernel
theorem dX2_init_13 : decode cX2_init 13 = .ok (.iconst 0, 1) := by decide +kernel
theorem dX2_init_14 : decode cX2_init 14 = .ok (.istore_n 1, 1) := by decide +kernel
theorem dX2_init_15 : decode cX2_init 15 = .ok (.iload_n 1, 1) := by decide +kernel
theorem dX2_init_16 : decode cX2_init 16 = .ok (.aload_n 0, 1) := by decide +kernel
theorem dX2_init_17 : decode cX2_init 17 = .ok (.getfield 11, 3) := by decide +kernel
theorem dX2_init_20 : decode cX2_init 20 = .ok (.arraylength, 1) := by decide +kernel
theorem dX2_init_21 : decode cX2_init 21 = .ok (.if_icmp .ge 22, 3) := by decide +kernel
theorem dX2_init_24 : decode cX2_init 24 = .ok (.aload_n 0, 1) := by decide +kernel
theorem dX2_init_25 : decode cX2_init 25 = .ok (.getfield 11, 3) := by decide +kernel
theorem dX2_init_28 : decode cX2_init 28 = .ok (.iload_n 1, 1) := by decide +kernel
theorem dX2_init_29 : decode cX2_init 29 = .ok (.new 9, 3) := by decide +kernel
theorem dX2_init_32 : decode cX2_init 32 = .ok (.dup, 1) := by decide +kernel
theorem dX2_init_33 : decode cX2_init 33 = .ok (.invokespecial 17, 3) := by decide +kernel
theorem dX2_init_36 : decode cX2_init 36 = .ok (.aastore, 1) := by decide +kernel
theorem dX2_init_37 : decode cX2_init 37 = .ok (.iinc 1 1, 3) := by decide +kernel
theorem dX2_init_40 : decode cX2_init 40 = .ok (.goto (-25), 3) := by decide +kernel
theorem dX2_init_43 : decode cX2_init 43 = .ok (.return_, 1) := by decide +kernel
theorem dX2_keep_0 : decode cX2_keep 0 = .ok (.aload_n 0, 1) := by decide +kernel
theorem dX2_keep_1 : decode cX2_keep 1 = .ok (.getfield 18, 3) := by decide +kernel
theorem dX2_keep_4 : decode cX2_keep 4 = .ok (.bipush 6, 2) := by decide +kernel
theorem dX2_keep_6 : decode cX2_keep 6 = .ok (.if_icmp .lt 26, 3) := by decide +kernel
theorem dX2_keep_9 : decode cX2_keep 9 = .ok (.aload_n 0, 1) := by decide +kernel
theorem dX2_keep_10 : decode cX2_keep 10 = .ok (.aload_n 0, 1) := by decide +kernel
theorem dX2_keep_11 : decode cX2_keep 11 = .ok (.getfield 22, 3) := by decide +kernel
theorem dX2_keep_14 : decode cX2_keep 14 = .ok (.iconst 1, 1) := by decide +kernel
theorem dX2_keep_15 : decode cX2_keep 15 = .ok (.iadd, 1) := by decide +kernel
theorem dX2_keep_16 : decode cX2_keep 16 = .ok (.bipush 6, 2) := by decide +kernel
theorem dX2_keep_18 : decode cX2_keep 18 = .ok (.irem, 1) := by decide +kernel
theorem dX2_keep_19 : decode cX2_keep 19 = .ok (.putfield 22, 3) := by decide +kernel
theorem dX2_keep_22 : decode cX2_keep 22 = .ok (.aload_n 0, 1) := by decide +kernel
theorem dX2_keep_23 : decode cX2_keep 23 = .ok (.dup, 1) := by decide +kernel
theorem dX2_keep_24 : decode cX2_keep 24 = .ok (.getfield 18, 3) := by decide +kernel
theorem dX2_keep_27 : decode cX2_keep 27 = .ok (.iconst 1, 1) := by decide +kernel
theorem dX2_keep_28 : decode cX2_keep 28 = .ok (.isub, 1) := by decide +kernel
theorem dX2_keep_29 : decode cX2_keep 29 = .ok (.putfield 18, 3) := by decide +kernel
theorem dX2_keep_32 : decode cX2_keep 32 = .ok (.aload_n 0, 1) := by decide +kernel
theorem dX2_keep_33 : decode cX2_keep 33 = .ok (.aload_n 0, 1) := by decide +kernel
theorem dX2_keep_34 : decode cX2_keep 34 = .ok (.getfield 18, 3) := by decide +kernel
theorem dX2_keep_37 : decode cX2_keep 37 = .ok (.invokevirtual 25, 3) := by decide +kernel
theorem dX2_keep_40 : decode cX2_keep 40 = .ok (.astore_n 2, 1) := by decide +kernel
theorem dX2_keep_41 : decode cX2_keep 41 = .ok (.aload_n 2, 1) := by decide +kernel
theorem dX2_keep_42 : decode cX2_keep 42 = .ok (.ifnull 18, 3) := by decide +kernel
theorem dX2_keep_45 : decode cX2_keep 45 = .ok (.aload_n 2, 1) := by decide +kernel
theorem dX2_keep_46 : decode cX2_keep 46 = .ok (.aload_n 1, 1) := by decide +kernel
theorem dX2_keep_47 : decode cX2_keep 47 = .ok (.invokevirtual 29, 3) := by decide +kernel
theorem dX2_keep_50 : decode cX2_keep 50 = .ok (.aload_n 0, 1) := by decide +kernel
theorem dX2_keep_51 : decode cX2_keep 51 = .ok (.dup, 1) := by decide +kernel
theorem dX2_keep_52 : decode cX2_keep 52 = .ok (.getfield 18, 3) := by decide +kernel
theorem dX2_keep_55 : decode cX2_keep 55 = .ok (.iconst 1, 1) := by decide +kernel
theorem dX2_keep_56 : decode cX2_keep 56 = .ok (.iadd, 1) := by decide +kernel
theorem dX2_keep_57 : decode cX2_keep 57 = .ok (.putfield 18, 3) := by decide +kernel
theorem dX2_keep_60 : decode cX2_keep 60 = .ok (.return_, 1) := by decide +kernel
theorem dX2_takeBack_0 : decode cX2_takeBack 0 = .ok (.aload_n 0, 1) := by decide +kernel
theorem dX2_takeBack_1 : decode cX2_takeBack 1 = .ok (.getfield 18, 3) := by decide +kernel
theorem dX2_takeBack_4 : decode cX2_takeBack 4 = .ok (.ifCond .le 16, 3) := by decide +kernel
theorem dX2_takeBack_7 : decode cX2_takeBack 7 = .ok (.aload_n 0, 1) := by decide +kernel
theorem dX2_takeBack_8 : decode cX2_takeBack 8 = .ok (.aload_n 0, 1) := by decide +kernel
theorem dX2_takeBack_9 : decode cX2_takeBack 9 = .ok (.getfield 18, 3) := by decide +kernel
theorem dX2_takeBack_12 : decode cX2_takeBack 12 = .ok (.iconst 1, 1) := by decide +kernel
theorem dX2_takeBack_13 : decode cX2_takeBack 13 = .ok (.isub, 1) := by decide +kernel
theorem dX2_takeBack_14 : decode cX2_takeBack 14 = .ok (.invokevirtual 25, 3) := by decide +kernel
theorem dX2_takeBack_17 : decode cX2_takeBack 17 = .ok (.goto 4, 3) := by decide +kernel
theorem dX2_takeBack_20 : decode cX2_takeBack 20 = .ok (.aconst_null, 1) := by decide +kernel
theorem dX2_takeBack_21 : decode cX2_takeBack 21 = .ok (.astore_n 2, 1) := by decide +kernel
theorem dX2_takeBack_22 : decode cX2_takeBack 22 = .ok (.aload_n 2, 1) := by decide +kernel
theorem dX2_takeBack_23 : decode cX2_takeBack 23 = .ok (.ifnonnull 5, 3) := by decide +kernel
theorem dX2_takeBack_26 : decode cX2_takeBack 26 = .ok (.iconst 0, 1) := by decide +kernel
theorem dX2_takeBack_27 : decode cX2_takeBack 27 = .ok (.ireturn, 1) := by decide +kernel
theorem dX2_takeBack_28 : decode cX2_takeBack 28 = .ok (.aload_n 1, 1) := by decide +kernel
theorem dX2_takeBack_29 : decode cX2_takeBack 29 = .ok (.aload_n 2, 1) := by decide +kernel
theorem dX2_takeBack_30 : decode cX2_takeBack 30 = .ok (.invokevirtual 29, 3) := by decide +kernel
theorem dX2_takeBack_33 : decode cX2_takeBack 33 = .ok (.aload_n 0, 1) := by decide +kernel
theorem dX2_takeBack_34 : decode cX2_takeBack 34 = .ok (.dup, 1) := by decide +kernel
theorem dX2_takeBack_35 : decode cX2_takeBack 35 = .ok (.getfield 18, 3) := by decide +kernel
theorem dX2_takeBack_38 : decode cX2_takeBack 38 = .ok (.iconst 1, 1) := by decide +kernel
theorem dX2_takeBack_39 : decode cX2_takeBack 39 = .ok (.isub, 1) := by decide +kernel
theorem dX2_takeBack_40 : decode cX2_takeBack 40 = .ok (.putfield 18, 3) := by decide +kernel
theorem dX2_takeBack_43 : decode cX2_takeBack 43 = .ok (.iconst 1, 1) := by decide +kernel
theorem dX2_takeBack_44 : decode cX2_takeBack 44 = .ok (.ireturn, 1) := by decide +kernel
theorem dX2_stateAt_0 : decode cX2_stateAt 0 = .ok (.aload_n 0, 1) := by decide +kernel
theorem dX2_stateAt_1 : decode cX2_stateAt 1 = .ok (.getfield 22, 3) := by decide +kernel
theorem dX2_stateAt_4 : decode cX2_stateAt 4 = .ok (.iload_n 1, 1) := by decide +kernel
theorem dX2_stateAt_5 : decode cX2_stateAt 5 = .ok (.iadd, 1) := by decide +kernel
theorem dX2_stateAt_6 : decode cX2_stateAt 6 = .ok (.bipush 6, 2) := by decide +kernel
theorem dX2_stateAt_8 : decode cX2_stateAt 8 = .ok (.irem, 1) := by decide +kernel
theorem dX2_stateAt_9 : decode cX2_stateAt 9 = .ok (.istore_n 2, 1) := by decide +kernel
theorem dX2_stateAt_10 : decode cX2_stateAt 10 = .ok (.iload_n 2, 1) := by decide +kernel
theorem dX2_stateAt_11 : decode cX2_stateAt 11 = .ok (.ifCond .lt 21, 3) := by decide +kernel
theorem dX2_stateAt_14 : decode cX2_stateAt 14 = .ok (.iload_n 2, 1) := by decide +kernel
theorem dX2_stateAt_15 : decode cX2_stateAt 15 = .ok (.aload_n 0, 1) := by decide +kernel
theorem dX2_stateAt_16 : decode cX2_stateAt 16 = .ok (.getfield 11, 3) := by decide +kernel
theorem dX2_stateAt_19 : decode cX2_stateAt 19 = .ok (.arraylength, 1) := by decide +kernel
theorem dX2_stateAt_20 : decode cX2_stateAt 20 = .ok (.if_icmp .ge 12, 3) := by decide +kernel
theorem dX2_stateAt_23 : decode cX2_stateAt 23 = .ok (.aload_n 0, 1) := by decide +kernel
theorem dX2_stateAt_24 : decode cX2_stateAt 24 = .ok (.getfield 11, 3) := by decide +kernel
theorem dX2_stateAt_27 : decode cX2_stateAt 27 = .ok (.iload_n 2, 1) := by decide +kernel
theorem dX2_stateAt_28 : decode cX2_stateAt 28 = .ok (.aaload, 1) := by decide +kernel
theorem dX2_stateAt_29 : decode cX2_stateAt 29 = .ok (.goto 4, 3) := by decide +kernel
theorem dX2_stateAt_32 : decode cX2_stateAt 32 = .ok (.aconst_null, 1) := by decide +kernel
theorem dX2_stateAt_33 : decode cX2_stateAt 33 = .ok (.areturn, 1) := by decide +kernel
theorem dX3_init_0 : decode cX3_init 0 = .ok (.aload_n 0, 1) := by decide +kernel
theorem dX3_init_1 : decode cX3_init 1 = .ok (.invokespecial 3, 3) := by decide +kernel
theorem dX3_init_4 : decode cX3_init 4 = .ok (.aload_n 0, 1) := by decide +kernel
theorem dX3_init_5 : decode cX3_init 5 = .ok (.new 9, 3) := by decide +kernel
theorem dX3_init_8 : decode cX3_init 8 = .ok (.dup, 1) := by decide +kernel
theorem dX3_init_9 : decode cX3_init 9 = .ok (.getstatic 11, 3) := by decide +kernel
theorem dX3_init_12 : decode cX3_init 12 = .ok (.arraylength, 1) := by decide +kernel
theorem dX3_init_13 : decode cX3_init 13 = .ok (.invokespecial 15, 3) := by decide +kernel
theorem dX3_init_16 : decode cX3_init 16 = .ok (.putfield 18, 3) := by decide +kernel
theorem dX3_init_19 : decode cX3_init 19 = .ok (.aload_n 0, 1) := by decide +kernel
theorem dX3_init_20 : decode cX3_init 20 = .ok (.new 9, 3) := by decide +kernel
theorem dX3_init_23 : decode cX3_init 23 = .ok (.dup, 1) := by decide +kernel
theorem dX3_init_24 : decode cX3_init 24 = .ok (.bipush 24, 2) := by decide +kernel
theorem dX3_init_26 : decode cX3_init 26 = .ok (.invokespecial 15, 3) := by decide +kernel
theorem dX3_init_29 : decode cX3_init 29 = .ok (.putfield 24, 3) := by decide +kernel
theorem dX3_init_32 : decode cX3_init 32 = .ok (.aload_n 0, 1) := by decide +kernel
theorem dX3_init_33 : decode cX3_init 33 = .ok (.new 27, 3) := by decide +kernel
theorem dX3_init_36 : decode cX3_init 36 = .ok (.dup, 1) := by decide +kernel
theorem dX3_init_37 : decode cX3_init 37 = .ok (.invokespecial 29, 3) := by decide +kernel
theorem dX3_init_40 : decode cX3_init 40 = .ok (.putfield 30, 3) := by decide +kernel
theorem dX3_init_43 : decode cX3_init 43 = .ok (.aload_n 0, 1) := by decide +kernel
theorem dX3_init_44 : decode cX3_init 44 = .ok (.new 34, 3) := by decide +kernel
theorem dX3_init_47 : decode cX3_init 47 = .ok (.dup, 1) := by decide +kernel
theorem dX3_init_48 : decode cX3_init 48 = .ok (.invokespecial 36, 3) := by decide +kernel
theorem dX3_init_51 : decode cX3_init 51 = .ok (.putfield 37, 3) := by decide +kernel
theorem dX3_init_54 : decode cX3_init 54 = .ok (.aload_n 0, 1) := by decide +kernel
theorem dX3_init_55 : decode cX3_init 55 = .ok (.new 41, 3) := by decide +kernel
theorem dX3_init_58 : decode cX3_init 58 = .ok (.dup, 1) := by decide +kernel
theorem dX3_init_59 : decode cX3_init 59 = .ok (.invokespecial 43, 3) := by decide +kernel
theorem dX3_init_62 : decode cX3_init 62 = .ok (.putfield 44, 3) := by decide +kernel
theorem dX3_init_65 : decode cX3_init 65 = .ok (.aload_n 0, 1) := by decide +kernel
theorem dX3_init_66 : decode cX3_init 66 = .ok (.new 9, 3) := by decide +kernel
theorem dX3_init_69 : decode cX3_init 69 = .ok (.dup, 1) := by decide +kernel
theorem dX3_init_70 : decode cX3_init 70 = .ok (.iconst 3, 1) := by decide +kernel
theorem dX3_init_71 : decode cX3_init 71 = .ok (.invokespecial 15, 3) := by decide +kernel
theorem dX3_init_74 : decode cX3_init 74 = .ok (.putfield 48, 3) := by decide +kernel
theorem dX3_init_77 : decode cX3_init 77 = .ok (.aload_n 0, 1) := by decide +kernel
theorem dX3_init_78 : decode cX3_init 78 = .ok (.new 9, 3) := by decide +kernel
theorem dX3_init_81 : decode cX3_init 81 = .ok (.dup, 1) := by decide +kernel
theorem dX3_init_82 : decode cX3_init 82 = .ok (.bipush 24, 2) := by decide +kernel
theorem dX3_init_84 : decode cX3_init 84 = .ok (.invokespecial 15, 3) := by decide +kernel
theorem dX3_init_87 : decode cX3_init 87 = .ok (.putfield 51, 3) := by decide +kernel
theorem dX3_init_90 : decode cX3_init 90 = .ok (.aload_n 0, 1) := by decide +kernel
theorem dX3_init_91 : decode cX3_init 91 = .ok (.new 9, 3) := by decide +kernel
theorem dX3_init_94 : decode cX3_init 94 = .ok (.dup, 1) := by decide +kernel
theorem dX3_init_95 : decode cX3_init 95 = .ok (.bipush 24, 2) := by decide +kernel
theorem dX3_init_97 : decode cX3_init 97 = .ok (.invokespecial 15, 3) := by decide +kernel
theorem dX3_init_100 : decode cX3_init 100 = .ok (.putfield 54, 3) := by decide +kernel
theorem dX3_init_103 : decode cX3_init 103 = .ok (.aload_n 0, 1) := by decide +kernel
theorem dX3_init_104 : decode cX3_init 104 = .ok (.new 9, 3) := by decide +kernel
theorem dX3_init_107 : decode cX3_init 107 = .ok (.dup, 1) := by decide +kernel
theorem dX3_init_108 : decode cX3_init 108 = .ok (.bipush 16, 2) := by decide +kernel
theorem dX3_init_110 : decode cX3_init 110 = .ok (.invokespecial 15, 3) := by decide +kernel
theorem dX3_init_113 : decode cX3_init 113 = .ok (.putfield 57, 3) := by decide +kernel
theorem dX3_init_116 : decode cX3_init 116 = .ok (.aload_n 0, 1) := by decide +kernel
theorem dX3_init_117 : decode cX3_init 117 = .ok (.new 9, 3) := by decide +kernel
theorem dX3_init_120 : decode cX3_init 120 = .ok (.dup, 1) := by decide +kernel
theorem dX3_init_121 : decode cX3_init 121 = .ok (.bipush 16, 2) := by decide +kernel
theorem dX3_init_123 : decode cX3_init 123 = .ok (.invokespecial 15, 3) := by decide +kernel
theorem dX3_init_126 : decode cX3_init 126 = .ok (.putfield 60, 3) := by decide +kernel
theorem dX3_init_129 : decode cX3_init 129 = .ok (.aload_n 0, 1) := by decide +kernel
theorem dX3_init_130 : decode cX3_init 130 = .ok (.new 9, 3) := by decide +kernel
theorem dX3_init_133 : decode cX3_init 133 = .ok (.dup, 1) := by decide +kernel
theorem dX3_init_134 : decode cX3_init 134 = .ok (.bipush 16, 2) := by decide +kernel
theorem dX3_init_136 : decode cX3_init 136 = .ok (.invokespecial 15, 3) := by decide +kernel
theorem dX3_init_139 : decode cX3_init 139 = .ok (.putfield 63, 3) := by decide +kernel
theorem dX3_init_142 : decode cX3_init 142 = .ok (.aload_n 0, 1) := by decide +kernel
theorem dX3_init_143 : decode cX3_init 143 = .ok (.new 9, 3) := by decide +kernel
theorem dX3_init_146 : decode cX3_init 146 = .ok (.dup, 1) := by decide +kernel
theorem dX3_init_147 : decode cX3_init 147 = .ok (.bipush 16, 2) := by decide +kernel
theorem dX3_init_149 : decode cX3_init 149 = .ok (.invokespecial 15, 3) := by decide +kernel
theorem dX3_init_152 : decode cX3_init 152 = .ok (.putfield 66, 3) := by decide +kernel
theorem dX3_init_155 : decode cX3_init 155 = .ok (.iconst 0, 1) := by decide +kernel
theorem dX3_init_156 : decode cX3_init 156 = .ok (.istore_n 1, 1) := by decide +kernel
theorem dX3_init_157 : decode cX3_init 157 = .ok (.iload_n 1, 1) := by decide +kernel
theorem dX3_init_158 : decode cX3_init 158 = .ok (.getstatic 11, 3) := by decide +kernel
theorem dX3_init_161 : decode cX3_init 161 = .ok (.arraylength, 1) := by decide +kernel
theorem dX3_init_162 : decode cX3_init 162 = .ok (.if_icmp .ge 22, 3) := by decide +kernel
theorem dX3_init_165 : decode cX3_init 165 = .ok (.aload_n 0, 1) := by decide +kernel
theorem dX3_init_166 : decode cX3_init 166 = .ok (.getfield 18, 3) := by decide +kernel
theorem dX3_init_169 : decode cX3_init 169 = .ok (.iload_n 1, 1) := by decide +kernel
theorem dX3_init_170 : decode cX3_init 170 = .ok (.getstatic 11, 3) := by decide +kernel
theorem dX3_init_173 : decode cX3_init 173 = .ok (.iload_n 1, 1) := by decide +kernel
theorem dX3_init_174 : decode cX3_init 174 = .ok (.iaload, 1) := by decide +kernel
theorem dX3_init_175 : decode cX3_init 175 = .ok (.invokevirtual 69, 3) := by decide +kernel
theorem dX3_init_178 : decode cX3_init 178 = .ok (.iinc 1 1, 3) := by decide +kernel
theorem dX3_init_181 : decode cX3_init 181 = .ok (.goto (-24), 3) := by decide +kernel
theorem dX3_init_184 : decode cX3_init 184 = .ok (.return_, 1) := by decide +kernel
theorem dX3_copyFrom_0 : decode cX3_copyFrom 0 = .ok (.aload_n 0, 1) := by decide +kernel
theorem dX3_copyFrom_1 : decode cX3_copyFrom 1 = .ok (.getfield 18, 3) := by decide +kernel
theorem dX3_copyFrom_4 : decode cX3_copyFrom 4 = .ok (.aload_n 1, 1) := by decide +kernel
theorem dX3_copyFrom_5 : decode cX3_copyFrom 5 = .ok (.getfield 18, 3) := by decide +kernel
theorem dX3_copyFrom_8 : decode cX3_copyFrom 8 = .ok (.invokevirtual 73, 3) := by decide +kernel
theorem dX3_copyFrom_11 : decode cX3_copyFrom 11 = .ok (.aload_n 0, 1) := by decide +kernel
theorem dX3_copyFrom_12 : decode cX3_copyFrom 12 = .ok (.getfield 24, 3) := by decide +kernel
theorem dX3_copyFrom_15 : decode cX3_copyFrom 15 = .ok (.aload_n 1, 1) := by decide +kernel
theorem dX3_copyFrom_16 : decode cX3_copyFrom 16 = .ok (.getfield 24, 3) := by decide +kernel
theorem dX3_copyFrom_19 : decode cX3_copyFrom 19 = .ok (.invokevirtual 73, 3) := by decide +kernel
theorem dX3_copyFrom_22 : decode cX3_copyFrom 22 = .ok (.aload_n 0, 1) := by decide +kernel
theorem dX3_copyFrom_23 : decode cX3_copyFrom 23 = .ok (.getfield 30, 3) := by decide +kernel
theorem dX3_copyFrom_26 : decode cX3_copyFrom 26 = .ok (.aload_n 1, 1) := by decide +kernel
theorem dX3_copyFrom_27 : decode cX3_copyFrom 27 = .ok (.getfield 30, 3) := by decide +kernel
theorem dX3_copyFrom_30 : decode cX3_copyFrom 30 = .ok (.invokevirtual 77, 3) := by decide +kernel
theorem dX3_copyFrom_33 : decode cX3_copyFrom 33 = .ok (.aload_n 0, 1) := by decide +kernel
theorem dX3_copyFrom_34 : decode cX3_copyFrom 34 = .ok (.getfield 37, 3) := by decide +kernel
theorem dX3_copyFrom_37 : decode cX3_copyFrom 37 = .ok (.aload_n 1, 1) := by decide +kernel
theorem dX3_copyFrom_38 : decode cX3_copyFrom 38 = .ok (.getfield 37, 3) := by decide +kernel
theorem dX3_copyFrom_41 : decode cX3_copyFrom 41 = .ok (.invokevirtual 80, 3) := by decide +kernel
theorem dX3_copyFrom_44 : decode cX3_copyFrom 44 = .ok (.aload_n 0, 1) := by decide +kernel
theorem dX3_copyFrom_45 : decode cX3_copyFrom 45 = .ok (.getfield 44, 3) := by decide +kernel
theorem dX3_copyFrom_48 : decode cX3_copyFrom 48 = .ok (.aload_n 1, 1) := by decide +kernel
theorem dX3_copyFrom_49 : decode cX3_copyFrom 49 = .ok (.getfield 44, 3) := by decide +kernel
theorem dX3_copyFrom_52 : decode cX3_copyFrom 52 = .ok (.invokevirtual 83, 3) := by decide +kernel
theorem dX3_copyFrom_55 : decode cX3_copyFrom 55 = .ok (.aload_n 0, 1) := by decide +kernel
theorem dX3_copyFrom_56 : decode cX3_copyFrom 56 = .ok (.getfield 48, 3) := by decide +kernel
theorem dX3_copyFrom_59 : decode cX3_copyFrom 59 = .ok (.aload_n 1, 1) := by decide +kernel
theorem dX3_copyFrom_60 : decode cX3_copyFrom 60 = .ok (.getfield 48, 3) := by decide +kernel
theorem dX3_copyFrom_63 : decode cX3_copyFrom 63 = .ok (.invokevirtual 73, 3) := by decide +kernel
theorem dX3_copyFrom_66 : decode cX3_copyFrom 66 = .ok (.aload_n 0, 1) := by decide +kernel
theorem dX3_copyFrom_67 : decode cX3_copyFrom 67 = .ok (.getfield 51, 3) := by decide +kernel
theorem dX3_copyFrom_70 : decode cX3_copyFrom 70 = .ok (.aload_n 1, 1) := by decide +kernel
theorem dX3_copyFrom_71 : decode cX3_copyFrom 71 = .ok (.getfield 51, 3) := by decide +kernel
theorem dX3_copyFrom_74 : decode cX3_copyFrom 74 = .ok (.invokevirtual 73, 3) := by decide +kernel
theorem dX3_copyFrom_77 : decode cX3_copyFrom 77 = .ok (.aload_n 0, 1) := by decide +kernel
theorem dX3_copyFrom_78 : decode cX3_copyFrom 78 = .ok (.getfield 54, 3) := by decide +kernel
theorem dX3_copyFrom_81 : decode cX3_copyFrom 81 = .ok (.aload_n 1, 1) := by decide +kernel
theorem dX3_copyFrom_82 : decode cX3_copyFrom 82 = .ok (.getfield 54, 3) := by decide +kernel
theorem dX3_copyFrom_85 : decode cX3_copyFrom 85 = .ok (.invokevirtual 73, 3) := by decide +kernel
theorem dX3_copyFrom_88 : decode cX3_copyFrom 88 = .ok (.aload_n 0, 1) := by decide +kernel
theorem dX3_copyFrom_89 : decode cX3_copyFrom 89 = .ok (.getfield 57, 3) := by decide +kernel
theorem dX3_copyFrom_92 : decode cX3_copyFrom 92 = .ok (.aload_n 1, 1) := by decide +kernel
theorem dX3_copyFrom_93 : decode cX3_copyFrom 93 = .ok (.getfield 57, 3) := by decide +kernel
theorem dX3_copyFrom_96 : decode cX3_copyFrom 96 = .ok (.invokevirtual 73, 3) := by decide +kernel
theorem dX3_copyFrom_99 : decode cX3_copyFrom 99 = .ok (.aload_n 0, 1) := by decide +kernel
theorem dX3_copyFrom_100 : decode cX3_copyFrom 100 = .ok (.getfield 60, 3) := by decide +kernel
theorem dX3_copyFrom_103 : decode cX3_copyFrom 103 = .ok (.aload_n 1, 1) := by decide +kernel
theorem dX3_copyFrom_104 : decode cX3_copyFrom 104 = .ok (.getfield 60, 3) := by decide +kernel
theorem dX3_copyFrom_107 : decode cX3_copyFrom 107 = .ok (.invokevirtual 73, 3) := by decide +kernel
theorem dX3_copyFrom_110 : decode cX3_copyFrom 110 = .ok (.aload_n 0, 1) := by decide +kernel
theorem dX3_copyFrom_111 : decode cX3_copyFrom 111 = .ok (.getfield 63, 3) := by decide +kernel
theorem dX3_copyFrom_114 : decode cX3_copyFrom 114 = .ok (.aload_n 1, 1) := by decide +kernel
theorem dX3_copyFrom_115 : decode cX3_copyFrom 115 = .ok (.getfield 63, 3) := by decide +kernel
theorem dX3_copyFrom_118 : decode cX3_copyFrom 118 = .ok (.invokevirtual 73, 3) := by decide +kernel
theorem dX3_copyFrom_121 : decode cX3_copyFrom 121 = .ok (.aload_n 0, 1) := by decide +kernel
theorem dX3_copyFrom_122 : decode cX3_copyFrom 122 = .ok (.getfield 66, 3) := by decide +kernel
theorem dX3_copyFrom_125 : decode cX3_copyFrom 125 = .ok (.aload_n 1, 1) := by decide +kernel
theorem dX3_copyFrom_126 : decode cX3_copyFrom 126 = .ok (.getfield 66, 3) := by decide +kernel
theorem dX3_copyFrom_129 : decode cX3_copyFrom 129 = .ok (.invokevirtual 73, 3) := by decide +kernel
theorem dX3_copyFrom_132 : decode cX3_copyFrom 132 = .ok (.return_, 1) := by decide +kernel
theorem dX3_errorOf_0 : decode cX3_errorOf 0 = .ok (.iload_n 1, 1) := by decide +kernel
theorem dX3_errorOf_1 : decode cX3_errorOf 1 = .ok (.iconst 3, 1) := by decide +kernel
theorem dX3_errorOf_2 : decode cX3_errorOf 2 = .ok (.if_icmp .eq 10, 3) := by decide +kernel
theorem dX3_errorOf_5 : decode cX3_errorOf 5 = .ok (.iload_n 2, 1) := by decide +kernel
theorem dX3_errorOf_6 : decode cX3_errorOf 6 = .ok (.invokestatic 86, 3) := by decide +kernel
theorem dX3_errorOf_9 : decode cX3_errorOf 9 = .ok (.ifCond .eq 10, 3) := by decide +kernel
theorem dX3_errorOf_12 : decode cX3_errorOf 12 = .ok (.iload_n 3, 1) := by decide +kernel
theorem dX3_errorOf_13 : decode cX3_errorOf 13 = .ok (.invokestatic 90, 3) := by decide +kernel
theorem dX3_errorOf_16 : decode cX3_errorOf 16 = .ok (.ifCond .ne 5, 3) := by decide +kernel
theorem dX3_errorOf_19 : decode cX3_errorOf 19 = .ok (.iconst (-1), 1) := by decide +kernel
theorem dX3_errorOf_20 : decode cX3_errorOf 20 = .ok (.ireturn, 1) := by decide +kernel
theorem dX3_errorOf_21 : decode cX3_errorOf 21 = .ok (.iload_n 1, 1) := by decide +kernel
theorem dX3_errorOf_22 : decode cX3_errorOf 22 = .ok (.iconst 1, 1) := by decide +kernel
theorem dX3_errorOf_23 : decode cX3_errorOf 23 = .ok (.if_icmp .ne 19, 3) := by decide +kernel
theorem dX3_errorOf_26 : decode cX3_errorOf 26 = .ok (.iload 4, 2) := by decide +kernel
theorem dX3_errorOf_28 : decode cX3_errorOf 28 = .ok (.ifCond .lt 11, 3) := by decide +kernel
theorem dX3_errorOf_31 : decode cX3_errorOf 31 = .ok (.iload 4, 2) := by decide +kernel
theorem dX3_errorOf_33 : decode cX3_errorOf 33 = .ok (.sipush 9999, 3) := by decide +kernel
theorem dX3_errorOf_36 : decode cX3_errorOf 36 = .ok (.if_icmp .le 6, 3) := by decide +kernel
theorem dX3_errorOf_39 : decode cX3_errorOf 39 = .ok (.bipush (-2), 2) := by decide +kernel
theorem dX3_errorOf_41 : decode cX3_errorOf 41 = .ok (.ireturn, 1) := by decide +kernel
theorem dX3_errorOf_42 : decode cX3_errorOf 42 = .ok (.iload_n 1, 1) := by decide +kernel
theorem dX3_errorOf_43 : decode cX3_errorOf 43 = .ok (.iconst 2, 1) := by decide +kernel
theorem dX3_errorOf_44 : decode cX3_errorOf 44 = .ok (.if_icmp .ne 15, 3) := by decide +kernel
theorem dX3_errorOf_47 : decode cX3_errorOf 47 = .ok (.aload_n 0, 1) := by decide +kernel
theorem dX3_errorOf_48 : decode cX3_errorOf 48 = .ok (.getfield 37, 3) := by decide +kernel
theorem dX3_errorOf_51 : decode cX3_errorOf 51 = .ok (.iload_n 2, 1) := by decide +kernel
theorem dX3_errorOf_52 : decode cX3_errorOf 52 = .ok (.iload_n 3, 1) := by decide +kernel
theorem dX3_errorOf_53 : decode cX3_errorOf 53 = .ok (.invokevirtual 93, 3) := by decide +kernel
theorem dX3_errorOf_56 : decode cX3_errorOf 56 = .ok (.ifCond .eq 22, 3) := by decide +kernel
theorem dX3_errorOf_59 : decode cX3_errorOf 59 = .ok (.iload_n 1, 1) := by decide +kernel
theorem dX3_errorOf_60 : decode cX3_errorOf 60 = .ok (.iconst 3, 1) := by decide +kernel
theorem dX3_errorOf_61 : decode cX3_errorOf 61 = .ok (.if_icmp .ne 20, 3) := by decide +kernel
theorem dX3_errorOf_64 : decode cX3_errorOf 64 = .ok (.aload_n 0, 1) := by decide +kernel
theorem dX3_errorOf_65 : decode cX3_errorOf 65 = .ok (.getfield 30, 3) := by decide +kernel
theorem dX3_errorOf_68 : decode cX3_errorOf 68 = .ok (.getfield 97, 3) := by decide +kernel
theorem dX3_errorOf_71 : decode cX3_errorOf 71 = .ok (.iload_n 3, 1) := by decide +kernel
theorem dX3_errorOf_72 : decode cX3_errorOf 72 = .ok (.invokevirtual 100, 3) := by decide +kernel
theorem dX3_errorOf_75 : decode cX3_errorOf 75 = .ok (.ifCond .ne 6, 3) := by decide +kernel
theorem dX3_errorOf_78 : decode cX3_errorOf 78 = .ok (.bipush (-5), 2) := by decide +kernel
theorem dX3_errorOf_80 : decode cX3_errorOf 80 = .ok (.ireturn, 1) := by decide +kernel
theorem dX3_errorOf_81 : decode cX3_errorOf 81 = .ok (.iconst 0, 1) := by decide +kernel
theorem dX3_errorOf_82 : decode cX3_errorOf 82 = .ok (.ireturn, 1) := by decide +kernel
theorem dX3_lend_0 : decode cX3_lend 0 = .ok (.aload_n 0, 1) := by decide +kernel
theorem dX3_lend_1 : decode cX3_lend 1 = .ok (.getfield 37, 3) := by decide +kernel
theorem dX3_lend_4 : decode cX3_lend 4 = .ok (.iload_n 1, 1) := by decide +kernel
theorem dX3_lend_5 : decode cX3_lend 5 = .ok (.iload_n 2, 1) := by decide +kernel
theorem dX3_lend_6 : decode cX3_lend 6 = .ok (.invokevirtual 104, 3) := by decide +kernel
theorem dX3_lend_9 : decode cX3_lend 9 = .ok (.istore_n 3, 1) := by decide +kernel
theorem dX3_lend_10 : decode cX3_lend 10 = .ok (.iload_n 3, 1) := by decide +kernel
theorem dX3_lend_11 : decode cX3_lend 11 = .ok (.iconst (-1), 1) := by decide +kernel
theorem dX3_lend_12 : decode cX3_lend 12 = .ok (.if_icmp .eq 7, 3) := by decide +kernel
theorem dX3_lend_15 : decode cX3_lend 15 = .ok (.iconst 1, 1) := by decide +kernel
theorem dX3_lend_16 : decode cX3_lend 16 = .ok (.goto 4, 3) := by decide +kernel
theorem dX3_lend_19 : decode cX3_lend 19 = .ok (.iconst 0, 1) := by decide +kernel
theorem dX3_lend_20 : decode cX3_lend 20 = .ok (.istore 4, 2) := by decide +kernel
theorem dX3_lend_22 : decode cX3_lend 22 = .ok (.aload_n 0, 1) := by decide +kernel
theorem dX3_lend_23 : decode cX3_lend 23 = .ok (.iload_n 1, 1) := by decide +kernel
theorem dX3_lend_24 : decode cX3_lend 24 = .ok (.iload 4, 2) := by decide +kernel
theorem dX3_lend_26 : decode cX3_lend 26 = .ok (.invokevirtual 108, 3) := by decide +kernel
theorem dX3_lend_29 : decode cX3_lend 29 = .ok (.iload 4, 2) := by decide +kernel
theorem dX3_lend_31 : decode cX3_lend 31 = .ok (.ifCond .eq 50, 3) := by decide +kernel
theorem dX3_lend_34 : decode cX3_lend 34 = .ok (.aload_n 0, 1) := by decide +kernel
theorem dX3_lend_35 : decode cX3_lend 35 = .ok (.getfield 37, 3) := by decide +kernel
theorem dX3_lend_38 : decode cX3_lend 38 = .ok (.iload_n 1, 1) := by decide +kernel
theorem dX3_lend_39 : decode cX3_lend 39 = .ok (.iload_n 3, 1) := by decide +kernel
theorem dX3_lend_40 : decode cX3_lend 40 = .ok (.invokevirtual 112, 3) := by decide +kernel
theorem dX3_lend_43 : decode cX3_lend 43 = .ok (.istore 5, 2) := by decide +kernel
theorem dX3_lend_45 : decode cX3_lend 45 = .ok (.aload_n 0, 1) := by decide +kernel
theorem dX3_lend_46 : decode cX3_lend 46 = .ok (.getfield 37, 3) := by decide +kernel
theorem dX3_lend_49 : decode cX3_lend 49 = .ok (.iload_n 1, 1) := by decide +kernel
theorem dX3_lend_50 : decode cX3_lend 50 = .ok (.iload_n 3, 1) := by decide +kernel
theorem dX3_lend_51 : decode cX3_lend 51 = .ok (.invokevirtual 115, 3) := by decide +kernel
theorem dX3_lend_54 : decode cX3_lend 54 = .ok (.istore 6, 2) := by decide +kernel
theorem dX3_lend_56 : decode cX3_lend 56 = .ok (.aload_n 0, 1) := by decide +kernel
theorem dX3_lend_57 : decode cX3_lend 57 = .ok (.getfield 37, 3) := by decide +kernel
theorem dX3_lend_60 : decode cX3_lend 60 = .ok (.iload_n 1, 1) := by decide +kernel
theorem dX3_lend_61 : decode cX3_lend 61 = .ok (.iload_n 3, 1) := by decide +kernel
theorem dX3_lend_62 : decode cX3_lend 62 = .ok (.invokevirtual 118, 3) := by decide +kernel
theorem dX3_lend_65 : decode cX3_lend 65 = .ok (.aload_n 0, 1) := by decide +kernel
theorem dX3_lend_66 : decode cX3_lend 66 = .ok (.getfield 37, 3) := by decide +kernel
theorem dX3_lend_69 : decode cX3_lend 69 = .ok (.iload_n 1, 1) := by decide +kernel
theorem dX3_lend_70 : decode cX3_lend 70 = .ok (.iload_n 2, 1) := by decide +kernel
theorem dX3_lend_71 : decode cX3_lend 71 = .ok (.iload 5, 2) := by decide +kernel
theorem dX3_lend_73 : decode cX3_lend 73 = .ok (.iload 6, 2) := by decide +kernel
theorem dX3_lend_75 : decode cX3_lend 75 = .ok (.invokevirtual 121, 3) := by decide +kernel
theorem dX3_lend_78 : decode cX3_lend 78 = .ok (.iload 5, 2) := by decide +kernel
theorem dX3_lend_80 : decode cX3_lend 80 = .ok (.ireturn, 1) := by decide +kernel
theorem dX3_lend_81 : decode cX3_lend 81 = .ok (.aload_n 0, 1) := by decide +kernel
theorem dX3_lend_82 : decode cX3_lend 82 = .ok (.getfield 30, 3) := by decide +kernel
theorem dX3_lend_85 : decode cX3_lend 85 = .ok (.getfield 97, 3) := by decide +kernel
theorem dX3_lend_88 : decode cX3_lend 88 = .ok (.iload_n 2, 1) := by decide +kernel
theorem dX3_lend_89 : decode cX3_lend 89 = .ok (.invokevirtual 100, 3) := by decide +kernel
theorem dX3_lend_92 : decode cX3_lend 92 = .ok (.iconst 3, 1) := by decide +kernel
theorem dX3_lend_93 : decode cX3_lend 93 = .ok (.if_icmp .ne 20, 3) := by decide +kernel
theorem dX3_lend_96 : decode cX3_lend 96 = .ok (.aload_n 0, 1) := by decide +kernel
theorem dX3_lend_97 : decode cX3_lend 97 = .ok (.iload_n 2, 1) := by decide +kernel
theorem dX3_lend_98 : decode cX3_lend 98 = .ok (.iload_n 1, 1) := by decide +kernel
theorem dX3_lend_99 : decode cX3_lend 99 = .ok (.invokevirtual 125, 3) := by decide +kernel
theorem dX3_lend_102 : decode cX3_lend 102 = .ok (.pop, 1) := by decide +kernel
theorem dX3_lend_103 : decode cX3_lend 103 = .ok (.aload_n 0, 1) := by decide +kernel
theorem dX3_lend_104 : decode cX3_lend 104 = .ok (.getfield 30, 3) := by decide +kernel
theorem dX3_lend_107 : decode cX3_lend 107 = .ok (.iload_n 2, 1) := by decide +kernel
theorem dX3_lend_108 : decode cX3_lend 108 = .ok (.iconst 0, 1) := by decide +kernel
theorem dX3_lend_109 : decode cX3_lend 109 = .ok (.iconst 0, 1) := by decide +kernel
theorem dX3_lend_110 : decode cX3_lend 110 = .ok (.invokevirtual 128, 3) := by decide +kernel
theorem dX3_lend_113 : decode cX3_lend 113 = .ok (.aload_n 0, 1) := by decide +kernel
theorem dX3_lend_114 : decode cX3_lend 114 = .ok (.iload_n 1, 1) := by decide +kernel
theorem dX3_lend_115 : decode cX3_lend 115 = .ok (.invokevirtual 132, 3) := by decide +kernel
theorem dX3_lend_118 : decode cX3_lend 118 = .ok (.aload_n 0, 1) := by decide +kernel
theorem dX3_lend_119 : decode cX3_lend 119 = .ok (.getfield 48, 3) := by decide +kernel
theorem dX3_lend_122 : decode cX3_lend 122 = .ok (.iconst 0, 1) := by decide +kernel
theorem dX3_lend_123 : decode cX3_lend 123 = .ok (.iconst 2, 1) := by decide +kernel
theorem dX3_lend_124 : decode cX3_lend 124 = .ok (.invokevirtual 135, 3) := by decide +kernel
theorem dX3_lend_127 : decode cX3_lend 127 = .ok (.aload_n 0, 1) := by decide +kernel
theorem dX3_lend_128 : decode cX3_lend 128 = .ok (.getfield 37, 3) := by decide +kernel
theorem dX3_lend_131 : decode cX3_lend 131 = .ok (.iload_n 1, 1) := by decide +kernel
theorem dX3_lend_132 : decode cX3_lend 132 = .ok (.iload_n 2, 1) := by decide +kernel
theorem dX3_lend_133 : decode cX3_lend 133 = .ok (.aload_n 0, 1) := by decide +kernel
theorem dX3_lend_134 : decode cX3_lend 134 = .ok (.getfield 24, 3) := by decide +kernel
theorem dX3_lend_137 : decode cX3_lend 137 = .ok (.iload_n 2, 1) := by decide +kernel
theorem dX3_lend_138 : decode cX3_lend 138 = .ok (.invokevirtual 100, 3) := by decide +kernel
theorem dX3_lend_141 : decode cX3_lend 141 = .ok (.iconst 0, 1) := by decide +kernel
theorem dX3_lend_142 : decode cX3_lend 142 = .ok (.invokevirtual 121, 3) := by decide +kernel
theorem dX3_lend_145 : decode cX3_lend 145 = .ok (.aload_n 0, 1) := by decide +kernel
theorem dX3_lend_146 : decode cX3_lend 146 = .ok (.getfield 30, 3) := by decide +kernel
theorem dX3_lend_149 : decode cX3_lend 149 = .ok (.iload_n 2, 1) := by decide +kernel
theorem dX3_lend_150 : decode cX3_lend 150 = .ok (.iload_n 1, 1) := by decide +kernel
theorem dX3_lend_151 : decode cX3_lend 151 = .ok (.aload_n 0, 1) := by decide +kernel
theorem dX3_lend_152 : decode cX3_lend 152 = .ok (.getfield 18, 3) := by decide +kernel
theorem dX3_lend_155 : decode cX3_lend 155 = .ok (.iconst 0, 1) := by decide +kernel
theorem dX3_lend_156 : decode cX3_lend 156 = .ok (.invokevirtual 100, 3) := by decide +kernel
theorem dX3_lend_159 : decode cX3_lend 159 = .ok (.aload_n 0, 1) := by decide +kernel
theorem dX3_lend_160 : decode cX3_lend 160 = .ok (.getfield 18, 3) := by decide +kernel
theorem dX3_lend_163 : decode cX3_lend 163 = .ok (.iconst 1, 1) := by decide +kernel
theorem dX3_lend_164 : decode cX3_lend 164 = .ok (.invokevirtual 100, 3) := by decide +kernel
theorem dX3_lend_167 : decode cX3_lend 167 = .ok (.invokevirtual 138, 3) := by decide +kernel
theorem dX3_lend_170 : decode cX3_lend 170 = .ok (.aload_n 0, 1) := by decide +kernel
theorem dX3_lend_171 : decode cX3_lend 171 = .ok (.getfield 24, 3) := by decide +kernel
theorem dX3_lend_174 : decode cX3_lend 174 = .ok (.iload_n 2, 1) := by decide +kernel
theorem dX3_lend_175 : decode cX3_lend 175 = .ok (.invokevirtual 100, 3) := by decide +kernel
theorem dX3_lend_178 : decode cX3_lend 178 = .ok (.ireturn, 1) := by decide +kernel
theorem dX3_rewrite_0 : decode cX3_rewrite 0 = .ok (.aload_n 0, 1) := by decide +kernel
theorem dX3_rewrite_1 : decode cX3_rewrite 1 = .ok (.getfield 48, 3) := by decide +kernel
theorem dX3_rewrite_4 : decode cX3_rewrite 4 = .ok (.iconst 0, 1) := by decide +kernel
theorem dX3_rewrite_5 : decode cX3_rewrite 5 = .ok (.invokevirtual 100, 3) := by decide +kernel
theorem dX3_rewrite_8 : decode cX3_rewrite 8 = .ok (.istore 4, 2) := by decide +kernel
theorem dX3_rewrite_10 : decode cX3_rewrite 10 = .ok (.aload_n 0, 1) := by decide +kernel
theorem dX3_rewrite_11 : decode cX3_rewrite 11 = .ok (.getfield 30, 3) := by decide +kernel
theorem dX3_rewrite_14 : decode cX3_rewrite 14 = .ok (.iload_n 2, 1) := by decide +kernel
theorem dX3_rewrite_15 : decode cX3_rewrite 15 = .ok (.iload_n 1, 1) := by decide +kernel
theorem dX3_rewrite_16 : decode cX3_rewrite 16 = .ok (.invokevirtual 142, 3) := by decide +kernel
theorem dX3_rewrite_19 : decode cX3_rewrite 19 = .ok (.istore 5, 2) := by decide +kernel
theorem dX3_rewrite_21 : decode cX3_rewrite 21 = .ok (.aload_n 0, 1) := by decide +kernel
theorem dX3_rewrite_22 : decode cX3_rewrite 22 = .ok (.iload_n 1, 1) := by decide +kernel
theorem dX3_rewrite_23 : decode cX3_rewrite 23 = .ok (.iload 5, 2) := by decide +kernel
theorem dX3_rewrite_25 : decode cX3_rewrite 25 = .ok (.invokevirtual 108, 3) := by decide +kernel
theorem dX3_rewrite_28 : decode cX3_rewrite 28 = .ok (.iload 5, 2) := by decide +kernel
theorem dX3_rewrite_30 : decode cX3_rewrite 30 = .ok (.ifCond .ne 19, 3) := by decide +kernel
theorem dX3_rewrite_33 : decode cX3_rewrite 33 = .ok (.aload_n 0, 1) := by decide +kernel
theorem dX3_rewrite_34 : decode cX3_rewrite 34 = .ok (.iload_n 2, 1) := by decide +kernel
theorem dX3_rewrite_35 : decode cX3_rewrite 35 = .ok (.iload_n 1, 1) := by decide +kernel
theorem dX3_rewrite_36 : decode cX3_rewrite 36 = .ok (.invokevirtual 125, 3) := by decide +kernel
theorem dX3_rewrite_39 : decode cX3_rewrite 39 = .ok (.pop, 1) := by decide +kernel
theorem dX3_rewrite_40 : decode cX3_rewrite 40 = .ok (.aload_n 0, 1) := by decide +kernel
theorem dX3_rewrite_41 : decode cX3_rewrite 41 = .ok (.getfield 48, 3) := by decide +kernel
theorem dX3_rewrite_44 : decode cX3_rewrite 44 = .ok (.iconst 0, 1) := by decide +kernel
theorem dX3_rewrite_45 : decode cX3_rewrite 45 = .ok (.iconst 2, 1) := by decide +kernel
theorem dX3_rewrite_46 : decode cX3_rewrite 46 = .ok (.invokevirtual 135, 3) := by decide +kernel
theorem dX3_rewrite_49 : decode cX3_rewrite 49 = .ok (.aload_n 0, 1) := by decide +kernel
theorem dX3_rewrite_50 : decode cX3_rewrite 50 = .ok (.getfield 37, 3) := by decide +kernel
theorem dX3_rewrite_53 : decode cX3_rewrite 53 = .ok (.iload_n 1, 1) := by decide +kernel
theorem dX3_rewrite_54 : decode cX3_rewrite 54 = .ok (.iload_n 2, 1) := by decide +kernel
theorem dX3_rewrite_55 : decode cX3_rewrite 55 = .ok (.invokevirtual 93, 3) := by decide +kernel
theorem dX3_rewrite_58 : decode cX3_rewrite 58 = .ok (.ifCond .eq 23, 3) := by decide +kernel
theorem dX3_rewrite_61 : decode cX3_rewrite 61 = .ok (.aload_n 0, 1) := by decide +kernel
theorem dX3_rewrite_62 : decode cX3_rewrite 62 = .ok (.getfield 37, 3) := by decide +kernel
theorem dX3_rewrite_65 : decode cX3_rewrite 65 = .ok (.iload_n 1, 1) := by decide +kernel
theorem dX3_rewrite_66 : decode cX3_rewrite 66 = .ok (.aload_n 0, 1) := by decide +kernel
theorem dX3_rewrite_67 : decode cX3_rewrite 67 = .ok (.getfield 37, 3) := by decide +kernel
theorem dX3_rewrite_70 : decode cX3_rewrite 70 = .ok (.iload_n 1, 1) := by decide +kernel
theorem dX3_rewrite_71 : decode cX3_rewrite 71 = .ok (.iload_n 2, 1) := by decide +kernel
theorem dX3_rewrite_72 : decode cX3_rewrite 72 = .ok (.invokevirtual 104, 3) := by decide +kernel
theorem dX3_rewrite_75 : decode cX3_rewrite 75 = .ok (.invokevirtual 118, 3) := by decide +kernel
theorem dX3_rewrite_78 : decode cX3_rewrite 78 = .ok (.goto 8, 3) := by decide +kernel
theorem dX3_rewrite_81 : decode cX3_rewrite 81 = .ok (.aload_n 0, 1) := by decide +kernel
theorem dX3_rewrite_82 : decode cX3_rewrite 82 = .ok (.iload_n 1, 1) := by decide +kernel
theorem dX3_rewrite_83 : decode cX3_rewrite 83 = .ok (.invokevirtual 132, 3) := by decide +kernel
theorem dX3_rewrite_86 : decode cX3_rewrite 86 = .ok (.aload_n 0, 1) := by decide +kernel
theorem dX3_rewrite_87 : decode cX3_rewrite 87 = .ok (.getfield 37, 3) := by decide +kernel
theorem dX3_rewrite_90 : decode cX3_rewrite 90 = .ok (.iload_n 1, 1) := by decide +kernel
theorem dX3_rewrite_91 : decode cX3_rewrite 91 = .ok (.iload_n 2, 1) := by decide +kernel
theorem dX3_rewrite_92 : decode cX3_rewrite 92 = .ok (.iload_n 3, 1) := by decide +kernel
theorem dX3_rewrite_93 : decode cX3_rewrite 93 = .ok (.iconst 1, 1) := by decide +kernel
theorem dX3_rewrite_94 : decode cX3_rewrite 94 = .ok (.invokevirtual 121, 3) := by decide +kernel
theorem dX3_rewrite_97 : decode cX3_rewrite 97 = .ok (.aload_n 0, 1) := by decide +kernel
theorem dX3_rewrite_98 : decode cX3_rewrite 98 = .ok (.getfield 30, 3) := by decide +kernel
theorem dX3_rewrite_101 : decode cX3_rewrite 101 = .ok (.iload_n 2, 1) := by decide +kernel
theorem dX3_rewrite_102 : decode cX3_rewrite 102 = .ok (.iconst 3, 1) := by decide +kernel
theorem dX3_rewrite_103 : decode cX3_rewrite 103 = .ok (.iload_n 1, 1) := by decide +kernel
theorem dX3_rewrite_104 : decode cX3_rewrite 104 = .ok (.invokestatic 145, 3) := by decide +kernel
theorem dX3_rewrite_107 : decode cX3_rewrite 107 = .ok (.invokevirtual 128, 3) := by decide +kernel
theorem dX3_rewrite_110 : decode cX3_rewrite 110 = .ok (.aload_n 0, 1) := by decide +kernel
theorem dX3_rewrite_111 : decode cX3_rewrite 111 = .ok (.getfield 48, 3) := by decide +kernel
theorem dX3_rewrite_114 : decode cX3_rewrite 114 = .ok (.iconst 0, 1) := by decide +kernel
theorem dX3_rewrite_115 : decode cX3_rewrite 115 = .ok (.invokevirtual 100, 3) := by decide +kernel
theorem dX3_rewrite_118 : decode cX3_rewrite 118 = .ok (.iload 4, 2) := by decide +kernel
theorem dX3_rewrite_120 : decode cX3_rewrite 120 = .ok (.isub, 1) := by decide +kernel
theorem dX3_rewrite_121 : decode cX3_rewrite 121 = .ok (.ireturn, 1) := by decide +kernel
theorem dX3_callIn_0 : decode cX3_callIn 0 = .ok (.aload_n 0, 1) := by decide +kernel
theorem dX3_callIn_1 : decode cX3_callIn 1 = .ok (.iload_n 1, 1) := by decide +kernel
theorem dX3_callIn_2 : decode cX3_callIn 2 = .ok (.iconst (-1), 1) := by decide +kernel
theorem dX3_callIn_3 : decode cX3_callIn 3 = .ok (.invokevirtual 125, 3) := by decide +kernel
theorem dX3_callIn_6 : decode cX3_callIn 6 = .ok (.istore_n 2, 1) := by decide +kernel
theorem dX3_callIn_7 : decode cX3_callIn 7 = .ok (.aload_n 0, 1) := by decide +kernel
theorem dX3_callIn_8 : decode cX3_callIn 8 = .ok (.getfield 30, 3) := by decide +kernel
theorem dX3_callIn_11 : decode cX3_callIn 11 = .ok (.iload_n 1, 1) := by decide +kernel
theorem dX3_callIn_12 : decode cX3_callIn 12 = .ok (.iconst 0, 1) := by decide +kernel
theorem dX3_callIn_13 : decode cX3_callIn 13 = .ok (.iconst 0, 1) := by decide +kernel
theorem dX3_callIn_14 : decode cX3_callIn 14 = .ok (.invokevirtual 128, 3) := by decide +kernel
theorem dX3_callIn_17 : decode cX3_callIn 17 = .ok (.iload_n 2, 1) := by decide +kernel
theorem dX3_callIn_18 : decode cX3_callIn 18 = .ok (.ireturn, 1) := by decide +kernel
theorem dX3_giveBack_0 : decode cX3_giveBack 0 = .ok (.aload_n 0, 1) := by decide +kernel
theorem dX3_giveBack_1 : decode cX3_giveBack 1 = .ok (.getfield 37, 3) := by decide +kernel
theorem dX3_giveBack_4 : decode cX3_giveBack 4 = .ok (.iload_n 1, 1) := by decide +kernel
theorem dX3_giveBack_5 : decode cX3_giveBack 5 = .ok (.iload_n 2, 1) := by decide +kernel
theorem dX3_giveBack_6 : decode cX3_giveBack 6 = .ok (.invokevirtual 148, 3) := by decide +kernel
theorem dX3_giveBack_9 : decode cX3_giveBack 9 = .ok (.istore_n 3, 1) := by decide +kernel
theorem dX3_giveBack_10 : decode cX3_giveBack 10 = .ok (.aload_n 0, 1) := by decide +kernel
theorem dX3_giveBack_11 : decode cX3_giveBack 11 = .ok (.getfield 37, 3) := by decide +kernel
theorem dX3_giveBack_14 : decode cX3_giveBack 14 = .ok (.iload_n 1, 1) := by decide +kernel
theorem dX3_giveBack_15 : decode cX3_giveBack 15 = .ok (.iload_n 2, 1) := by decide +kernel
theorem dX3_giveBack_16 : decode cX3_giveBack 16 = .ok (.invokevirtual 115, 3) := by decide +kernel
theorem dX3_giveBack_19 : decode cX3_giveBack 19 = .ok (.istore 4, 2) := by decide +kernel
theorem dX3_giveBack_21 : decode cX3_giveBack 21 = .ok (.iload 4, 2) := by decide +kernel
theorem dX3_giveBack_23 : decode cX3_giveBack 23 = .ok (.ifCond .eq 20, 3) := by decide +kernel
theorem dX3_giveBack_26 : decode cX3_giveBack 26 = .ok (.aload_n 0, 1) := by decide +kernel
theorem dX3_giveBack_27 : decode cX3_giveBack 27 = .ok (.getfield 24, 3) := by decide +kernel
theorem dX3_giveBack_30 : decode cX3_giveBack 30 = .ok (.iload_n 3, 1) := by decide +kernel
theorem dX3_giveBack_31 : decode cX3_giveBack 31 = .ok (.aload_n 0, 1) := by decide +kernel
theorem dX3_giveBack_32 : decode cX3_giveBack 32 = .ok (.getfield 37, 3) := by decide +kernel
theorem dX3_giveBack_35 : decode cX3_giveBack 35 = .ok (.iload_n 1, 1) := by decide +kernel
theorem dX3_giveBack_36 : decode cX3_giveBack 36 = .ok (.iload_n 2, 1) := by decide +kernel
theorem dX3_giveBack_37 : decode cX3_giveBack 37 = .ok (.invokevirtual 112, 3) := by decide +kernel
theorem dX3_giveBack_40 : decode cX3_giveBack 40 = .ok (.invokevirtual 69, 3) := by decide +kernel
theorem dX3_giveBack_43 : decode cX3_giveBack 43 = .ok (.aload_n 0, 1) := by decide +kernel
theorem dX3_giveBack_44 : decode cX3_giveBack 44 = .ok (.getfield 37, 3) := by decide +kernel
theorem dX3_giveBack_47 : decode cX3_giveBack 47 = .ok (.iload_n 1, 1) := by decide +kernel
theorem dX3_giveBack_48 : decode cX3_giveBack 48 = .ok (.iload_n 2, 1) := by decide +kernel
theorem dX3_giveBack_49 : decode cX3_giveBack 49 = .ok (.invokevirtual 118, 3) := by decide +kernel
theorem dX3_giveBack_52 : decode cX3_giveBack 52 = .ok (.iload 4, 2) := by decide +kernel
theorem dX3_giveBack_54 : decode cX3_giveBack 54 = .ok (.ifCond .ne 15, 3) := by decide +kernel
theorem dX3_giveBack_57 : decode cX3_giveBack 57 = .ok (.aload_n 0, 1) := by decide +kernel
theorem dX3_giveBack_58 : decode cX3_giveBack 58 = .ok (.getfield 18, 3) := by decide +kernel
theorem dX3_giveBack_61 : decode cX3_giveBack 61 = .ok (.iconst 3, 1) := by decide +kernel
theorem dX3_giveBack_62 : decode cX3_giveBack 62 = .ok (.invokevirtual 100, 3) := by decide +kernel
theorem dX3_giveBack_65 : decode cX3_giveBack 65 = .ok (.iconst 1, 1) := by decide +kernel
theorem dX3_giveBack_66 : decode cX3_giveBack 66 = .ok (.if_icmp .ne 21, 3) := by decide +kernel
theorem dX3_giveBack_69 : decode cX3_giveBack 69 = .ok (.aload_n 0, 1) := by decide +kernel
theorem dX3_giveBack_70 : decode cX3_giveBack 70 = .ok (.getfield 48, 3) := by decide +kernel
theorem dX3_giveBack_73 : decode cX3_giveBack 73 = .ok (.iconst 0, 1) := by decide +kernel
theorem dX3_giveBack_74 : decode cX3_giveBack 74 = .ok (.iconst 1, 1) := by decide +kernel
theorem dX3_giveBack_75 : decode cX3_giveBack 75 = .ok (.invokevirtual 135, 3) := by decide +kernel
theorem dX3_giveBack_78 : decode cX3_giveBack 78 = .ok (.aload_n 0, 1) := by decide +kernel
theorem dX3_giveBack_79 : decode cX3_giveBack 79 = .ok (.getfield 30, 3) := by decide +kernel
theorem dX3_giveBack_82 : decode cX3_giveBack 82 = .ok (.iload_n 3, 1) := by decide +kernel
theorem dX3_giveBack_83 : decode cX3_giveBack 83 = .ok (.iload_n 1, 1) := by decide +kernel
theorem dX3_giveBack_84 : decode cX3_giveBack 84 = .ok (.invokevirtual 151, 3) := by decide +kernel
theorem dX3_giveBack_87 : decode cX3_giveBack 87 = .ok (.iload 4, 2) := by decide +kernel
theorem dX3_giveBack_89 : decode cX3_giveBack 89 = .ok (.ifCond .eq 7, 3) := by decide +kernel
theorem dX3_giveBack_92 : decode cX3_giveBack 92 = .ok (.iconst 1, 1) := by decide +kernel
theorem dX3_giveBack_93 : decode cX3_giveBack 93 = .ok (.goto 4, 3) := by decide +kernel
theorem dX3_giveBack_96 : decode cX3_giveBack 96 = .ok (.iconst 0, 1) := by decide +kernel
theorem dX3_giveBack_97 : decode cX3_giveBack 97 = .ok (.ireturn, 1) := by decide +kernel
theorem dX3_callBack_0 : decode cX3_callBack 0 = .ok (.aload_n 0, 1) := by decide +kernel
theorem dX3_callBack_1 : decode cX3_callBack 1 = .ok (.getfield 30, 3) := by decide +kernel
theorem dX3_callBack_4 : decode cX3_callBack 4 = .ok (.getfield 97, 3) := by decide +kernel
theorem dX3_callBack_7 : decode cX3_callBack 7 = .ok (.iload_n 1, 1) := by decide +kernel
theorem dX3_callBack_8 : decode cX3_callBack 8 = .ok (.invokevirtual 100, 3) := by decide +kernel
theorem dX3_callBack_11 : decode cX3_callBack 11 = .ok (.iconst 2, 1) := by decide +kernel
theorem dX3_callBack_12 : decode cX3_callBack 12 = .ok (.if_icmp .ne 7, 3) := by decide +kernel
theorem dX3_callBack_15 : decode cX3_callBack 15 = .ok (.iconst 1, 1) := by decide +kernel
theorem dX3_callBack_16 : decode cX3_callBack 16 = .ok (.goto 4, 3) := by decide +kernel
theorem dX3_callBack_19 : decode cX3_callBack 19 = .ok (.iconst 0, 1) := by decide +kernel
theorem dX3_callBack_20 : decode cX3_callBack 20 = .ok (.istore_n 3, 1) := by decide +kernel
theorem dX3_callBack_21 : decode cX3_callBack 21 = .ok (.aload_n 0, 1) := by decide +kernel
theorem dX3_callBack_22 : decode cX3_callBack 22 = .ok (.iload_n 1, 1) := by decide +kernel
theorem dX3_callBack_23 : decode cX3_callBack 23 = .ok (.invokevirtual 154, 3) := by decide +kernel
theorem dX3_callBack_26 : decode cX3_callBack 26 = .ok (.istore 4, 2) := by decide +kernel
theorem dX3_callBack_28 : decode cX3_callBack 28 = .ok (.iconst 0, 1) := by decide +kernel
theorem dX3_callBack_29 : decode cX3_callBack 29 = .ok (.istore 5, 2) := by decide +kernel
theorem dX3_callBack_31 : decode cX3_callBack 31 = .ok (.iconst 0, 1) := by decide +kernel
theorem dX3_callBack_32 : decode cX3_callBack 32 = .ok (.istore 6, 2) := by decide +kernel
theorem dX3_callBack_34 : decode cX3_callBack 34 = .ok (.iload 6, 2) := by decide +kernel
theorem dX3_callBack_36 : decode cX3_callBack 36 = .ok (.bipush 16, 2) := by decide +kernel
theorem dX3_callBack_38 : decode cX3_callBack 38 = .ok (.if_icmp .ge 104, 3) := by decide +kernel
theorem dX3_callBack_41 : decode cX3_callBack 41 = .ok (.iload 6, 2) := by decide +kernel
theorem dX3_callBack_43 : decode cX3_callBack 43 = .ok (.iload_n 2, 1) := by decide +kernel
theorem dX3_callBack_44 : decode cX3_callBack 44 = .ok (.if_icmp .eq 92, 3) := by decide +kernel
theorem dX3_callBack_47 : decode cX3_callBack 47 = .ok (.iload 6, 2) := by decide +kernel
theorem dX3_callBack_49 : decode cX3_callBack 49 = .ok (.iload 4, 2) := by decide +kernel
theorem dX3_callBack_51 : decode cX3_callBack 51 = .ok (.invokestatic 157, 3) := by decide +kernel
theorem dX3_callBack_54 : decode cX3_callBack 54 = .ok (.ifCond .ne 6, 3) := by decide +kernel
theorem dX3_callBack_57 : decode cX3_callBack 57 = .ok (.goto 79, 3) := by decide +kernel
theorem dX3_callBack_60 : decode cX3_callBack 60 = .ok (.aload_n 0, 1) := by decide +kernel
theorem dX3_callBack_61 : decode cX3_callBack 61 = .ok (.getfield 48, 3) := by decide +kernel
theorem dX3_callBack_64 : decode cX3_callBack 64 = .ok (.iconst 0, 1) := by decide +kernel
theorem dX3_callBack_65 : decode cX3_callBack 65 = .ok (.iconst 1, 1) := by decide +kernel
theorem dX3_callBack_66 : decode cX3_callBack 66 = .ok (.invokevirtual 135, 3) := by decide +kernel
theorem dX3_callBack_69 : decode cX3_callBack 69 = .ok (.iload_n 3, 1) := by decide +kernel
theorem dX3_callBack_70 : decode cX3_callBack 70 = .ok (.ifCond .eq 21, 3) := by decide +kernel
theorem dX3_callBack_73 : decode cX3_callBack 73 = .ok (.aload_n 0, 1) := by decide +kernel
theorem dX3_callBack_74 : decode cX3_callBack 74 = .ok (.getfield 48, 3) := by decide +kernel
theorem dX3_callBack_77 : decode cX3_callBack 77 = .ok (.iconst 2, 1) := by decide +kernel
theorem dX3_callBack_78 : decode cX3_callBack 78 = .ok (.iconst 1, 1) := by decide +kernel
theorem dX3_callBack_79 : decode cX3_callBack 79 = .ok (.invokevirtual 135, 3) := by decide +kernel
theorem dX3_callBack_82 : decode cX3_callBack 82 = .ok (.aload_n 0, 1) := by decide +kernel
theorem dX3_callBack_83 : decode cX3_callBack 83 = .ok (.getfield 54, 3) := by decide +kernel
theorem dX3_callBack_86 : decode cX3_callBack 86 = .ok (.iload_n 1, 1) := by decide +kernel
theorem dX3_callBack_87 : decode cX3_callBack 87 = .ok (.iconst 1, 1) := by decide +kernel
theorem dX3_callBack_88 : decode cX3_callBack 88 = .ok (.invokevirtual 135, 3) := by decide +kernel
theorem dX3_callBack_91 : decode cX3_callBack 91 = .ok (.aload_n 0, 1) := by decide +kernel
theorem dX3_callBack_92 : decode cX3_callBack 92 = .ok (.getfield 37, 3) := by decide +kernel
theorem dX3_callBack_95 : decode cX3_callBack 95 = .ok (.iload 6, 2) := by decide +kernel
theorem dX3_callBack_97 : decode cX3_callBack 97 = .ok (.iload_n 1, 1) := by decide +kernel
theorem dX3_callBack_98 : decode cX3_callBack 98 = .ok (.invokevirtual 93, 3) := by decide +kernel
theorem dX3_callBack_101 : decode cX3_callBack 101 = .ok (.ifCond .eq 16, 3) := by decide +kernel
theorem dX3_callBack_104 : decode cX3_callBack 104 = .ok (.iinc 5 1, 3) := by decide +kernel
theorem dX3_callBack_107 : decode cX3_callBack 107 = .ok (.aload_n 0, 1) := by decide +kernel
theorem dX3_callBack_108 : decode cX3_callBack 108 = .ok (.iload 6, 2) := by decide +kernel
theorem dX3_callBack_110 : decode cX3_callBack 110 = .ok (.iload_n 1, 1) := by decide +kernel
theorem dX3_callBack_111 : decode cX3_callBack 111 = .ok (.invokevirtual 160, 3) := by decide +kernel
theorem dX3_callBack_114 : decode cX3_callBack 114 = .ok (.goto 22, 3) := by decide +kernel
theorem dX3_callBack_117 : decode cX3_callBack 117 = .ok (.aload_n 0, 1) := by decide +kernel
theorem dX3_callBack_118 : decode cX3_callBack 118 = .ok (.getfield 48, 3) := by decide +kernel
theorem dX3_callBack_121 : decode cX3_callBack 121 = .ok (.iconst 1, 1) := by decide +kernel
theorem dX3_callBack_122 : decode cX3_callBack 122 = .ok (.iconst 1, 1) := by decide +kernel
theorem dX3_callBack_123 : decode cX3_callBack 123 = .ok (.invokevirtual 135, 3) := by decide +kernel
theorem dX3_callBack_126 : decode cX3_callBack 126 = .ok (.aload_n 0, 1) := by decide +kernel
theorem dX3_callBack_127 : decode cX3_callBack 127 = .ok (.getfield 66, 3) := by decide +kernel
theorem dX3_callBack_130 : decode cX3_callBack 130 = .ok (.iload 6, 2) := by decide +kernel
theorem dX3_callBack_132 : decode cX3_callBack 132 = .ok (.iconst 1, 1) := by decide +kernel
theorem dX3_callBack_133 : decode cX3_callBack 133 = .ok (.invokevirtual 135, 3) := by decide +kernel
theorem dX3_callBack_136 : decode cX3_callBack 136 = .ok (.iinc 6 1, 3) := by decide +kernel
theorem dX3_callBack_139 : decode cX3_callBack 139 = .ok (.goto (-105), 3) := by decide +kernel
theorem dX3_callBack_142 : decode cX3_callBack 142 = .ok (.iload 5, 2) := by decide +kernel
theorem dX3_callBack_144 : decode cX3_callBack 144 = .ok (.ireturn, 1) := by decide +kernel
theorem dX3_takeAway_0 : decode cX3_takeAway 0 = .ok (.aload_n 0, 1) := by decide +kernel
theorem dX3_takeAway_1 : decode cX3_takeAway 1 = .ok (.getfield 37, 3) := by decide +kernel
theorem dX3_takeAway_4 : decode cX3_takeAway 4 = .ok (.iload_n 1, 1) := by decide +kernel
theorem dX3_takeAway_5 : decode cX3_takeAway 5 = .ok (.iload_n 2, 1) := by decide +kernel
theorem dX3_takeAway_6 : decode cX3_takeAway 6 = .ok (.invokevirtual 104, 3) := by decide +kernel
theorem dX3_takeAway_9 : decode cX3_takeAway 9 = .ok (.istore_n 3, 1) := by decide +kernel
theorem dX3_takeAway_10 : decode cX3_takeAway 10 = .ok (.aload_n 0, 1) := by decide +kernel
theorem dX3_takeAway_11 : decode cX3_takeAway 11 = .ok (.getfield 48, 3) := by decide +kernel
theorem dX3_takeAway_14 : decode cX3_takeAway 14 = .ok (.iconst 0, 1) := by decide +kernel
theorem dX3_takeAway_15 : decode cX3_takeAway 15 = .ok (.iconst 1, 1) := by decide +kernel
theorem dX3_takeAway_16 : decode cX3_takeAway 16 = .ok (.invokevirtual 135, 3) := by decide +kernel
theorem dX3_takeAway_19 : decode cX3_takeAway 19 = .ok (.aload_n 0, 1) := by decide +kernel
theorem dX3_takeAway_20 : decode cX3_takeAway 20 = .ok (.getfield 51, 3) := by decide +kernel
theorem dX3_takeAway_23 : decode cX3_takeAway 23 = .ok (.iload_n 2, 1) := by decide +kernel
theorem dX3_takeAway_24 : decode cX3_takeAway 24 = .ok (.iconst 1, 1) := by decide +kernel
theorem dX3_takeAway_25 : decode cX3_takeAway 25 = .ok (.invokevirtual 135, 3) := by decide +kernel
theorem dX3_takeAway_28 : decode cX3_takeAway 28 = .ok (.aload_n 0, 1) := by decide +kernel
theorem dX3_takeAway_29 : decode cX3_takeAway 29 = .ok (.getfield 63, 3) := by decide +kernel
theorem dX3_takeAway_32 : decode cX3_takeAway 32 = .ok (.iload_n 1, 1) := by decide +kernel
theorem dX3_takeAway_33 : decode cX3_takeAway 33 = .ok (.iconst 1, 1) := by decide +kernel
theorem dX3_takeAway_34 : decode cX3_takeAway 34 = .ok (.invokevirtual 135, 3) := by decide +kernel
theorem dX3_takeAway_37 : decode cX3_takeAway 37 = .ok (.aload_n 0, 1) := by decide +kernel
theorem dX3_takeAway_38 : decode cX3_takeAway 38 = .ok (.getfield 37, 3) := by decide +kernel
theorem dX3_takeAway_41 : decode cX3_takeAway 41 = .ok (.iload_n 1, 1) := by decide +kernel
theorem dX3_takeAway_42 : decode cX3_takeAway 42 = .ok (.iload_n 3, 1) := by decide +kernel
theorem dX3_takeAway_43 : decode cX3_takeAway 43 = .ok (.invokevirtual 115, 3) := by decide +kernel
theorem dX3_takeAway_46 : decode cX3_takeAway 46 = .ok (.ifCond .eq 20, 3) := by decide +kernel
theorem dX3_takeAway_49 : decode cX3_takeAway 49 = .ok (.aload_n 0, 1) := by decide +kernel
theorem dX3_takeAway_50 : decode cX3_takeAway 50 = .ok (.getfield 24, 3) := by decide +kernel
theorem dX3_takeAway_53 : decode cX3_takeAway 53 = .ok (.iload_n 2, 1) := by decide +kernel
theorem dX3_takeAway_54 : decode cX3_takeAway 54 = .ok (.aload_n 0, 1) := by decide +kernel
theorem dX3_takeAway_55 : decode cX3_takeAway 55 = .ok (.getfield 37, 3) := by decide +kernel
theorem dX3_takeAway_58 : decode cX3_takeAway 58 = .ok (.iload_n 1, 1) := by decide +kernel
theorem dX3_takeAway_59 : decode cX3_takeAway 59 = .ok (.iload_n 3, 1) := by decide +kernel
theorem dX3_takeAway_60 : decode cX3_takeAway 60 = .ok (.invokevirtual 112, 3) := by decide +kernel
theorem dX3_takeAway_63 : decode cX3_takeAway 63 = .ok (.invokevirtual 69, 3) := by decide +kernel
theorem dX3_takeAway_66 : decode cX3_takeAway 66 = .ok (.aload_n 0, 1) := by decide +kernel
theorem dX3_takeAway_67 : decode cX3_takeAway 67 = .ok (.getfield 37, 3) := by decide +kernel
theorem dX3_takeAway_70 : decode cX3_takeAway 70 = .ok (.iload_n 1, 1) := by decide +kernel
theorem dX3_takeAway_71 : decode cX3_takeAway 71 = .ok (.iload_n 3, 1) := by decide +kernel
theorem dX3_takeAway_72 : decode cX3_takeAway 72 = .ok (.invokevirtual 118, 3) := by decide +kernel
theorem dX3_takeAway_75 : decode cX3_takeAway 75 = .ok (.return_, 1) := by decide +kernel
theorem dX3_makeRoom_0 : decode cX3_makeRoom 0 = .ok (.aload_n 0, 1) := by decide +kernel
theorem dX3_makeRoom_1 : decode cX3_makeRoom 1 = .ok (.iload_n 1, 1) := by decide +kernel
theorem dX3_makeRoom_2 : decode cX3_makeRoom 2 = .ok (.invokevirtual 163, 3) := by decide +kernel
theorem dX3_makeRoom_5 : decode cX3_makeRoom 5 = .ok (.istore_n 2, 1) := by decide +kernel
theorem dX3_makeRoom_6 : decode cX3_makeRoom 6 = .ok (.iconst 0, 1) := by decide +kernel
theorem dX3_makeRoom_7 : decode cX3_makeRoom 7 = .ok (.istore_n 3, 1) := by decide +kernel
theorem dX3_makeRoom_8 : decode cX3_makeRoom 8 = .ok (.iload_n 3, 1) := by decide +kernel
theorem dX3_makeRoom_9 : decode cX3_makeRoom 9 = .ok (.iload_n 2, 1) := by decide +kernel
theorem dX3_makeRoom_10 : decode cX3_makeRoom 10 = .ok (.if_icmp .ge 16, 3) := by decide +kernel
theorem dX3_makeRoom_13 : decode cX3_makeRoom 13 = .ok (.aload_n 0, 1) := by decide +kernel
theorem dX3_makeRoom_14 : decode cX3_makeRoom 14 = .ok (.iload_n 1, 1) := by decide +kernel
theorem dX3_makeRoom_15 : decode cX3_makeRoom 15 = .ok (.iconst 0, 1) := by decide +kernel
theorem dX3_makeRoom_16 : decode cX3_makeRoom 16 = .ok (.invokevirtual 166, 3) := by decide +kernel
theorem dX3_makeRoom_19 : decode cX3_makeRoom 19 = .ok (.pop, 1) := by decide +kernel
theorem dX3_makeRoom_20 : decode cX3_makeRoom 20 = .ok (.iinc 3 1, 3) := by decide +kernel
theorem dX3_makeRoom_23 : decode cX3_makeRoom 23 = .ok (.goto (-15), 3) := by decide +kernel
theorem dX3_makeRoom_26 : decode cX3_makeRoom 26 = .ok (.return_, 1) := by decide +kernel
