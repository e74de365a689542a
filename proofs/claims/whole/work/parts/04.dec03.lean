theorem dX9_layN_0 : decode cX9_layN 0 = .ok (.aload_n 0, 1) := by decide +kernel
theorem dX9_layN_1 : decode cX9_layN 1 = .ok (.getfield 7, 3) := by decide +kernel
theorem dX9_layN_4 : decode cX9_layN 4 = .ok (.bipush 8, 2) := by decide +kernel
theorem dX9_layN_6 : decode cX9_layN 6 = .ok (.iconst 5, 1) := by decide +kernel
theorem dX9_layN_7 : decode cX9_layN 7 = .ok (.iload_n 1, 1) := by decide +kernel
theorem dX9_layN_8 : decode cX9_layN 8 = .ok (.imul, 1) := by decide +kernel
theorem dX9_layN_9 : decode cX9_layN 9 = .ok (.iadd, 1) := by decide +kernel
theorem dX9_layN_10 : decode cX9_layN 10 = .ok (.iload_n 2, 1) := by decide +kernel
theorem dX9_layN_11 : decode cX9_layN 11 = .ok (.iadd, 1) := by decide +kernel
theorem dX9_layN_12 : decode cX9_layN 12 = .ok (.iload_n 3, 1) := by decide +kernel
theorem dX9_layN_13 : decode cX9_layN 13 = .ok (.iastore, 1) := by decide +kernel
theorem dX9_layN_14 : decode cX9_layN 14 = .ok (.return_, 1) := by decide +kernel
theorem dX9_ofR_0 : decode cX9_ofR 0 = .ok (.aload_n 0, 1) := by decide +kernel
theorem dX9_ofR_1 : decode cX9_ofR 1 = .ok (.getfield 7, 3) := by decide +kernel
theorem dX9_ofR_4 : decode cX9_ofR 4 = .ok (.sipush 128, 3) := by decide +kernel
theorem dX9_ofR_7 : decode cX9_ofR 7 = .ok (.iconst 5, 1) := by decide +kernel
theorem dX9_ofR_8 : decode cX9_ofR 8 = .ok (.iload_n 1, 1) := by decide +kernel
theorem dX9_ofR_9 : decode cX9_ofR 9 = .ok (.imul, 1) := by decide +kernel
theorem dX9_ofR_10 : decode cX9_ofR 10 = .ok (.iadd, 1) := by decide +kernel
theorem dX9_ofR_11 : decode cX9_ofR 11 = .ok (.iload_n 2, 1) := by decide +kernel
theorem dX9_ofR_12 : decode cX9_ofR 12 = .ok (.iadd, 1) := by decide +kernel
theorem dX9_ofR_13 : decode cX9_ofR 13 = .ok (.iaload, 1) := by decide +kernel
theorem dX9_ofR_14 : decode cX9_ofR 14 = .ok (.ireturn, 1) := by decide +kernel
theorem dX9_moreR_0 : decode cX9_moreR 0 = .ok (.aload_n 0, 1) := by decide +kernel
theorem dX9_moreR_1 : decode cX9_moreR 1 = .ok (.getfield 7, 3) := by decide +kernel
theorem dX9_moreR_4 : decode cX9_moreR 4 = .ok (.sipush 128, 3) := by decide +kernel
theorem dX9_moreR_7 : decode cX9_moreR 7 = .ok (.iconst 5, 1) := by decide +kernel
theorem dX9_moreR_8 : decode cX9_moreR 8 = .ok (.iload_n 1, 1) := by decide +kernel
theorem dX9_moreR_9 : decode cX9_moreR 9 = .ok (.imul, 1) := by decide +kernel
theorem dX9_moreR_10 : decode cX9_moreR 10 = .ok (.iadd, 1) := by decide +kernel
theorem dX9_moreR_11 : decode cX9_moreR 11 = .ok (.iload_n 2, 1) := by decide +kernel
theorem dX9_moreR_12 : decode cX9_moreR 12 = .ok (.iadd, 1) := by decide +kernel
theorem dX9_moreR_13 : decode cX9_moreR 13 = .ok (.dup2, 1) := by decide +kernel
theorem dX9_moreR_14 : decode cX9_moreR 14 = .ok (.iaload, 1) := by decide +kernel
theorem dX9_moreR_15 : decode cX9_moreR 15 = .ok (.iload_n 3, 1) := by decide +kernel
theorem dX9_moreR_16 : decode cX9_moreR 16 = .ok (.iadd, 1) := by decide +kernel
theorem dX9_moreR_17 : decode cX9_moreR 17 = .ok (.iastore, 1) := by decide +kernel
theorem dX9_moreR_18 : decode cX9_moreR 18 = .ok (.return_, 1) := by decide +kernel
theorem dX9_ofC_0 : decode cX9_ofC 0 = .ok (.aload_n 0, 1) := by decide +kernel
theorem dX9_ofC_1 : decode cX9_ofC 1 = .ok (.getfield 7, 3) := by decide +kernel
theorem dX9_ofC_4 : decode cX9_ofC 4 = .ok (.sipush 208, 3) := by decide +kernel
theorem dX9_ofC_7 : decode cX9_ofC 7 = .ok (.bipush 24, 2) := by decide +kernel
theorem dX9_ofC_9 : decode cX9_ofC 9 = .ok (.iload_n 1, 1) := by decide +kernel
theorem dX9_ofC_10 : decode cX9_ofC 10 = .ok (.imul, 1) := by decide +kernel
theorem dX9_ofC_11 : decode cX9_ofC 11 = .ok (.iadd, 1) := by decide +kernel
theorem dX9_ofC_12 : decode cX9_ofC 12 = .ok (.iconst 3, 1) := by decide +kernel
theorem dX9_ofC_13 : decode cX9_ofC 13 = .ok (.iload_n 2, 1) := by decide +kernel
theorem dX9_ofC_14 : decode cX9_ofC 14 = .ok (.imul, 1) := by decide +kernel
theorem dX9_ofC_15 : decode cX9_ofC 15 = .ok (.iadd, 1) := by decide +kernel
theorem dX9_ofC_16 : decode cX9_ofC 16 = .ok (.iload_n 3, 1) := by decide +kernel
theorem dX9_ofC_17 : decode cX9_ofC 17 = .ok (.iadd, 1) := by decide +kernel
theorem dX9_ofC_18 : decode cX9_ofC 18 = .ok (.iaload, 1) := by decide +kernel
theorem dX9_ofC_19 : decode cX9_ofC 19 = .ok (.ireturn, 1) := by decide +kernel
theorem dX9_layC_0 : decode cX9_layC 0 = .ok (.aload_n 0, 1) := by decide +kernel
theorem dX9_layC_1 : decode cX9_layC 1 = .ok (.getfield 7, 3) := by decide +kernel
theorem dX9_layC_4 : decode cX9_layC 4 = .ok (.sipush 208, 3) := by decide +kernel
theorem dX9_layC_7 : decode cX9_layC 7 = .ok (.bipush 24, 2) := by decide +kernel
theorem dX9_layC_9 : decode cX9_layC 9 = .ok (.iload_n 1, 1) := by decide +kernel
theorem dX9_layC_10 : decode cX9_layC 10 = .ok (.imul, 1) := by decide +kernel
theorem dX9_layC_11 : decode cX9_layC 11 = .ok (.iadd, 1) := by decide +kernel
theorem dX9_layC_12 : decode cX9_layC 12 = .ok (.iconst 3, 1) := by decide +kernel
theorem dX9_layC_13 : decode cX9_layC 13 = .ok (.iload_n 2, 1) := by decide +kernel
theorem dX9_layC_14 : decode cX9_layC 14 = .ok (.imul, 1) := by decide +kernel
theorem dX9_layC_15 : decode cX9_layC 15 = .ok (.iadd, 1) := by decide +kernel
theorem dX9_layC_16 : decode cX9_layC 16 = .ok (.iload_n 3, 1) := by decide +kernel
theorem dX9_layC_17 : decode cX9_layC 17 = .ok (.iadd, 1) := by decide +kernel
theorem dX9_layC_18 : decode cX9_layC 18 = .ok (.iload 4, 2) := by decide +kernel
theorem dX9_layC_20 : decode cX9_layC 20 = .ok (.iastore, 1) := by decide +kernel
theorem dX9_layC_21 : decode cX9_layC 21 = .ok (.return_, 1) := by decide +kernel
theorem dX9_keep_0 : decode cX9_keep 0 = .ok (.aload_n 0, 1) := by decide +kernel
theorem dX9_keep_1 : decode cX9_keep 1 = .ok (.getfield 39, 3) := by decide +kernel
theorem dX9_keep_4 : decode cX9_keep 4 = .ok (.bipush 6, 2) := by decide +kernel
theorem dX9_keep_6 : decode cX9_keep 6 = .ok (.if_icmp .ne 26, 3) := by decide +kernel
theorem dX9_keep_9 : decode cX9_keep 9 = .ok (.aload_n 0, 1) := by decide +kernel
theorem dX9_keep_10 : decode cX9_keep 10 = .ok (.aload_n 0, 1) := by decide +kernel
theorem dX9_keep_11 : decode cX9_keep 11 = .ok (.getfield 43, 3) := by decide +kernel
theorem dX9_keep_14 : decode cX9_keep 14 = .ok (.iconst 1, 1) := by decide +kernel
theorem dX9_keep_15 : decode cX9_keep 15 = .ok (.iadd, 1) := by decide +kernel
theorem dX9_keep_16 : decode cX9_keep 16 = .ok (.bipush 6, 2) := by decide +kernel
theorem dX9_keep_18 : decode cX9_keep 18 = .ok (.irem, 1) := by decide +kernel
theorem dX9_keep_19 : decode cX9_keep 19 = .ok (.putfield 43, 3) := by decide +kernel
theorem dX9_keep_22 : decode cX9_keep 22 = .ok (.aload_n 0, 1) := by decide +kernel
theorem dX9_keep_23 : decode cX9_keep 23 = .ok (.dup, 1) := by decide +kernel
theorem dX9_keep_24 : decode cX9_keep 24 = .ok (.getfield 39, 3) := by decide +kernel
theorem dX9_keep_27 : decode cX9_keep 27 = .ok (.iconst 1, 1) := by decide +kernel
theorem dX9_keep_28 : decode cX9_keep 28 = .ok (.isub, 1) := by decide +kernel
theorem dX9_keep_29 : decode cX9_keep 29 = .ok (.putfield 39, 3) := by decide +kernel
theorem dX9_keep_32 : decode cX9_keep 32 = .ok (.aload_n 0, 1) := by decide +kernel
theorem dX9_keep_33 : decode cX9_keep 33 = .ok (.getfield 43, 3) := by decide +kernel
theorem dX9_keep_36 : decode cX9_keep 36 = .ok (.aload_n 0, 1) := by decide +kernel
theorem dX9_keep_37 : decode cX9_keep 37 = .ok (.getfield 39, 3) := by decide +kernel
theorem dX9_keep_40 : decode cX9_keep 40 = .ok (.iadd, 1) := by decide +kernel
theorem dX9_keep_41 : decode cX9_keep 41 = .ok (.bipush 6, 2) := by decide +kernel
theorem dX9_keep_43 : decode cX9_keep 43 = .ok (.irem, 1) := by decide +kernel
theorem dX9_keep_44 : decode cX9_keep 44 = .ok (.istore_n 1, 1) := by decide +kernel
theorem dX9_keep_45 : decode cX9_keep 45 = .ok (.iconst 0, 1) := by decide +kernel
theorem dX9_keep_46 : decode cX9_keep 46 = .ok (.istore_n 2, 1) := by decide +kernel
theorem dX9_keep_47 : decode cX9_keep 47 = .ok (.iload_n 2, 1) := by decide +kernel
theorem dX9_keep_48 : decode cX9_keep 48 = .ok (.sipush 652, 3) := by decide +kernel
theorem dX9_keep_51 : decode cX9_keep 51 = .ok (.if_icmp .ge 27, 3) := by decide +kernel
theorem dX9_keep_54 : decode cX9_keep 54 = .ok (.aload_n 0, 1) := by decide +kernel
theorem dX9_keep_55 : decode cX9_keep 55 = .ok (.getfield 13, 3) := by decide +kernel
theorem dX9_keep_58 : decode cX9_keep 58 = .ok (.sipush 652, 3) := by decide +kernel
theorem dX9_keep_61 : decode cX9_keep 61 = .ok (.iload_n 1, 1) := by decide +kernel
theorem dX9_keep_62 : decode cX9_keep 62 = .ok (.imul, 1) := by decide +kernel
theorem dX9_keep_63 : decode cX9_keep 63 = .ok (.iload_n 2, 1) := by decide +kernel
theorem dX9_keep_64 : decode cX9_keep 64 = .ok (.iadd, 1) := by decide +kernel
theorem dX9_keep_65 : decode cX9_keep 65 = .ok (.aload_n 0, 1) := by decide +kernel
theorem dX9_keep_66 : decode cX9_keep 66 = .ok (.getfield 7, 3) := by decide +kernel
theorem dX9_keep_69 : decode cX9_keep 69 = .ok (.iload_n 2, 1) := by decide +kernel
theorem dX9_keep_70 : decode cX9_keep 70 = .ok (.iaload, 1) := by decide +kernel
theorem dX9_keep_71 : decode cX9_keep 71 = .ok (.iastore, 1) := by decide +kernel
theorem dX9_keep_72 : decode cX9_keep 72 = .ok (.iinc 2 1, 3) := by decide +kernel
theorem dX9_keep_75 : decode cX9_keep 75 = .ok (.goto (-28), 3) := by decide +kernel
theorem dX9_keep_78 : decode cX9_keep 78 = .ok (.aload_n 0, 1) := by decide +kernel
theorem dX9_keep_79 : decode cX9_keep 79 = .ok (.dup, 1) := by decide +kernel
theorem dX9_keep_80 : decode cX9_keep 80 = .ok (.getfield 39, 3) := by decide +kernel
theorem dX9_keep_83 : decode cX9_keep 83 = .ok (.iconst 1, 1) := by decide +kernel
theorem dX9_keep_84 : decode cX9_keep 84 = .ok (.iadd, 1) := by decide +kernel
theorem dX9_keep_85 : decode cX9_keep 85 = .ok (.putfield 39, 3) := by decide +kernel
theorem dX9_keep_88 : decode cX9_keep 88 = .ok (.return_, 1) := by decide +kernel
theorem dX9_keepIf_0 : decode cX9_keepIf 0 = .ok (.iload_n 1, 1) := by decide +kernel
theorem dX9_keepIf_1 : decode cX9_keepIf 1 = .ok (.ifCond .eq 7, 3) := by decide +kernel
theorem dX9_keepIf_4 : decode cX9_keepIf 4 = .ok (.aload_n 0, 1) := by decide +kernel
theorem dX9_keepIf_5 : decode cX9_keepIf 5 = .ok (.invokevirtual 46, 3) := by decide +kernel
theorem dX9_keepIf_8 : decode cX9_keepIf 8 = .ok (.return_, 1) := by decide +kernel
theorem dX9_layAside_0 : decode cX9_layAside 0 = .ok (.iconst 0, 1) := by decide +kernel
theorem dX9_layAside_1 : decode cX9_layAside 1 = .ok (.istore_n 1, 1) := by decide +kernel
theorem dX9_layAside_2 : decode cX9_layAside 2 = .ok (.iload_n 1, 1) := by decide +kernel
theorem dX9_layAside_3 : decode cX9_layAside 3 = .ok (.sipush 652, 3) := by decide +kernel
theorem dX9_layAside_6 : decode cX9_layAside 6 = .ok (.if_icmp .ge 21, 3) := by decide +kernel
theorem dX9_layAside_9 : decode cX9_layAside 9 = .ok (.aload_n 0, 1) := by decide +kernel
theorem dX9_layAside_10 : decode cX9_layAside 10 = .ok (.getfield 23, 3) := by decide +kernel
theorem dX9_layAside_13 : decode cX9_layAside 13 = .ok (.iload_n 1, 1) := by decide +kernel
theorem dX9_layAside_14 : decode cX9_layAside 14 = .ok (.aload_n 0, 1) := by decide +kernel
theorem dX9_layAside_15 : decode cX9_layAside 15 = .ok (.getfield 7, 3) := by decide +kernel
theorem dX9_layAside_18 : decode cX9_layAside 18 = .ok (.iload_n 1, 1) := by decide +kernel
theorem dX9_layAside_19 : decode cX9_layAside 19 = .ok (.iaload, 1) := by decide +kernel
theorem dX9_layAside_20 : decode cX9_layAside 20 = .ok (.iastore, 1) := by decide +kernel
theorem dX9_layAside_21 : decode cX9_layAside 21 = .ok (.iinc 1 1, 3) := by decide +kernel
theorem dX9_layAside_24 : decode cX9_layAside 24 = .ok (.goto (-22), 3) := by decide +kernel
theorem dX9_layAside_27 : decode cX9_layAside 27 = .ok (.return_, 1) := by decide +kernel
theorem dX9_layBack_0 : decode cX9_layBack 0 = .ok (.iconst 0, 1) := by decide +kernel
theorem dX9_layBack_1 : decode cX9_layBack 1 = .ok (.istore_n 1, 1) := by decide +kernel
theorem dX9_layBack_2 : decode cX9_layBack 2 = .ok (.iload_n 1, 1) := by decide +kernel
theorem dX9_layBack_3 : decode cX9_layBack 3 = .ok (.sipush 652, 3) := by decide +kernel
theorem dX9_layBack_6 : decode cX9_layBack 6 = .ok (.if_icmp .ge 21, 3) := by decide +kernel
theorem dX9_layBack_9 : decode cX9_layBack 9 = .ok (.aload_n 0, 1) := by decide +kernel
theorem dX9_layBack_10 : decode cX9_layBack 10 = .ok (.getfield 7, 3) := by decide +kernel
theorem dX9_layBack_13 : decode cX9_layBack 13 = .ok (.iload_n 1, 1) := by decide +kernel
theorem dX9_layBack_14 : decode cX9_layBack 14 = .ok (.aload_n 0, 1) := by decide +kernel
theorem dX9_layBack_15 : decode cX9_layBack 15 = .ok (.getfield 23, 3) := by decide +kernel
theorem dX9_layBack_18 : decode cX9_layBack 18 = .ok (.iload_n 1, 1) := by decide +kernel
theorem dX9_layBack_19 : decode cX9_layBack 19 = .ok (.iaload, 1) := by decide +kernel
theorem dX9_layBack_20 : decode cX9_layBack 20 = .ok (.iastore, 1) := by decide +kernel
theorem dX9_layBack_21 : decode cX9_layBack 21 = .ok (.iinc 1 1, 3) := by decide +kernel
theorem dX9_layBack_24 : decode cX9_layBack 24 = .ok (.goto (-22), 3) := by decide +kernel
theorem dX9_layBack_27 : decode cX9_layBack 27 = .ok (.return_, 1) := by decide +kernel
theorem dX9_placeOf_0 : decode cX9_placeOf 0 = .ok (.iconst 0, 1) := by decide +kernel
theorem dX9_placeOf_1 : decode cX9_placeOf 1 = .ok (.istore_n 3, 1) := by decide +kernel
theorem dX9_placeOf_2 : decode cX9_placeOf 2 = .ok (.iload_n 3, 1) := by decide +kernel
theorem dX9_placeOf_3 : decode cX9_placeOf 3 = .ok (.aload_n 0, 1) := by decide +kernel
theorem dX9_placeOf_4 : decode cX9_placeOf 4 = .ok (.iload_n 1, 1) := by decide +kernel
theorem dX9_placeOf_5 : decode cX9_placeOf 5 = .ok (.iconst 0, 1) := by decide +kernel
theorem dX9_placeOf_6 : decode cX9_placeOf 6 = .ok (.invokevirtual 49, 3) := by decide +kernel
theorem dX9_placeOf_9 : decode cX9_placeOf 9 = .ok (.if_icmp .ge 20, 3) := by decide +kernel
theorem dX9_placeOf_12 : decode cX9_placeOf 12 = .ok (.aload_n 0, 1) := by decide +kernel
theorem dX9_placeOf_13 : decode cX9_placeOf 13 = .ok (.iload_n 1, 1) := by decide +kernel
theorem dX9_placeOf_14 : decode cX9_placeOf 14 = .ok (.iload_n 3, 1) := by decide +kernel
theorem dX9_placeOf_15 : decode cX9_placeOf 15 = .ok (.iconst 0, 1) := by decide +kernel
theorem dX9_placeOf_16 : decode cX9_placeOf 16 = .ok (.invokevirtual 53, 3) := by decide +kernel
theorem dX9_placeOf_19 : decode cX9_placeOf 19 = .ok (.iload_n 2, 1) := by decide +kernel
theorem dX9_placeOf_20 : decode cX9_placeOf 20 = .ok (.if_icmp .eq 9, 3) := by decide +kernel
theorem dX9_placeOf_23 : decode cX9_placeOf 23 = .ok (.iinc 3 1, 3) := by decide +kernel
theorem dX9_placeOf_26 : decode cX9_placeOf 26 = .ok (.goto (-24), 3) := by decide +kernel
theorem dX9_placeOf_29 : decode cX9_placeOf 29 = .ok (.iload_n 3, 1) := by decide +kernel
theorem dX9_placeOf_30 : decode cX9_placeOf 30 = .ok (.aload_n 0, 1) := by decide +kernel
theorem dX9_placeOf_31 : decode cX9_placeOf 31 = .ok (.iload_n 1, 1) := by decide +kernel
theorem dX9_placeOf_32 : decode cX9_placeOf 32 = .ok (.iconst 0, 1) := by decide +kernel
theorem dX9_placeOf_33 : decode cX9_placeOf 33 = .ok (.invokevirtual 49, 3) := by decide +kernel
theorem dX9_placeOf_36 : decode cX9_placeOf 36 = .ok (.if_icmp .ge 7, 3) := by decide +kernel
theorem dX9_placeOf_39 : decode cX9_placeOf 39 = .ok (.iload_n 3, 1) := by decide +kernel
theorem dX9_placeOf_40 : decode cX9_placeOf 40 = .ok (.goto 5, 3) := by decide +kernel
theorem dX9_placeOf_43 : decode cX9_placeOf 43 = .ok (.bipush (-6), 2) := by decide +kernel
theorem dX9_placeOf_45 : decode cX9_placeOf 45 = .ok (.ireturn, 1) := by decide +kernel
theorem dX9_takeOff_0 : decode cX9_takeOff 0 = .ok (.aload_n 0, 1) := by decide +kernel
theorem dX9_takeOff_1 : decode cX9_takeOff 1 = .ok (.iload_n 1, 1) := by decide +kernel
theorem dX9_takeOff_2 : decode cX9_takeOff 2 = .ok (.iconst 0, 1) := by decide +kernel
theorem dX9_takeOff_3 : decode cX9_takeOff 3 = .ok (.iconst (-1), 1) := by decide +kernel
theorem dX9_takeOff_4 : decode cX9_takeOff 4 = .ok (.invokevirtual 57, 3) := by decide +kernel
theorem dX9_takeOff_7 : decode cX9_takeOff 7 = .ok (.sipush 208, 3) := by decide +kernel
theorem dX9_takeOff_10 : decode cX9_takeOff 10 = .ok (.bipush 24, 2) := by decide +kernel
theorem dX9_takeOff_12 : decode cX9_takeOff 12 = .ok (.iload_n 1, 1) := by decide +kernel
theorem dX9_takeOff_13 : decode cX9_takeOff 13 = .ok (.imul, 1) := by decide +kernel
theorem dX9_takeOff_14 : decode cX9_takeOff 14 = .ok (.iadd, 1) := by decide +kernel
theorem dX9_takeOff_15 : decode cX9_takeOff 15 = .ok (.iconst 3, 1) := by decide +kernel
theorem dX9_takeOff_16 : decode cX9_takeOff 16 = .ok (.iload_n 2, 1) := by decide +kernel
theorem dX9_takeOff_17 : decode cX9_takeOff 17 = .ok (.imul, 1) := by decide +kernel
theorem dX9_takeOff_18 : decode cX9_takeOff 18 = .ok (.iadd, 1) := by decide +kernel
theorem dX9_takeOff_19 : decode cX9_takeOff 19 = .ok (.istore_n 3, 1) := by decide +kernel
theorem dX9_takeOff_20 : decode cX9_takeOff 20 = .ok (.iload_n 3, 1) := by decide +kernel
theorem dX9_takeOff_21 : decode cX9_takeOff 21 = .ok (.sipush 208, 3) := by decide +kernel
theorem dX9_takeOff_24 : decode cX9_takeOff 24 = .ok (.bipush 24, 2) := by decide +kernel
theorem dX9_takeOff_26 : decode cX9_takeOff 26 = .ok (.iload_n 1, 1) := by decide +kernel
theorem dX9_takeOff_27 : decode cX9_takeOff 27 = .ok (.imul, 1) := by decide +kernel
theorem dX9_takeOff_28 : decode cX9_takeOff 28 = .ok (.iadd, 1) := by decide +kernel
theorem dX9_takeOff_29 : decode cX9_takeOff 29 = .ok (.iconst 3, 1) := by decide +kernel
theorem dX9_takeOff_30 : decode cX9_takeOff 30 = .ok (.aload_n 0, 1) := by decide +kernel
theorem dX9_takeOff_31 : decode cX9_takeOff 31 = .ok (.iload_n 1, 1) := by decide +kernel
theorem dX9_takeOff_32 : decode cX9_takeOff 32 = .ok (.iconst 0, 1) := by decide +kernel
theorem dX9_takeOff_33 : decode cX9_takeOff 33 = .ok (.invokevirtual 49, 3) := by decide +kernel
theorem dX9_takeOff_36 : decode cX9_takeOff 36 = .ok (.imul, 1) := by decide +kernel
theorem dX9_takeOff_37 : decode cX9_takeOff 37 = .ok (.iadd, 1) := by decide +kernel
theorem dX9_takeOff_38 : decode cX9_takeOff 38 = .ok (.if_icmp .ge 23, 3) := by decide +kernel
theorem dX9_takeOff_41 : decode cX9_takeOff 41 = .ok (.aload_n 0, 1) := by decide +kernel
theorem dX9_takeOff_42 : decode cX9_takeOff 42 = .ok (.getfield 7, 3) := by decide +kernel
theorem dX9_takeOff_45 : decode cX9_takeOff 45 = .ok (.iload_n 3, 1) := by decide +kernel
theorem dX9_takeOff_46 : decode cX9_takeOff 46 = .ok (.aload_n 0, 1) := by decide +kernel
theorem dX9_takeOff_47 : decode cX9_takeOff 47 = .ok (.getfield 7, 3) := by decide +kernel
theorem dX9_takeOff_50 : decode cX9_takeOff 50 = .ok (.iload_n 3, 1) := by decide +kernel
theorem dX9_takeOff_51 : decode cX9_takeOff 51 = .ok (.iconst 3, 1) := by decide +kernel
theorem dX9_takeOff_52 : decode cX9_takeOff 52 = .ok (.iadd, 1) := by decide +kernel
theorem dX9_takeOff_53 : decode cX9_takeOff 53 = .ok (.iaload, 1) := by decide +kernel
theorem dX9_takeOff_54 : decode cX9_takeOff 54 = .ok (.iastore, 1) := by decide +kernel
theorem dX9_takeOff_55 : decode cX9_takeOff 55 = .ok (.iinc 3 1, 3) := by decide +kernel
theorem dX9_takeOff_58 : decode cX9_takeOff 58 = .ok (.goto (-38), 3) := by decide +kernel
theorem dX9_takeOff_61 : decode cX9_takeOff 61 = .ok (.return_, 1) := by decide +kernel
theorem dX9_layOn_0 : decode cX9_layOn 0 = .ok (.aload_n 0, 1) := by decide +kernel
theorem dX9_layOn_1 : decode cX9_layOn 1 = .ok (.iload_n 1, 1) := by decide +kernel
theorem dX9_layOn_2 : decode cX9_layOn 2 = .ok (.iconst 0, 1) := by decide +kernel
theorem dX9_layOn_3 : decode cX9_layOn 3 = .ok (.invokevirtual 49, 3) := by decide +kernel
theorem dX9_layOn_6 : decode cX9_layOn 6 = .ok (.istore 5, 2) := by decide +kernel
theorem dX9_layOn_8 : decode cX9_layOn 8 = .ok (.aload_n 0, 1) := by decide +kernel
theorem dX9_layOn_9 : decode cX9_layOn 9 = .ok (.iload_n 1, 1) := by decide +kernel
theorem dX9_layOn_10 : decode cX9_layOn 10 = .ok (.iload 5, 2) := by decide +kernel
theorem dX9_layOn_12 : decode cX9_layOn 12 = .ok (.iconst 0, 1) := by decide +kernel
theorem dX9_layOn_13 : decode cX9_layOn 13 = .ok (.iload_n 2, 1) := by decide +kernel
theorem dX9_layOn_14 : decode cX9_layOn 14 = .ok (.invokevirtual 61, 3) := by decide +kernel
theorem dX9_layOn_17 : decode cX9_layOn 17 = .ok (.aload_n 0, 1) := by decide +kernel
theorem dX9_layOn_18 : decode cX9_layOn 18 = .ok (.iload_n 1, 1) := by decide +kernel
theorem dX9_layOn_19 : decode cX9_layOn 19 = .ok (.iload 5, 2) := by decide +kernel
theorem dX9_layOn_21 : decode cX9_layOn 21 = .ok (.iconst 1, 1) := by decide +kernel
theorem dX9_layOn_22 : decode cX9_layOn 22 = .ok (.iload_n 3, 1) := by decide +kernel
theorem dX9_layOn_23 : decode cX9_layOn 23 = .ok (.invokevirtual 61, 3) := by decide +kernel
theorem dX9_layOn_26 : decode cX9_layOn 26 = .ok (.aload_n 0, 1) := by decide +kernel
theorem dX9_layOn_27 : decode cX9_layOn 27 = .ok (.iload_n 1, 1) := by decide +kernel
theorem dX9_layOn_28 : decode cX9_layOn 28 = .ok (.iload 5, 2) := by decide +kernel
theorem dX9_layOn_30 : decode cX9_layOn 30 = .ok (.iconst 2, 1) := by decide +kernel
theorem dX9_layOn_31 : decode cX9_layOn 31 = .ok (.iload 4, 2) := by decide +kernel
theorem dX9_layOn_33 : decode cX9_layOn 33 = .ok (.invokevirtual 61, 3) := by decide +kernel
theorem dX9_layOn_36 : decode cX9_layOn 36 = .ok (.aload_n 0, 1) := by decide +kernel
theorem dX9_layOn_37 : decode cX9_layOn 37 = .ok (.iload_n 1, 1) := by decide +kernel
theorem dX9_layOn_38 : decode cX9_layOn 38 = .ok (.iconst 0, 1) := by decide +kernel
theorem dX9_layOn_39 : decode cX9_layOn 39 = .ok (.iconst 1, 1) := by decide +kernel
theorem dX9_layOn_40 : decode cX9_layOn 40 = .ok (.invokevirtual 57, 3) := by decide +kernel
theorem dX9_layOn_43 : decode cX9_layOn 43 = .ok (.return_, 1) := by decide +kernel
theorem dX9_use_0 : decode cX9_use 0 = .ok (.aload_n 0, 1) := by decide +kernel
theorem dX9_use_1 : decode cX9_use 1 = .ok (.iload_n 1, 1) := by decide +kernel
theorem dX9_use_2 : decode cX9_use 2 = .ok (.iload_n 2, 1) := by decide +kernel
theorem dX9_use_3 : decode cX9_use 3 = .ok (.iconst 0, 1) := by decide +kernel
theorem dX9_use_4 : decode cX9_use 4 = .ok (.invokevirtual 53, 3) := by decide +kernel
theorem dX9_use_7 : decode cX9_use 7 = .ok (.istore_n 3, 1) := by decide +kernel
theorem dX9_use_8 : decode cX9_use 8 = .ok (.aload_n 0, 1) := by decide +kernel
theorem dX9_use_9 : decode cX9_use 9 = .ok (.iload_n 1, 1) := by decide +kernel
theorem dX9_use_10 : decode cX9_use 10 = .ok (.iload_n 2, 1) := by decide +kernel
theorem dX9_use_11 : decode cX9_use 11 = .ok (.iconst 1, 1) := by decide +kernel
theorem dX9_use_12 : decode cX9_use 12 = .ok (.invokevirtual 53, 3) := by decide +kernel
theorem dX9_use_15 : decode cX9_use 15 = .ok (.istore 4, 2) := by decide +kernel
theorem dX9_use_17 : decode cX9_use 17 = .ok (.aload_n 0, 1) := by decide +kernel
theorem dX9_use_18 : decode cX9_use 18 = .ok (.iload_n 1, 1) := by decide +kernel
theorem dX9_use_19 : decode cX9_use 19 = .ok (.iload_n 2, 1) := by decide +kernel
theorem dX9_use_20 : decode cX9_use 20 = .ok (.iconst 2, 1) := by decide +kernel
theorem dX9_use_21 : decode cX9_use 21 = .ok (.invokevirtual 53, 3) := by decide +kernel
theorem dX9_use_24 : decode cX9_use 24 = .ok (.istore 5, 2) := by decide +kernel
theorem dX9_use_26 : decode cX9_use 26 = .ok (.aload_n 0, 1) := by decide +kernel
theorem dX9_use_27 : decode cX9_use 27 = .ok (.iload_n 1, 1) := by decide +kernel
theorem dX9_use_28 : decode cX9_use 28 = .ok (.iload_n 2, 1) := by decide +kernel
theorem dX9_use_29 : decode cX9_use 29 = .ok (.invokevirtual 65, 3) := by decide +kernel
theorem dX9_use_32 : decode cX9_use 32 = .ok (.aload_n 0, 1) := by decide +kernel
theorem dX9_use_33 : decode cX9_use 33 = .ok (.iload_n 1, 1) := by decide +kernel
theorem dX9_use_34 : decode cX9_use 34 = .ok (.iload_n 3, 1) := by decide +kernel
theorem dX9_use_35 : decode cX9_use 35 = .ok (.iload 4, 2) := by decide +kernel
theorem dX9_use_37 : decode cX9_use 37 = .ok (.iload 5, 2) := by decide +kernel
theorem dX9_use_39 : decode cX9_use 39 = .ok (.invokevirtual 69, 3) := by decide +kernel
theorem dX9_use_42 : decode cX9_use 42 = .ok (.return_, 1) := by decide +kernel
theorem dX9_giveBack_0 : decode cX9_giveBack 0 = .ok (.aload_n 0, 1) := by decide +kernel
theorem dX9_giveBack_1 : decode cX9_giveBack 1 = .ok (.iload_n 1, 1) := by decide +kernel
theorem dX9_giveBack_2 : decode cX9_giveBack 2 = .ok (.iload_n 2, 1) := by decide +kernel
theorem dX9_giveBack_3 : decode cX9_giveBack 3 = .ok (.iconst 2, 1) := by decide +kernel
theorem dX9_giveBack_4 : decode cX9_giveBack 4 = .ok (.invokevirtual 53, 3) := by decide +kernel
theorem dX9_giveBack_7 : decode cX9_giveBack 7 = .ok (.iconst 1, 1) := by decide +kernel
theorem dX9_giveBack_8 : decode cX9_giveBack 8 = .ok (.if_icmp .ne 22, 3) := by decide +kernel
theorem dX9_giveBack_11 : decode cX9_giveBack 11 = .ok (.aload_n 0, 1) := by decide +kernel
theorem dX9_giveBack_12 : decode cX9_giveBack 12 = .ok (.aload_n 0, 1) := by decide +kernel
theorem dX9_giveBack_13 : decode cX9_giveBack 13 = .ok (.iload_n 1, 1) := by decide +kernel
theorem dX9_giveBack_14 : decode cX9_giveBack 14 = .ok (.iload_n 2, 1) := by decide +kernel
theorem dX9_giveBack_15 : decode cX9_giveBack 15 = .ok (.iconst 0, 1) := by decide +kernel
theorem dX9_giveBack_16 : decode cX9_giveBack 16 = .ok (.invokevirtual 53, 3) := by decide +kernel
theorem dX9_giveBack_19 : decode cX9_giveBack 19 = .ok (.iconst 0, 1) := by decide +kernel
theorem dX9_giveBack_20 : decode cX9_giveBack 20 = .ok (.aload_n 0, 1) := by decide +kernel
theorem dX9_giveBack_21 : decode cX9_giveBack 21 = .ok (.iload_n 1, 1) := by decide +kernel
theorem dX9_giveBack_22 : decode cX9_giveBack 22 = .ok (.iload_n 2, 1) := by decide +kernel
theorem dX9_giveBack_23 : decode cX9_giveBack 23 = .ok (.iconst 1, 1) := by decide +kernel
theorem dX9_giveBack_24 : decode cX9_giveBack 24 = .ok (.invokevirtual 53, 3) := by decide +kernel
theorem dX9_giveBack_27 : decode cX9_giveBack 27 = .ok (.invokevirtual 72, 3) := by decide +kernel
theorem dX9_giveBack_30 : decode cX9_giveBack 30 = .ok (.return_, 1) := by decide +kernel
theorem dX9_group_0 : decode cX9_group 0 = .ok (.iload_n 1, 1) := by decide +kernel
theorem dX9_group_1 : decode cX9_group 1 = .ok (.aload_n 0, 1) := by decide +kernel
theorem dX9_group_2 : decode cX9_group 2 = .ok (.getfield 7, 3) := by decide +kernel
theorem dX9_group_5 : decode cX9_group 5 = .ok (.iconst 1, 1) := by decide +kernel
theorem dX9_group_6 : decode cX9_group 6 = .ok (.iaload, 1) := by decide +kernel
theorem dX9_group_7 : decode cX9_group 7 = .ok (.idiv, 1) := by decide +kernel
theorem dX9_group_8 : decode cX9_group 8 = .ok (.ireturn, 1) := by decide +kernel
theorem dX9_called_0 : decode cX9_called 0 = .ok (.iconst 0, 1) := by decide +kernel
theorem dX9_called_1 : decode cX9_called 1 = .ok (.istore_n 2, 1) := by decide +kernel
theorem dX9_called_2 : decode cX9_called 2 = .ok (.iconst 0, 1) := by decide +kernel
theorem dX9_called_3 : decode cX9_called 3 = .ok (.istore_n 3, 1) := by decide +kernel
theorem dX9_called_4 : decode cX9_called 4 = .ok (.iload_n 3, 1) := by decide +kernel
theorem dX9_called_5 : decode cX9_called 5 = .ok (.bipush 16, 2) := by decide +kernel
theorem dX9_called_7 : decode cX9_called 7 = .ok (.if_icmp .ge 63, 3) := by decide +kernel
theorem dX9_called_10 : decode cX9_called 10 = .ok (.aload_n 0, 1) := by decide +kernel
theorem dX9_called_11 : decode cX9_called 11 = .ok (.iload_n 1, 1) := by decide +kernel
theorem dX9_called_12 : decode cX9_called 12 = .ok (.iconst 1, 1) := by decide +kernel
theorem dX9_called_13 : decode cX9_called 13 = .ok (.invokevirtual 75, 3) := by decide +kernel
theorem dX9_called_16 : decode cX9_called 16 = .ok (.iconst 2, 1) := by decide +kernel
theorem dX9_called_17 : decode cX9_called 17 = .ok (.if_icmp .ne 20, 3) := by decide +kernel
theorem dX9_called_20 : decode cX9_called 20 = .ok (.aload_n 0, 1) := by decide +kernel
theorem dX9_called_21 : decode cX9_called 21 = .ok (.iload_n 1, 1) := by decide +kernel
theorem dX9_called_22 : decode cX9_called 22 = .ok (.iconst 2, 1) := by decide +kernel
theorem dX9_called_23 : decode cX9_called 23 = .ok (.invokevirtual 75, 3) := by decide +kernel
theorem dX9_called_26 : decode cX9_called 26 = .ok (.aload_n 0, 1) := by decide +kernel
theorem dX9_called_27 : decode cX9_called 27 = .ok (.iload_n 3, 1) := by decide +kernel
theorem dX9_called_28 : decode cX9_called 28 = .ok (.invokevirtual 78, 3) := by decide +kernel
theorem dX9_called_31 : decode cX9_called 31 = .ok (.invokestatic 82, 3) := by decide +kernel
theorem dX9_called_34 : decode cX9_called 34 = .ok (.goto 13, 3) := by decide +kernel
theorem dX9_called_37 : decode cX9_called 37 = .ok (.aload_n 0, 1) := by decide +kernel
theorem dX9_called_38 : decode cX9_called 38 = .ok (.iload_n 1, 1) := by decide +kernel
theorem dX9_called_39 : decode cX9_called 39 = .ok (.iconst 2, 1) := by decide +kernel
theorem dX9_called_40 : decode cX9_called 40 = .ok (.invokevirtual 75, 3) := by decide +kernel
theorem dX9_called_43 : decode cX9_called 43 = .ok (.iload_n 3, 1) := by decide +kernel
theorem dX9_called_44 : decode cX9_called 44 = .ok (.invokestatic 82, 3) := by decide +kernel
theorem dX9_called_47 : decode cX9_called 47 = .ok (.istore 4, 2) := by decide +kernel
theorem dX9_called_49 : decode cX9_called 49 = .ok (.iload_n 2, 1) := by decide +kernel
theorem dX9_called_50 : decode cX9_called 50 = .ok (.iload 4, 2) := by decide +kernel
theorem dX9_called_52 : decode cX9_called 52 = .ok (.ifCond .eq 9, 3) := by decide +kernel
theorem dX9_called_55 : decode cX9_called 55 = .ok (.iconst 1, 1) := by decide +kernel
theorem dX9_called_56 : decode cX9_called 56 = .ok (.iload_n 3, 1) := by decide +kernel
theorem dX9_called_57 : decode cX9_called 57 = .ok (.ishl, 1) := by decide +kernel
theorem dX9_called_58 : decode cX9_called 58 = .ok (.goto 4, 3) := by decide +kernel
theorem dX9_called_61 : decode cX9_called 61 = .ok (.iconst 0, 1) := by decide +kernel
theorem dX9_called_62 : decode cX9_called 62 = .ok (.ior, 1) := by decide +kernel
theorem dX9_called_63 : decode cX9_called 63 = .ok (.istore_n 2, 1) := by decide +kernel
theorem dX9_called_64 : decode cX9_called 64 = .ok (.iinc 3 1, 3) := by decide +kernel
theorem dX9_called_67 : decode cX9_called 67 = .ok (.goto (-63), 3) := by decide +kernel
theorem dX9_called_70 : decode cX9_called 70 = .ok (.iload_n 2, 1) := by decide +kernel
theorem dX9_called_71 : decode cX9_called 71 = .ok (.ireturn, 1) := by decide +kernel
theorem dX9_layCard_0 : decode cX9_layCard 0 = .ok (.aload_n 0, 1) := by decide +kernel
theorem dX9_layCard_1 : decode cX9_layCard 1 = .ok (.iload_n 1, 1) := by decide +kernel
theorem dX9_layCard_2 : decode cX9_layCard 2 = .ok (.iconst 1, 1) := by decide +kernel
theorem dX9_layCard_3 : decode cX9_layCard 3 = .ok (.iload_n 2, 1) := by decide +kernel
theorem dX9_layCard_4 : decode cX9_layCard 4 = .ok (.invokevirtual 72, 3) := by decide +kernel
theorem dX9_layCard_7 : decode cX9_layCard 7 = .ok (.aload_n 0, 1) := by decide +kernel
theorem dX9_layCard_8 : decode cX9_layCard 8 = .ok (.iload_n 1, 1) := by decide +kernel
theorem dX9_layCard_9 : decode cX9_layCard 9 = .ok (.iconst 2, 1) := by decide +kernel
theorem dX9_layCard_10 : decode cX9_layCard 10 = .ok (.iload_n 3, 1) := by decide +kernel
theorem dX9_layCard_11 : decode cX9_layCard 11 = .ok (.invokevirtual 72, 3) := by decide +kernel
theorem dX9_layCard_14 : decode cX9_layCard 14 = .ok (.return_, 1) := by decide +kernel
theorem dX9_groupsOf_0 : decode cX9_groupsOf 0 = .ok (.iconst 0, 1) := by decide +kernel
theorem dX9_groupsOf_1 : decode cX9_groupsOf 1 = .ok (.istore_n 2, 1) := by decide +kernel
theorem dX9_groupsOf_2 : decode cX9_groupsOf 2 = .ok (.iconst 0, 1) := by decide +kernel
theorem dX9_groupsOf_3 : decode cX9_groupsOf 3 = .ok (.istore_n 3, 1) := by decide +kernel
theorem dX9_groupsOf_4 : decode cX9_groupsOf 4 = .ok (.iload_n 3, 1) := by decide +kernel
theorem dX9_groupsOf_5 : decode cX9_groupsOf 5 = .ok (.bipush 16, 2) := by decide +kernel
theorem dX9_groupsOf_7 : decode cX9_groupsOf 7 = .ok (.if_icmp .ge 31, 3) := by decide +kernel
theorem dX9_groupsOf_10 : decode cX9_groupsOf 10 = .ok (.iload_n 2, 1) := by decide +kernel
theorem dX9_groupsOf_11 : decode cX9_groupsOf 11 = .ok (.iload_n 1, 1) := by decide +kernel
theorem dX9_groupsOf_12 : decode cX9_groupsOf 12 = .ok (.iload_n 3, 1) := by decide +kernel
theorem dX9_groupsOf_13 : decode cX9_groupsOf 13 = .ok (.invokestatic 82, 3) := by decide +kernel
theorem dX9_groupsOf_16 : decode cX9_groupsOf 16 = .ok (.ifCond .eq 13, 3) := by decide +kernel
theorem dX9_groupsOf_19 : decode cX9_groupsOf 19 = .ok (.iconst 1, 1) := by decide +kernel
theorem dX9_groupsOf_20 : decode cX9_groupsOf 20 = .ok (.aload_n 0, 1) := by decide +kernel
theorem dX9_groupsOf_21 : decode cX9_groupsOf 21 = .ok (.iload_n 3, 1) := by decide +kernel
theorem dX9_groupsOf_22 : decode cX9_groupsOf 22 = .ok (.invokevirtual 78, 3) := by decide +kernel
theorem dX9_groupsOf_25 : decode cX9_groupsOf 25 = .ok (.ishl, 1) := by decide +kernel
theorem dX9_groupsOf_26 : decode cX9_groupsOf 26 = .ok (.goto 4, 3) := by decide +kernel
theorem dX9_groupsOf_29 : decode cX9_groupsOf 29 = .ok (.iconst 0, 1) := by decide +kernel
theorem dX9_groupsOf_30 : decode cX9_groupsOf 30 = .ok (.ior, 1) := by decide +kernel
theorem dX9_groupsOf_31 : decode cX9_groupsOf 31 = .ok (.istore_n 2, 1) := by decide +kernel
theorem dX9_groupsOf_32 : decode cX9_groupsOf 32 = .ok (.iinc 3 1, 3) := by decide +kernel
theorem dX9_groupsOf_35 : decode cX9_groupsOf 35 = .ok (.goto (-31), 3) := by decide +kernel
theorem dX9_groupsOf_38 : decode cX9_groupsOf 38 = .ok (.iload_n 2, 1) := by decide +kernel
theorem dX9_groupsOf_39 : decode cX9_groupsOf 39 = .ok (.ireturn, 1) := by decide +kernel
theorem dX9_writeOn_0 : decode cX9_writeOn 0 = .ok (.aload_n 0, 1) := by decide +kernel
theorem dX9_writeOn_1 : decode cX9_writeOn 1 = .ok (.iload_n 1, 1) := by decide +kernel
theorem dX9_writeOn_2 : decode cX9_writeOn 2 = .ok (.iconst 2, 1) := by decide +kernel
theorem dX9_writeOn_3 : decode cX9_writeOn 3 = .ok (.invokevirtual 75, 3) := by decide +kernel
theorem dX9_writeOn_6 : decode cX9_writeOn 6 = .ok (.istore_n 3, 1) := by decide +kernel
theorem dX9_writeOn_7 : decode cX9_writeOn 7 = .ok (.iload_n 3, 1) := by decide +kernel
theorem dX9_writeOn_8 : decode cX9_writeOn 8 = .ok (.iconst 1, 1) := by decide +kernel
theorem dX9_writeOn_9 : decode cX9_writeOn 9 = .ok (.iload_n 2, 1) := by decide +kernel
theorem dX9_writeOn_10 : decode cX9_writeOn 10 = .ok (.ishl, 1) := by decide +kernel
theorem dX9_writeOn_11 : decode cX9_writeOn 11 = .ok (.ior, 1) := by decide +kernel
theorem dX9_writeOn_12 : decode cX9_writeOn 12 = .ok (.istore 4, 2) := by decide +kernel
theorem dX9_writeOn_14 : decode cX9_writeOn 14 = .ok (.aload_n 0, 1) := by decide +kernel
theorem dX9_writeOn_15 : decode cX9_writeOn 15 = .ok (.iload_n 1, 1) := by decide +kernel
theorem dX9_writeOn_16 : decode cX9_writeOn 16 = .ok (.iconst 1, 1) := by decide +kernel
theorem dX9_writeOn_17 : decode cX9_writeOn 17 = .ok (.invokevirtual 75, 3) := by decide +kernel
theorem dX9_writeOn_20 : decode cX9_writeOn 20 = .ok (.iconst 2, 1) := by decide +kernel
theorem dX9_writeOn_21 : decode cX9_writeOn 21 = .ok (.if_icmp .ne 21, 3) := by decide +kernel
theorem dX9_writeOn_24 : decode cX9_writeOn 24 = .ok (.aload_n 0, 1) := by decide +kernel
theorem dX9_writeOn_25 : decode cX9_writeOn 25 = .ok (.iload_n 1, 1) := by decide +kernel
theorem dX9_writeOn_26 : decode cX9_writeOn 26 = .ok (.iconst 2, 1) := by decide +kernel
theorem dX9_writeOn_27 : decode cX9_writeOn 27 = .ok (.iload_n 3, 1) := by decide +kernel
theorem dX9_writeOn_28 : decode cX9_writeOn 28 = .ok (.iconst 1, 1) := by decide +kernel
theorem dX9_writeOn_29 : decode cX9_writeOn 29 = .ok (.aload_n 0, 1) := by decide +kernel
theorem dX9_writeOn_30 : decode cX9_writeOn 30 = .ok (.iload_n 2, 1) := by decide +kernel
theorem dX9_writeOn_31 : decode cX9_writeOn 31 = .ok (.invokevirtual 78, 3) := by decide +kernel
theorem dX9_writeOn_34 : decode cX9_writeOn 34 = .ok (.ishl, 1) := by decide +kernel
theorem dX9_writeOn_35 : decode cX9_writeOn 35 = .ok (.ior, 1) := by decide +kernel
theorem dX9_writeOn_36 : decode cX9_writeOn 36 = .ok (.invokevirtual 86, 3) := by decide +kernel
theorem dX9_writeOn_39 : decode cX9_writeOn 39 = .ok (.goto 48, 3) := by decide +kernel
theorem dX9_writeOn_42 : decode cX9_writeOn 42 = .ok (.iload 4, 2) := by decide +kernel
theorem dX9_writeOn_44 : decode cX9_writeOn 44 = .ok (.invokestatic 89, 3) := by decide +kernel
theorem dX9_writeOn_47 : decode cX9_writeOn 47 = .ok (.aload_n 0, 1) := by decide +kernel
theorem dX9_writeOn_48 : decode cX9_writeOn 48 = .ok (.getfield 7, 3) := by decide +kernel
theorem dX9_writeOn_51 : decode cX9_writeOn 51 = .ok (.iconst 0, 1) := by decide +kernel
theorem dX9_writeOn_52 : decode cX9_writeOn 52 = .ok (.iaload, 1) := by decide +kernel
theorem dX9_writeOn_53 : decode cX9_writeOn 53 = .ok (.if_icmp .le 11, 3) := by decide +kernel
theorem dX9_writeOn_56 : decode cX9_writeOn 56 = .ok (.iload_n 3, 1) := by decide +kernel
theorem dX9_writeOn_57 : decode cX9_writeOn 57 = .ok (.iload_n 2, 1) := by decide +kernel
theorem dX9_writeOn_58 : decode cX9_writeOn 58 = .ok (.invokestatic 82, 3) := by decide +kernel
theorem dX9_writeOn_61 : decode cX9_writeOn 61 = .ok (.ifCond .eq 14, 3) := by decide +kernel
theorem dX9_writeOn_64 : decode cX9_writeOn 64 = .ok (.aload_n 0, 1) := by decide +kernel
theorem dX9_writeOn_65 : decode cX9_writeOn 65 = .ok (.iload_n 1, 1) := by decide +kernel
theorem dX9_writeOn_66 : decode cX9_writeOn 66 = .ok (.iconst 1, 1) := by decide +kernel
theorem dX9_writeOn_67 : decode cX9_writeOn 67 = .ok (.iload 4, 2) := by decide +kernel
theorem dX9_writeOn_69 : decode cX9_writeOn 69 = .ok (.invokevirtual 86, 3) := by decide +kernel
theorem dX9_writeOn_72 : decode cX9_writeOn 72 = .ok (.goto 15, 3) := by decide +kernel
theorem dX9_writeOn_75 : decode cX9_writeOn 75 = .ok (.aload_n 0, 1) := by decide +kernel
theorem dX9_writeOn_76 : decode cX9_writeOn 76 = .ok (.iload_n 1, 1) := by decide +kernel
theorem dX9_writeOn_77 : decode cX9_writeOn 77 = .ok (.iconst 2, 1) := by decide +kernel
theorem dX9_writeOn_78 : decode cX9_writeOn 78 = .ok (.aload_n 0, 1) := by decide +kernel
theorem dX9_writeOn_79 : decode cX9_writeOn 79 = .ok (.iload 4, 2) := by decide +kernel
theorem dX9_writeOn_81 : decode cX9_writeOn 81 = .ok (.invokevirtual 92, 3) := by decide +kernel
theorem dX9_writeOn_84 : decode cX9_writeOn 84 = .ok (.invokevirtual 86, 3) := by decide +kernel
theorem dX9_writeOn_87 : decode cX9_writeOn 87 = .ok (.return_, 1) := by decide +kernel
theorem dX9_strike_0 : decode cX9_strike 0 = .ok (.aload_n 0, 1) := by decide +kernel
theorem dX9_strike_1 : decode cX9_strike 1 = .ok (.iload_n 1, 1) := by decide +kernel
theorem dX9_strike_2 : decode cX9_strike 2 = .ok (.iconst 1, 1) := by decide +kernel
theorem dX9_strike_3 : decode cX9_strike 3 = .ok (.invokevirtual 75, 3) := by decide +kernel
theorem dX9_strike_6 : decode cX9_strike 6 = .ok (.iconst 2, 1) := by decide +kernel
theorem dX9_strike_7 : decode cX9_strike 7 = .ok (.if_icmp .ne 4, 3) := by decide +kernel
theorem dX9_strike_10 : decode cX9_strike 10 = .ok (.return_, 1) := by decide +kernel
theorem dX9_strike_11 : decode cX9_strike 11 = .ok (.aload_n 0, 1) := by decide +kernel
theorem dX9_strike_12 : decode cX9_strike 12 = .ok (.iload_n 1, 1) := by decide +kernel
theorem dX9_strike_13 : decode cX9_strike 13 = .ok (.iconst 1, 1) := by decide +kernel
theorem dX9_strike_14 : decode cX9_strike 14 = .ok (.invokevirtual 75, 3) := by decide +kernel
theorem dX9_strike_17 : decode cX9_strike 17 = .ok (.iconst 3, 1) := by decide +kernel
theorem dX9_strike_18 : decode cX9_strike 18 = .ok (.if_icmp .ne 7, 3) := by decide +kernel
theorem dX9_strike_21 : decode cX9_strike 21 = .ok (.iconst 0, 1) := by decide +kernel
theorem dX9_strike_22 : decode cX9_strike 22 = .ok (.goto 15, 3) := by decide +kernel
theorem dX9_strike_25 : decode cX9_strike 25 = .ok (.aload_n 0, 1) := by decide +kernel
theorem dX9_strike_26 : decode cX9_strike 26 = .ok (.iload_n 1, 1) := by decide +kernel
theorem dX9_strike_27 : decode cX9_strike 27 = .ok (.iconst 2, 1) := by decide +kernel
theorem dX9_strike_28 : decode cX9_strike 28 = .ok (.invokevirtual 75, 3) := by decide +kernel
theorem dX9_strike_31 : decode cX9_strike 31 = .ok (.iconst 1, 1) := by decide +kernel
theorem dX9_strike_32 : decode cX9_strike 32 = .ok (.iload_n 2, 1) := by decide +kernel
theorem dX9_strike_33 : decode cX9_strike 33 = .ok (.ishl, 1) := by decide +kernel
theorem dX9_strike_34 : decode cX9_strike 34 = .ok (.iconst (-1), 1) := by decide +kernel
theorem dX9_strike_35 : decode cX9_strike 35 = .ok (.ixor, 1) := by decide +kernel
theorem dX9_strike_36 : decode cX9_strike 36 = .ok (.iand, 1) := by decide +kernel
theorem dX9_strike_37 : decode cX9_strike 37 = .ok (.istore_n 3, 1) := by decide +kernel
theorem dX9_strike_38 : decode cX9_strike 38 = .ok (.aload_n 0, 1) := by decide +kernel
theorem dX9_strike_39 : decode cX9_strike 39 = .ok (.iload_n 1, 1) := by decide +kernel
theorem dX9_strike_40 : decode cX9_strike 40 = .ok (.iload_n 3, 1) := by decide +kernel
theorem dX9_strike_41 : decode cX9_strike 41 = .ok (.ifCond .ne 7, 3) := by decide +kernel
theorem dX9_strike_44 : decode cX9_strike 44 = .ok (.iconst 0, 1) := by decide +kernel
theorem dX9_strike_45 : decode cX9_strike 45 = .ok (.goto 4, 3) := by decide +kernel
theorem dX9_strike_48 : decode cX9_strike 48 = .ok (.iconst 1, 1) := by decide +kernel
theorem dX9_strike_49 : decode cX9_strike 49 = .ok (.iload_n 3, 1) := by decide +kernel
theorem dX9_strike_50 : decode cX9_strike 50 = .ok (.invokevirtual 86, 3) := by decide +kernel
theorem dX9_strike_53 : decode cX9_strike 53 = .ok (.return_, 1) := by decide +kernel
theorem dX9_callBack_0 : decode cX9_callBack 0 = .ok (.aload_n 0, 1) := by decide +kernel
theorem dX9_callBack_1 : decode cX9_callBack 1 = .ok (.getfield 7, 3) := by decide +kernel
theorem dX9_callBack_4 : decode cX9_callBack 4 = .ok (.iconst 4, 1) := by decide +kernel
theorem dX9_callBack_5 : decode cX9_callBack 5 = .ok (.dup2, 1) := by decide +kernel
theorem dX9_callBack_6 : decode cX9_callBack 6 = .ok (.iaload, 1) := by decide +kernel
theorem dX9_callBack_7 : decode cX9_callBack 7 = .ok (.iconst 1, 1) := by decide +kernel
theorem dX9_callBack_8 : decode cX9_callBack 8 = .ok (.iadd, 1) := by decide +kernel
theorem dX9_callBack_9 : decode cX9_callBack 9 = .ok (.iastore, 1) := by decide +kernel
theorem dX9_callBack_10 : decode cX9_callBack 10 = .ok (.aload_n 0, 1) := by decide +kernel
theorem dX9_callBack_11 : decode cX9_callBack 11 = .ok (.iload_n 2, 1) := by decide +kernel
theorem dX9_callBack_12 : decode cX9_callBack 12 = .ok (.iload_n 1, 1) := by decide +kernel
theorem dX9_callBack_13 : decode cX9_callBack 13 = .ok (.invokevirtual 95, 3) := by decide +kernel
theorem dX9_callBack_16 : decode cX9_callBack 16 = .ok (.istore_n 3, 1) := by decide +kernel
theorem dX9_callBack_17 : decode cX9_callBack 17 = .ok (.iload_n 3, 1) := by decide +kernel
theorem dX9_callBack_18 : decode cX9_callBack 18 = .ok (.ifCond .ge 21, 3) := by decide +kernel
theorem dX9_callBack_21 : decode cX9_callBack 21 = .ok (.aload_n 0, 1) := by decide +kernel
theorem dX9_callBack_22 : decode cX9_callBack 22 = .ok (.getfield 7, 3) := by decide +kernel
theorem dX9_callBack_25 : decode cX9_callBack 25 = .ok (.iconst 5, 1) := by decide +kernel
theorem dX9_callBack_26 : decode cX9_callBack 26 = .ok (.dup2, 1) := by decide +kernel
theorem dX9_callBack_27 : decode cX9_callBack 27 = .ok (.iaload, 1) := by decide +kernel
theorem dX9_callBack_28 : decode cX9_callBack 28 = .ok (.iconst 1, 1) := by decide +kernel
theorem dX9_callBack_29 : decode cX9_callBack 29 = .ok (.iadd, 1) := by decide +kernel
theorem dX9_callBack_30 : decode cX9_callBack 30 = .ok (.iastore, 1) := by decide +kernel
theorem dX9_callBack_31 : decode cX9_callBack 31 = .ok (.aload_n 0, 1) := by decide +kernel
theorem dX9_callBack_32 : decode cX9_callBack 32 = .ok (.iload_n 2, 1) := by decide +kernel
theorem dX9_callBack_33 : decode cX9_callBack 33 = .ok (.iconst 4, 1) := by decide +kernel
theorem dX9_callBack_34 : decode cX9_callBack 34 = .ok (.iconst 1, 1) := by decide +kernel
theorem dX9_callBack_35 : decode cX9_callBack 35 = .ok (.invokevirtual 57, 3) := by decide +kernel
theorem dX9_callBack_38 : decode cX9_callBack 38 = .ok (.return_, 1) := by decide +kernel
theorem dX9_callBack_39 : decode cX9_callBack 39 = .ok (.aload_n 0, 1) := by decide +kernel
theorem dX9_callBack_40 : decode cX9_callBack 40 = .ok (.iload_n 2, 1) := by decide +kernel
theorem dX9_callBack_41 : decode cX9_callBack 41 = .ok (.iload_n 3, 1) := by decide +kernel
theorem dX9_callBack_42 : decode cX9_callBack 42 = .ok (.invokevirtual 98, 3) := by decide +kernel
theorem dX9_callBack_45 : decode cX9_callBack 45 = .ok (.aload_n 0, 1) := by decide +kernel
theorem dX9_callBack_46 : decode cX9_callBack 46 = .ok (.iload_n 2, 1) := by decide +kernel
theorem dX9_callBack_47 : decode cX9_callBack 47 = .ok (.iload_n 3, 1) := by decide +kernel
theorem dX9_callBack_48 : decode cX9_callBack 48 = .ok (.invokevirtual 65, 3) := by decide +kernel
theorem dX9_callBack_51 : decode cX9_callBack 51 = .ok (.aload_n 0, 1) := by decide +kernel
theorem dX9_callBack_52 : decode cX9_callBack 52 = .ok (.getfield 7, 3) := by decide +kernel
theorem dX9_callBack_55 : decode cX9_callBack 55 = .ok (.iconst 4, 1) := by decide +kernel
theorem dX9_callBack_56 : decode cX9_callBack 56 = .ok (.dup2, 1) := by decide +kernel
theorem dX9_callBack_57 : decode cX9_callBack 57 = .ok (.iaload, 1) := by decide +kernel
theorem dX9_callBack_58 : decode cX9_callBack 58 = .ok (.iconst 1, 1) := by decide +kernel
theorem dX9_callBack_59 : decode cX9_callBack 59 = .ok (.iadd, 1) := by decide +kernel
theorem dX9_callBack_60 : decode cX9_callBack 60 = .ok (.iastore, 1) := by decide +kernel
theorem dX9_callBack_61 : decode cX9_callBack 61 = .ok (.aload_n 0, 1) := by decide +kernel
theorem dX9_callBack_62 : decode cX9_callBack 62 = .ok (.iload_n 1, 1) := by decide +kernel
theorem dX9_callBack_63 : decode cX9_callBack 63 = .ok (.iconst 3, 1) := by decide +kernel
theorem dX9_callBack_64 : decode cX9_callBack 64 = .ok (.aload_n 0, 1) := by decide +kernel
theorem dX9_callBack_65 : decode cX9_callBack 65 = .ok (.iload_n 1, 1) := by decide +kernel
theorem dX9_callBack_66 : decode cX9_callBack 66 = .ok (.iconst 3, 1) := by decide +kernel
theorem dX9_callBack_67 : decode cX9_callBack 67 = .ok (.invokevirtual 75, 3) := by decide +kernel
theorem dX9_callBack_70 : decode cX9_callBack 70 = .ok (.iconst 1, 1) := by decide +kernel
theorem dX9_callBack_71 : decode cX9_callBack 71 = .ok (.iadd, 1) := by decide +kernel
theorem dX9_callBack_72 : decode cX9_callBack 72 = .ok (.invokevirtual 72, 3) := by decide +kernel
theorem dX9_callBack_75 : decode cX9_callBack 75 = .ok (.aload_n 0, 1) := by decide +kernel
theorem dX9_callBack_76 : decode cX9_callBack 76 = .ok (.iload_n 2, 1) := by decide +kernel
theorem dX9_callBack_77 : decode cX9_callBack 77 = .ok (.iconst 3, 1) := by decide +kernel
theorem dX9_callBack_78 : decode cX9_callBack 78 = .ok (.iconst 1, 1) := by decide +kernel
theorem dX9_callBack_79 : decode cX9_callBack 79 = .ok (.invokevirtual 57, 3) := by decide +kernel
theorem dX9_callBack_82 : decode cX9_callBack 82 = .ok (.return_, 1) := by decide +kernel
theorem dX9_callBackBut_0 : decode cX9_callBackBut 0 = .ok (.aload_n 0, 1) := by decide +kernel
theorem dX9_callBackBut_1 : decode cX9_callBackBut 1 = .ok (.iload_n 1, 1) := by decide +kernel
theorem dX9_callBackBut_2 : decode cX9_callBackBut 2 = .ok (.invokevirtual 101, 3) := by decide +kernel
theorem dX9_callBackBut_5 : decode cX9_callBackBut 5 = .ok (.istore_n 3, 1) := by decide +kernel
theorem dX9_callBackBut_6 : decode cX9_callBackBut 6 = .ok (.aload_n 0, 1) := by decide +kernel
theorem dX9_callBackBut_7 : decode cX9_callBackBut 7 = .ok (.iload_n 1, 1) := by decide +kernel
theorem dX9_callBackBut_8 : decode cX9_callBackBut 8 = .ok (.iconst 1, 1) := by decide +kernel
theorem dX9_callBackBut_9 : decode cX9_callBackBut 9 = .ok (.invokevirtual 75, 3) := by decide +kernel
theorem dX9_callBackBut_12 : decode cX9_callBackBut 12 = .ok (.iconst 2, 1) := by decide +kernel
theorem dX9_callBackBut_13 : decode cX9_callBackBut 13 = .ok (.if_icmp .ne 7, 3) := by decide +kernel
theorem dX9_callBackBut_16 : decode cX9_callBackBut 16 = .ok (.iconst 1, 1) := by decide +kernel
theorem dX9_callBackBut_17 : decode cX9_callBackBut 17 = .ok (.goto 4, 3) := by decide +kernel
theorem dX9_callBackBut_20 : decode cX9_callBackBut 20 = .ok (.iconst 0, 1) := by decide +kernel
theorem dX9_callBackBut_21 : decode cX9_callBackBut 21 = .ok (.istore 4, 2) := by decide +kernel
theorem dX9_callBackBut_23 : decode cX9_callBackBut 23 = .ok (.iconst 0, 1) := by decide +kernel
theorem dX9_callBackBut_24 : decode cX9_callBackBut 24 = .ok (.istore 5, 2) := by decide +kernel
theorem dX9_callBackBut_26 : decode cX9_callBackBut 26 = .ok (.iload 5, 2) := by decide +kernel
theorem dX9_callBackBut_28 : decode cX9_callBackBut 28 = .ok (.bipush 16, 2) := by decide +kernel
theorem dX9_callBackBut_30 : decode cX9_callBackBut 30 = .ok (.if_icmp .ge 58, 3) := by decide +kernel
theorem dX9_callBackBut_33 : decode cX9_callBackBut 33 = .ok (.iload 5, 2) := by decide +kernel
theorem dX9_callBackBut_35 : decode cX9_callBackBut 35 = .ok (.iload_n 2, 1) := by decide +kernel
theorem dX9_callBackBut_36 : decode cX9_callBackBut 36 = .ok (.if_icmp .eq 46, 3) := by decide +kernel
theorem dX9_callBackBut_39 : decode cX9_callBackBut 39 = .ok (.iload_n 3, 1) := by decide +kernel
theorem dX9_callBackBut_40 : decode cX9_callBackBut 40 = .ok (.iload 5, 2) := by decide +kernel
theorem dX9_callBackBut_42 : decode cX9_callBackBut 42 = .ok (.invokestatic 82, 3) := by decide +kernel
theorem dX9_callBackBut_45 : decode cX9_callBackBut 45 = .ok (.ifCond .eq 37, 3) := by decide +kernel
theorem dX9_callBackBut_48 : decode cX9_callBackBut 48 = .ok (.aload_n 0, 1) := by decide +kernel
theorem dX9_callBackBut_49 : decode cX9_callBackBut 49 = .ok (.iload_n 1, 1) := by decide +kernel
theorem dX9_callBackBut_50 : decode cX9_callBackBut 50 = .ok (.iload 5, 2) := by decide +kernel
theorem dX9_callBackBut_52 : decode cX9_callBackBut 52 = .ok (.invokevirtual 104, 3) := by decide +kernel
theorem dX9_callBackBut_55 : decode cX9_callBackBut 55 = .ok (.aload_n 0, 1) := by decide +kernel
theorem dX9_callBackBut_56 : decode cX9_callBackBut 56 = .ok (.getfield 7, 3) := by decide +kernel
theorem dX9_callBackBut_59 : decode cX9_callBackBut 59 = .ok (.bipush 6, 2) := by decide +kernel
theorem dX9_callBackBut_61 : decode cX9_callBackBut 61 = .ok (.dup2, 1) := by decide +kernel
theorem dX9_callBackBut_62 : decode cX9_callBackBut 62 = .ok (.iaload, 1) := by decide +kernel
theorem dX9_callBackBut_63 : decode cX9_callBackBut 63 = .ok (.iload 4, 2) := by decide +kernel
theorem dX9_callBackBut_65 : decode cX9_callBackBut 65 = .ok (.iadd, 1) := by decide +kernel
theorem dX9_callBackBut_66 : decode cX9_callBackBut 66 = .ok (.iastore, 1) := by decide +kernel
theorem dX9_callBackBut_67 : decode cX9_callBackBut 67 = .ok (.aload_n 0, 1) := by decide +kernel
theorem dX9_callBackBut_68 : decode cX9_callBackBut 68 = .ok (.iload_n 1, 1) := by decide +kernel
theorem dX9_callBackBut_69 : decode cX9_callBackBut 69 = .ok (.iconst 4, 1) := by decide +kernel
theorem dX9_callBackBut_70 : decode cX9_callBackBut 70 = .ok (.aload_n 0, 1) := by decide +kernel
theorem dX9_callBackBut_71 : decode cX9_callBackBut 71 = .ok (.iload_n 1, 1) := by decide +kernel
theorem dX9_callBackBut_72 : decode cX9_callBackBut 72 = .ok (.iconst 4, 1) := by decide +kernel
theorem dX9_callBackBut_73 : decode cX9_callBackBut 73 = .ok (.invokevirtual 75, 3) := by decide +kernel
theorem dX9_callBackBut_76 : decode cX9_callBackBut 76 = .ok (.iload 4, 2) := by decide +kernel
theorem dX9_callBackBut_78 : decode cX9_callBackBut 78 = .ok (.iadd, 1) := by decide +kernel
theorem dX9_callBackBut_79 : decode cX9_callBackBut 79 = .ok (.invokevirtual 72, 3) := by decide +kernel
theorem dX9_callBackBut_82 : decode cX9_callBackBut 82 = .ok (.iinc 5 1, 3) := by decide +kernel
theorem dX9_callBackBut_85 : decode cX9_callBackBut 85 = .ok (.goto (-59), 3) := by decide +kernel
theorem dX9_callBackBut_88 : decode cX9_callBackBut 88 = .ok (.return_, 1) := by decide +kernel
theorem dX9_returned_0 : decode cX9_returned 0 = .ok (.aload_n 0, 1) := by decide +kernel
theorem dX9_returned_1 : decode cX9_returned 1 = .ok (.iload_n 1, 1) := by decide +kernel
theorem dX9_returned_2 : decode cX9_returned 2 = .ok (.iload_n 2, 1) := by decide +kernel
theorem dX9_returned_3 : decode cX9_returned 3 = .ok (.iconst 0, 1) := by decide +kernel
theorem dX9_returned_4 : decode cX9_returned 4 = .ok (.invokevirtual 53, 3) := by decide +kernel
theorem dX9_returned_7 : decode cX9_returned 7 = .ok (.istore_n 3, 1) := by decide +kernel
theorem dX9_returned_8 : decode cX9_returned 8 = .ok (.aload_n 0, 1) := by decide +kernel
theorem dX9_returned_9 : decode cX9_returned 9 = .ok (.iload_n 1, 1) := by decide +kernel
theorem dX9_returned_10 : decode cX9_returned 10 = .ok (.iload_n 2, 1) := by decide +kernel
theorem dX9_returned_11 : decode cX9_returned 11 = .ok (.iconst 2, 1) := by decide +kernel
theorem dX9_returned_12 : decode cX9_returned 12 = .ok (.invokevirtual 53, 3) := by decide +kernel
theorem dX9_returned_15 : decode cX9_returned 15 = .ok (.istore 4, 2) := by decide +kernel
theorem dX9_returned_17 : decode cX9_returned 17 = .ok (.aload_n 0, 1) := by decide +kernel
theorem dX9_returned_18 : decode cX9_returned 18 = .ok (.iload_n 1, 1) := by decide +kernel
theorem dX9_returned_19 : decode cX9_returned 19 = .ok (.iload_n 2, 1) := by decide +kernel
theorem dX9_returned_20 : decode cX9_returned 20 = .ok (.invokevirtual 98, 3) := by decide +kernel
theorem dX9_returned_23 : decode cX9_returned 23 = .ok (.aload_n 0, 1) := by decide +kernel
theorem dX9_returned_24 : decode cX9_returned 24 = .ok (.iload_n 1, 1) := by decide +kernel
theorem dX9_returned_25 : decode cX9_returned 25 = .ok (.iload_n 2, 1) := by decide +kernel
theorem dX9_returned_26 : decode cX9_returned 26 = .ok (.invokevirtual 65, 3) := by decide +kernel
theorem dX9_returned_29 : decode cX9_returned 29 = .ok (.iload 4, 2) := by decide +kernel
theorem dX9_returned_31 : decode cX9_returned 31 = .ok (.iconst 1, 1) := by decide +kernel
theorem dX9_returned_32 : decode cX9_returned 32 = .ok (.if_icmp .eq 13, 3) := by decide +kernel
theorem dX9_returned_35 : decode cX9_returned 35 = .ok (.aload_n 0, 1) := by decide +kernel
theorem dX9_returned_36 : decode cX9_returned 36 = .ok (.getfield 7, 3) := by decide +kernel
theorem dX9_returned_39 : decode cX9_returned 39 = .ok (.iconst 3, 1) := by decide +kernel
theorem dX9_returned_40 : decode cX9_returned 40 = .ok (.iaload, 1) := by decide +kernel
theorem dX9_returned_41 : decode cX9_returned 41 = .ok (.iconst 1, 1) := by decide +kernel
theorem dX9_returned_42 : decode cX9_returned 42 = .ok (.if_icmp .ne 19, 3) := by decide +kernel
theorem dX9_returned_45 : decode cX9_returned 45 = .ok (.aload_n 0, 1) := by decide +kernel
theorem dX9_returned_46 : decode cX9_returned 46 = .ok (.getfield 7, 3) := by decide +kernel
theorem dX9_returned_49 : decode cX9_returned 49 = .ok (.iconst 4, 1) := by decide +kernel
theorem dX9_returned_50 : decode cX9_returned 50 = .ok (.dup2, 1) := by decide +kernel
theorem dX9_returned_51 : decode cX9_returned 51 = .ok (.iaload, 1) := by decide +kernel
theorem dX9_returned_52 : decode cX9_returned 52 = .ok (.iconst 1, 1) := by decide +kernel
theorem dX9_returned_53 : decode cX9_returned 53 = .ok (.iadd, 1) := by decide +kernel
theorem dX9_returned_54 : decode cX9_returned 54 = .ok (.iastore, 1) := by decide +kernel
theorem dX9_returned_55 : decode cX9_returned 55 = .ok (.aload_n 0, 1) := by decide +kernel
theorem dX9_returned_56 : decode cX9_returned 56 = .ok (.iload_n 3, 1) := by decide +kernel
theorem dX9_returned_57 : decode cX9_returned 57 = .ok (.iload_n 1, 1) := by decide +kernel
theorem dX9_returned_58 : decode cX9_returned 58 = .ok (.invokevirtual 107, 3) := by decide +kernel
theorem dX9_returned_61 : decode cX9_returned 61 = .ok (.iload 4, 2) := by decide +kernel
theorem dX9_returned_63 : decode cX9_returned 63 = .ok (.ireturn, 1) := by decide +kernel
theorem dX9_makeRoom_0 : decode cX9_makeRoom 0 = .ok (.aload_n 0, 1) := by decide +kernel
theorem dX9_makeRoom_1 : decode cX9_makeRoom 1 = .ok (.iload_n 1, 1) := by decide +kernel
theorem dX9_makeRoom_2 : decode cX9_makeRoom 2 = .ok (.iconst 0, 1) := by decide +kernel
theorem dX9_makeRoom_3 : decode cX9_makeRoom 3 = .ok (.invokevirtual 49, 3) := by decide +kernel
theorem dX9_makeRoom_6 : decode cX9_makeRoom 6 = .ok (.aload_n 0, 1) := by decide +kernel
theorem dX9_makeRoom_7 : decode cX9_makeRoom 7 = .ok (.getfield 7, 3) := by decide +kernel
theorem dX9_makeRoom_10 : decode cX9_makeRoom 10 = .ok (.iconst 2, 1) := by decide +kernel
theorem dX9_makeRoom_11 : decode cX9_makeRoom 11 = .ok (.iaload, 1) := by decide +kernel
theorem dX9_makeRoom_12 : decode cX9_makeRoom 12 = .ok (.if_icmp .lt 13, 3) := by decide +kernel
theorem dX9_makeRoom_15 : decode cX9_makeRoom 15 = .ok (.aload_n 0, 1) := by decide +kernel
theorem dX9_makeRoom_16 : decode cX9_makeRoom 16 = .ok (.iload_n 1, 1) := by decide +kernel
theorem dX9_makeRoom_17 : decode cX9_makeRoom 17 = .ok (.iconst 0, 1) := by decide +kernel
theorem dX9_makeRoom_18 : decode cX9_makeRoom 18 = .ok (.invokevirtual 110, 3) := by decide +kernel
theorem dX9_makeRoom_21 : decode cX9_makeRoom 21 = .ok (.pop, 1) := by decide +kernel
theorem dX9_makeRoom_22 : decode cX9_makeRoom 22 = .ok (.goto (-22), 3) := by decide +kernel
theorem dX9_makeRoom_25 : decode cX9_makeRoom 25 = .ok (.return_, 1) := by decide +kernel
theorem dX9_ask_0 : decode cX9_ask 0 = .ok (.aload_n 0, 1) := by decide +kernel
theorem dX9_ask_1 : decode cX9_ask 1 = .ok (.iload_n 1, 1) := by decide +kernel
theorem dX9_ask_2 : decode cX9_ask 2 = .ok (.invokevirtual 113, 3) := by decide +kernel
theorem dX9_ask_5 : decode cX9_ask 5 = .ok (.aload_n 0, 1) := by decide +kernel
theorem dX9_ask_6 : decode cX9_ask 6 = .ok (.iload_n 1, 1) := by decide +kernel
theorem dX9_ask_7 : decode cX9_ask 7 = .ok (.iload_n 2, 1) := by decide +kernel
theorem dX9_ask_8 : decode cX9_ask 8 = .ok (.aload_n 0, 1) := by decide +kernel
theorem dX9_ask_9 : decode cX9_ask 9 = .ok (.iload_n 2, 1) := by decide +kernel
theorem dX9_ask_10 : decode cX9_ask 10 = .ok (.iconst 0, 1) := by decide +kernel
theorem dX9_ask_11 : decode cX9_ask 11 = .ok (.invokevirtual 75, 3) := by decide +kernel
theorem dX9_ask_14 : decode cX9_ask 14 = .ok (.iconst 0, 1) := by decide +kernel
theorem dX9_ask_15 : decode cX9_ask 15 = .ok (.invokevirtual 69, 3) := by decide +kernel
theorem dX9_ask_18 : decode cX9_ask 18 = .ok (.aload_n 0, 1) := by decide +kernel
theorem dX9_ask_19 : decode cX9_ask 19 = .ok (.getfield 7, 3) := by decide +kernel
theorem dX9_ask_22 : decode cX9_ask 22 = .ok (.iconst 4, 1) := by decide +kernel
theorem dX9_ask_23 : decode cX9_ask 23 = .ok (.dup2, 1) := by decide +kernel
theorem dX9_ask_24 : decode cX9_ask 24 = .ok (.iaload, 1) := by decide +kernel
theorem dX9_ask_25 : decode cX9_ask 25 = .ok (.iconst 2, 1) := by decide +kernel
theorem dX9_ask_26 : decode cX9_ask 26 = .ok (.iadd, 1) := by decide +kernel
theorem dX9_ask_27 : decode cX9_ask 27 = .ok (.iastore, 1) := by decide +kernel
theorem dX9_ask_28 : decode cX9_ask 28 = .ok (.return_, 1) := by decide +kernel
theorem dX9_reads_0 : decode cX9_reads 0 = .ok (.aload_n 0, 1) := by decide +kernel
theorem dX9_reads_1 : decode cX9_reads 1 = .ok (.iload_n 1, 1) := by decide +kernel
theorem dX9_reads_2 : decode cX9_reads 2 = .ok (.iconst 1, 1) := by decide +kernel
theorem dX9_reads_3 : decode cX9_reads 3 = .ok (.iconst 1, 1) := by decide +kernel
theorem dX9_reads_4 : decode cX9_reads 4 = .ok (.invokevirtual 57, 3) := by decide +kernel
theorem dX9_reads_7 : decode cX9_reads 7 = .ok (.aload_n 0, 1) := by decide +kernel
theorem dX9_reads_8 : decode cX9_reads 8 = .ok (.iload_n 1, 1) := by decide +kernel
theorem dX9_reads_9 : decode cX9_reads 9 = .ok (.iload_n 2, 1) := by decide +kernel
theorem dX9_reads_10 : decode cX9_reads 10 = .ok (.invokevirtual 95, 3) := by decide +kernel
theorem dX9_reads_13 : decode cX9_reads 13 = .ok (.istore_n 3, 1) := by decide +kernel
theorem dX9_reads_14 : decode cX9_reads 14 = .ok (.iload_n 3, 1) := by decide +kernel
theorem dX9_reads_15 : decode cX9_reads 15 = .ok (.ifCond .lt 19, 3) := by decide +kernel
theorem dX9_reads_18 : decode cX9_reads 18 = .ok (.aload_n 0, 1) := by decide +kernel
theorem dX9_reads_19 : decode cX9_reads 19 = .ok (.iload_n 1, 1) := by decide +kernel
theorem dX9_reads_20 : decode cX9_reads 20 = .ok (.iload_n 3, 1) := by decide +kernel
theorem dX9_reads_21 : decode cX9_reads 21 = .ok (.invokevirtual 117, 3) := by decide +kernel
theorem dX9_reads_24 : decode cX9_reads 24 = .ok (.aload_n 0, 1) := by decide +kernel
theorem dX9_reads_25 : decode cX9_reads 25 = .ok (.iload_n 1, 1) := by decide +kernel
theorem dX9_reads_26 : decode cX9_reads 26 = .ok (.iconst 2, 1) := by decide +kernel
theorem dX9_reads_27 : decode cX9_reads 27 = .ok (.iconst 1, 1) := by decide +kernel
theorem dX9_reads_28 : decode cX9_reads 28 = .ok (.invokevirtual 57, 3) := by decide +kernel
theorem dX9_reads_31 : decode cX9_reads 31 = .ok (.goto 38, 3) := by decide +kernel
theorem dX9_reads_34 : decode cX9_reads 34 = .ok (.aload_n 0, 1) := by decide +kernel
theorem dX9_reads_35 : decode cX9_reads 35 = .ok (.iload_n 2, 1) := by decide +kernel
theorem dX9_reads_36 : decode cX9_reads 36 = .ok (.iconst 1, 1) := by decide +kernel
theorem dX9_reads_37 : decode cX9_reads 37 = .ok (.invokevirtual 75, 3) := by decide +kernel
theorem dX9_reads_40 : decode cX9_reads 40 = .ok (.iconst 3, 1) := by decide +kernel
theorem dX9_reads_41 : decode cX9_reads 41 = .ok (.if_icmp .ne 16, 3) := by decide +kernel
theorem dX9_reads_44 : decode cX9_reads 44 = .ok (.aload_n 0, 1) := by decide +kernel
theorem dX9_reads_45 : decode cX9_reads 45 = .ok (.iload_n 2, 1) := by decide +kernel
theorem dX9_reads_46 : decode cX9_reads 46 = .ok (.iload_n 1, 1) := by decide +kernel
theorem dX9_reads_47 : decode cX9_reads 47 = .ok (.invokevirtual 120, 3) := by decide +kernel
theorem dX9_reads_50 : decode cX9_reads 50 = .ok (.aload_n 0, 1) := by decide +kernel
theorem dX9_reads_51 : decode cX9_reads 51 = .ok (.iload_n 2, 1) := by decide +kernel
theorem dX9_reads_52 : decode cX9_reads 52 = .ok (.iconst 0, 1) := by decide +kernel
theorem dX9_reads_53 : decode cX9_reads 53 = .ok (.iconst 0, 1) := by decide +kernel
theorem dX9_reads_54 : decode cX9_reads 54 = .ok (.invokevirtual 86, 3) := by decide +kernel
theorem dX9_reads_57 : decode cX9_reads 57 = .ok (.aload_n 0, 1) := by decide +kernel
theorem dX9_reads_58 : decode cX9_reads 58 = .ok (.iload_n 1, 1) := by decide +kernel
theorem dX9_reads_59 : decode cX9_reads 59 = .ok (.iload_n 2, 1) := by decide +kernel
theorem dX9_reads_60 : decode cX9_reads 60 = .ok (.invokevirtual 123, 3) := by decide +kernel
theorem dX9_reads_63 : decode cX9_reads 63 = .ok (.aload_n 0, 1) := by decide +kernel
theorem dX9_reads_64 : decode cX9_reads 64 = .ok (.iload_n 2, 1) := by decide +kernel
theorem dX9_reads_65 : decode cX9_reads 65 = .ok (.iload_n 1, 1) := by decide +kernel
theorem dX9_reads_66 : decode cX9_reads 66 = .ok (.invokevirtual 126, 3) := by decide +kernel
theorem dX9_reads_69 : decode cX9_reads 69 = .ok (.aload_n 0, 1) := by decide +kernel
theorem dX9_reads_70 : decode cX9_reads 70 = .ok (.iload_n 1, 1) := by decide +kernel
theorem dX9_reads_71 : decode cX9_reads 71 = .ok (.aload_n 0, 1) := by decide +kernel
theorem dX9_reads_72 : decode cX9_reads 72 = .ok (.iload_n 1, 1) := by decide +kernel
theorem dX9_reads_73 : decode cX9_reads 73 = .ok (.iconst 0, 1) := by decide +kernel
theorem dX9_reads_74 : decode cX9_reads 74 = .ok (.invokevirtual 49, 3) := by decide +kernel
theorem dX9_reads_77 : decode cX9_reads 77 = .ok (.iconst 1, 1) := by decide +kernel
theorem dX9_reads_78 : decode cX9_reads 78 = .ok (.isub, 1) := by decide +kernel
theorem dX9_reads_79 : decode cX9_reads 79 = .ok (.iconst 1, 1) := by decide +kernel
theorem dX9_reads_80 : decode cX9_reads 80 = .ok (.invokevirtual 53, 3) := by decide +kernel
theorem dX9_reads_83 : decode cX9_reads 83 = .ok (.ireturn, 1) := by decide +kernel
theorem dX9_changes_0 : decode cX9_changes 0 = .ok (.aload_n 0, 1) := by decide +kernel
theorem dX9_changes_1 : decode cX9_changes 1 = .ok (.getfield 7, 3) := by decide +kernel
theorem dX9_changes_4 : decode cX9_changes 4 = .ok (.iconst 4, 1) := by decide +kernel
theorem dX9_changes_5 : decode cX9_changes 5 = .ok (.iaload, 1) := by decide +kernel
theorem dX9_changes_6 : decode cX9_changes 6 = .ok (.istore 4, 2) := by decide +kernel
theorem dX9_changes_8 : decode cX9_changes 8 = .ok (.aload_n 0, 1) := by decide +kernel
theorem dX9_changes_9 : decode cX9_changes 9 = .ok (.iload_n 1, 1) := by decide +kernel
theorem dX9_changes_10 : decode cX9_changes 10 = .ok (.iconst 1, 1) := by decide +kernel
theorem dX9_changes_11 : decode cX9_changes 11 = .ok (.iconst 1, 1) := by decide +kernel
theorem dX9_changes_12 : decode cX9_changes 12 = .ok (.invokevirtual 57, 3) := by decide +kernel
theorem dX9_changes_15 : decode cX9_changes 15 = .ok (.aload_n 0, 1) := by decide +kernel
theorem dX9_changes_16 : decode cX9_changes 16 = .ok (.iload_n 2, 1) := by decide +kernel
theorem dX9_changes_17 : decode cX9_changes 17 = .ok (.iconst 1, 1) := by decide +kernel
theorem dX9_changes_18 : decode cX9_changes 18 = .ok (.invokevirtual 75, 3) := by decide +kernel
theorem dX9_changes_21 : decode cX9_changes 21 = .ok (.iconst 3, 1) := by decide +kernel
theorem dX9_changes_22 : decode cX9_changes 22 = .ok (.if_icmp .ne 37, 3) := by decide +kernel
theorem dX9_changes_25 : decode cX9_changes 25 = .ok (.aload_n 0, 1) := by decide +kernel
theorem dX9_changes_26 : decode cX9_changes 26 = .ok (.iload_n 2, 1) := by decide +kernel
theorem dX9_changes_27 : decode cX9_changes 27 = .ok (.iconst 2, 1) := by decide +kernel
theorem dX9_changes_28 : decode cX9_changes 28 = .ok (.invokevirtual 75, 3) := by decide +kernel
theorem dX9_changes_31 : decode cX9_changes 31 = .ok (.iload_n 1, 1) := by decide +kernel
theorem dX9_changes_32 : decode cX9_changes 32 = .ok (.invokestatic 82, 3) := by decide +kernel
theorem dX9_changes_35 : decode cX9_changes 35 = .ok (.ifCond .eq 24, 3) := by decide +kernel
theorem dX9_changes_38 : decode cX9_changes 38 = .ok (.aload_n 0, 1) := by decide +kernel
theorem dX9_changes_39 : decode cX9_changes 39 = .ok (.iload_n 1, 1) := by decide +kernel
theorem dX9_changes_40 : decode cX9_changes 40 = .ok (.aload_n 0, 1) := by decide +kernel
theorem dX9_changes_41 : decode cX9_changes 41 = .ok (.iload_n 1, 1) := by decide +kernel
theorem dX9_changes_42 : decode cX9_changes 42 = .ok (.iload_n 2, 1) := by decide +kernel
theorem dX9_changes_43 : decode cX9_changes 43 = .ok (.invokevirtual 95, 3) := by decide +kernel
theorem dX9_changes_46 : decode cX9_changes 46 = .ok (.invokevirtual 117, 3) := by decide +kernel
theorem dX9_changes_49 : decode cX9_changes 49 = .ok (.aload_n 0, 1) := by decide +kernel
theorem dX9_changes_50 : decode cX9_changes 50 = .ok (.iload_n 1, 1) := by decide +kernel
theorem dX9_changes_51 : decode cX9_changes 51 = .ok (.iconst 2, 1) := by decide +kernel
theorem dX9_changes_52 : decode cX9_changes 52 = .ok (.iconst 1, 1) := by decide +kernel
theorem dX9_changes_53 : decode cX9_changes 53 = .ok (.invokevirtual 57, 3) := by decide +kernel
theorem dX9_changes_56 : decode cX9_changes 56 = .ok (.goto 57, 3) := by decide +kernel
theorem dX9_changes_59 : decode cX9_changes 59 = .ok (.aload_n 0, 1) := by decide +kernel
theorem dX9_changes_60 : decode cX9_changes 60 = .ok (.iload_n 2, 1) := by decide +kernel
theorem dX9_changes_61 : decode cX9_changes 61 = .ok (.iload_n 1, 1) := by decide +kernel
theorem dX9_changes_62 : decode cX9_changes 62 = .ok (.invokevirtual 120, 3) := by decide +kernel
theorem dX9_changes_65 : decode cX9_changes 65 = .ok (.aload_n 0, 1) := by decide +kernel
theorem dX9_changes_66 : decode cX9_changes 66 = .ok (.iload_n 1, 1) := by decide +kernel
theorem dX9_changes_67 : decode cX9_changes 67 = .ok (.iload_n 2, 1) := by decide +kernel
theorem dX9_changes_68 : decode cX9_changes 68 = .ok (.invokevirtual 95, 3) := by decide +kernel
theorem dX9_changes_71 : decode cX9_changes 71 = .ok (.ifCond .ge 12, 3) := by decide +kernel
theorem dX9_changes_74 : decode cX9_changes 74 = .ok (.aload_n 0, 1) := by decide +kernel
theorem dX9_changes_75 : decode cX9_changes 75 = .ok (.iload_n 1, 1) := by decide +kernel
theorem dX9_changes_76 : decode cX9_changes 76 = .ok (.iload_n 2, 1) := by decide +kernel
theorem dX9_changes_77 : decode cX9_changes 77 = .ok (.invokevirtual 123, 3) := by decide +kernel
theorem dX9_changes_80 : decode cX9_changes 80 = .ok (.goto 24, 3) := by decide +kernel
theorem dX9_changes_83 : decode cX9_changes 83 = .ok (.aload_n 0, 1) := by decide +kernel
theorem dX9_changes_84 : decode cX9_changes 84 = .ok (.iload_n 1, 1) := by decide +kernel
theorem dX9_changes_85 : decode cX9_changes 85 = .ok (.aload_n 0, 1) := by decide +kernel
theorem dX9_changes_86 : decode cX9_changes 86 = .ok (.iload_n 1, 1) := by decide +kernel
theorem dX9_changes_87 : decode cX9_changes 87 = .ok (.iload_n 2, 1) := by decide +kernel
theorem dX9_changes_88 : decode cX9_changes 88 = .ok (.invokevirtual 95, 3) := by decide +kernel
theorem dX9_changes_91 : decode cX9_changes 91 = .ok (.invokevirtual 117, 3) := by decide +kernel
theorem dX9_changes_94 : decode cX9_changes 94 = .ok (.aload_n 0, 1) := by decide +kernel
theorem dX9_changes_95 : decode cX9_changes 95 = .ok (.getfield 7, 3) := by decide +kernel
theorem dX9_changes_98 : decode cX9_changes 98 = .ok (.iconst 4, 1) := by decide +kernel
theorem dX9_changes_99 : decode cX9_changes 99 = .ok (.dup2, 1) := by decide +kernel
theorem dX9_changes_100 : decode cX9_changes 100 = .ok (.iaload, 1) := by decide +kernel
theorem dX9_changes_101 : decode cX9_changes 101 = .ok (.iconst 2, 1) := by decide +kernel
theorem dX9_changes_102 : decode cX9_changes 102 = .ok (.iadd, 1) := by decide +kernel
theorem dX9_changes_103 : decode cX9_changes 103 = .ok (.iastore, 1) := by decide +kernel
theorem dX9_changes_104 : decode cX9_changes 104 = .ok (.aload_n 0, 1) := by decide +kernel
theorem dX9_changes_105 : decode cX9_changes 105 = .ok (.iload_n 2, 1) := by decide +kernel
theorem dX9_changes_106 : decode cX9_changes 106 = .ok (.iconst 3, 1) := by decide +kernel
theorem dX9_changes_107 : decode cX9_changes 107 = .ok (.iconst 1, 1) := by decide +kernel
theorem dX9_changes_108 : decode cX9_changes 108 = .ok (.iload_n 1, 1) := by decide +kernel
theorem dX9_changes_109 : decode cX9_changes 109 = .ok (.ishl, 1) := by decide +kernel
theorem dX9_changes_110 : decode cX9_changes 110 = .ok (.invokevirtual 86, 3) := by decide +kernel
theorem dX9_changes_113 : decode cX9_changes 113 = .ok (.aload_n 0, 1) := by decide +kernel
theorem dX9_changes_114 : decode cX9_changes 114 = .ok (.iload_n 1, 1) := by decide +kernel
theorem dX9_changes_115 : decode cX9_changes 115 = .ok (.iconst 0, 1) := by decide +kernel
theorem dX9_changes_116 : decode cX9_changes 116 = .ok (.invokevirtual 49, 3) := by decide +kernel
theorem dX9_changes_119 : decode cX9_changes 119 = .ok (.iconst 1, 1) := by decide +kernel
theorem dX9_changes_120 : decode cX9_changes 120 = .ok (.isub, 1) := by decide +kernel
theorem dX9_changes_121 : decode cX9_changes 121 = .ok (.istore 5, 2) := by decide +kernel
theorem dX9_changes_123 : decode cX9_changes 123 = .ok (.aload_n 0, 1) := by decide +kernel
theorem dX9_changes_124 : decode cX9_changes 124 = .ok (.iload_n 1, 1) := by decide +kernel
theorem dX9_changes_125 : decode cX9_changes 125 = .ok (.iload 5, 2) := by decide +kernel
theorem dX9_changes_127 : decode cX9_changes 127 = .ok (.iconst 1, 1) := by decide +kernel
theorem dX9_changes_128 : decode cX9_changes 128 = .ok (.iload_n 3, 1) := by decide +kernel
theorem dX9_changes_129 : decode cX9_changes 129 = .ok (.invokevirtual 61, 3) := by decide +kernel
theorem dX9_changes_132 : decode cX9_changes 132 = .ok (.aload_n 0, 1) := by decide +kernel
theorem dX9_changes_133 : decode cX9_changes 133 = .ok (.iload_n 1, 1) := by decide +kernel
theorem dX9_changes_134 : decode cX9_changes 134 = .ok (.iload 5, 2) := by decide +kernel
theorem dX9_changes_136 : decode cX9_changes 136 = .ok (.iconst 2, 1) := by decide +kernel
theorem dX9_changes_137 : decode cX9_changes 137 = .ok (.iconst 1, 1) := by decide +kernel
theorem dX9_changes_138 : decode cX9_changes 138 = .ok (.invokevirtual 61, 3) := by decide +kernel
theorem dX9_changes_141 : decode cX9_changes 141 = .ok (.aload_n 0, 1) := by decide +kernel
theorem dX9_changes_142 : decode cX9_changes 142 = .ok (.getfield 7, 3) := by decide +kernel
theorem dX9_changes_145 : decode cX9_changes 145 = .ok (.iconst 4, 1) := by decide +kernel
theorem dX9_changes_146 : decode cX9_changes 146 = .ok (.iaload, 1) := by decide +kernel
theorem dX9_changes_147 : decode cX9_changes 147 = .ok (.iload 4, 2) := by decide +kernel
theorem dX9_changes_149 : decode cX9_changes 149 = .ok (.isub, 1) := by decide +kernel
theorem dX9_changes_150 : decode cX9_changes 150 = .ok (.ireturn, 1) := by decide +kernel
theorem dX9_enter_0 : decode cX9_enter 0 = .ok (.aload_n 0, 1) := by decide +kernel
theorem dX9_enter_1 : decode cX9_enter 1 = .ok (.getfield 7, 3) := by decide +kernel
theorem dX9_enter_4 : decode cX9_enter 4 = .ok (.bipush 7, 2) := by decide +kernel
theorem dX9_enter_6 : decode cX9_enter 6 = .ok (.iaload, 1) := by decide +kernel
theorem dX9_enter_7 : decode cX9_enter 7 = .ok (.bipush 60, 2) := by decide +kernel
theorem dX9_enter_9 : decode cX9_enter 9 = .ok (.if_icmp .ne 57, 3) := by decide +kernel
theorem dX9_enter_12 : decode cX9_enter 12 = .ok (.aload_n 0, 1) := by decide +kernel
theorem dX9_enter_13 : decode cX9_enter 13 = .ok (.getfield 7, 3) := by decide +kernel
theorem dX9_enter_16 : decode cX9_enter 16 = .ok (.bipush 7, 2) := by decide +kernel
theorem dX9_enter_18 : decode cX9_enter 18 = .ok (.dup2, 1) := by decide +kernel
theorem dX9_enter_19 : decode cX9_enter 19 = .ok (.iaload, 1) := by decide +kernel
theorem dX9_enter_20 : decode cX9_enter 20 = .ok (.iconst 1, 1) := by decide +kernel
theorem dX9_enter_21 : decode cX9_enter 21 = .ok (.isub, 1) := by decide +kernel
theorem dX9_enter_22 : decode cX9_enter 22 = .ok (.iastore, 1) := by decide +kernel
theorem dX9_enter_23 : decode cX9_enter 23 = .ok (.sipush 592, 3) := by decide +kernel
theorem dX9_enter_26 : decode cX9_enter 26 = .ok (.istore 4, 2) := by decide +kernel
theorem dX9_enter_28 : decode cX9_enter 28 = .ok (.iload 4, 2) := by decide +kernel
theorem dX9_enter_30 : decode cX9_enter 30 = .ok (.sipush 592, 3) := by decide +kernel
theorem dX9_enter_33 : decode cX9_enter 33 = .ok (.aload_n 0, 1) := by decide +kernel
theorem dX9_enter_34 : decode cX9_enter 34 = .ok (.getfield 7, 3) := by decide +kernel
theorem dX9_enter_37 : decode cX9_enter 37 = .ok (.bipush 7, 2) := by decide +kernel
theorem dX9_enter_39 : decode cX9_enter 39 = .ok (.iaload, 1) := by decide +kernel
theorem dX9_enter_40 : decode cX9_enter 40 = .ok (.iadd, 1) := by decide +kernel
theorem dX9_enter_41 : decode cX9_enter 41 = .ok (.if_icmp .ge 25, 3) := by decide +kernel
theorem dX9_enter_44 : decode cX9_enter 44 = .ok (.aload_n 0, 1) := by decide +kernel
theorem dX9_enter_45 : decode cX9_enter 45 = .ok (.getfield 7, 3) := by decide +kernel
theorem dX9_enter_48 : decode cX9_enter 48 = .ok (.iload 4, 2) := by decide +kernel
theorem dX9_enter_50 : decode cX9_enter 50 = .ok (.aload_n 0, 1) := by decide +kernel
theorem dX9_enter_51 : decode cX9_enter 51 = .ok (.getfield 7, 3) := by decide +kernel
theorem dX9_enter_54 : decode cX9_enter 54 = .ok (.iload 4, 2) := by decide +kernel
theorem dX9_enter_56 : decode cX9_enter 56 = .ok (.iconst 1, 1) := by decide +kernel
theorem dX9_enter_57 : decode cX9_enter 57 = .ok (.iadd, 1) := by decide +kernel
theorem dX9_enter_58 : decode cX9_enter 58 = .ok (.iaload, 1) := by decide +kernel
theorem dX9_enter_59 : decode cX9_enter 59 = .ok (.iastore, 1) := by decide +kernel
theorem dX9_enter_60 : decode cX9_enter 60 = .ok (.iinc 4 1, 3) := by decide +kernel
theorem dX9_enter_63 : decode cX9_enter 63 = .ok (.goto (-35), 3) := by decide +kernel
theorem dX9_enter_66 : decode cX9_enter 66 = .ok (.aload_n 0, 1) := by decide +kernel
theorem dX9_enter_67 : decode cX9_enter 67 = .ok (.getfield 7, 3) := by decide +kernel
theorem dX9_enter_70 : decode cX9_enter 70 = .ok (.sipush 592, 3) := by decide +kernel
theorem dX9_enter_73 : decode cX9_enter 73 = .ok (.aload_n 0, 1) := by decide +kernel
theorem dX9_enter_74 : decode cX9_enter 74 = .ok (.getfield 7, 3) := by decide +kernel
theorem dX9_enter_77 : decode cX9_enter 77 = .ok (.bipush 7, 2) := by decide +kernel
theorem dX9_enter_79 : decode cX9_enter 79 = .ok (.iaload, 1) := by decide +kernel
theorem dX9_enter_80 : decode cX9_enter 80 = .ok (.iadd, 1) := by decide +kernel
theorem dX9_enter_81 : decode cX9_enter 81 = .ok (.iconst 2, 1) := by decide +kernel
theorem dX9_enter_82 : decode cX9_enter 82 = .ok (.bipush 24, 2) := by decide +kernel
theorem dX9_enter_84 : decode cX9_enter 84 = .ok (.iload_n 1, 1) := by decide +kernel
theorem dX9_enter_85 : decode cX9_enter 85 = .ok (.imul, 1) := by decide +kernel
theorem dX9_enter_86 : decode cX9_enter 86 = .ok (.iload_n 2, 1) := by decide +kernel
theorem dX9_enter_87 : decode cX9_enter 87 = .ok (.iadd, 1) := by decide +kernel
theorem dX9_enter_88 : decode cX9_enter 88 = .ok (.imul, 1) := by decide +kernel
theorem dX9_enter_89 : decode cX9_enter 89 = .ok (.iload_n 3, 1) := by decide +kernel
theorem dX9_enter_90 : decode cX9_enter 90 = .ok (.iadd, 1) := by decide +kernel
theorem dX9_enter_91 : decode cX9_enter 91 = .ok (.iastore, 1) := by decide +kernel
theorem dX9_enter_92 : decode cX9_enter 92 = .ok (.aload_n 0, 1) := by decide +kernel
theorem dX9_enter_93 : decode cX9_enter 93 = .ok (.getfield 7, 3) := by decide +kernel
theorem dX9_enter_96 : decode cX9_enter 96 = .ok (.bipush 7, 2) := by decide +kernel
theorem dX9_enter_98 : decode cX9_enter 98 = .ok (.dup2, 1) := by decide +kernel
theorem dX9_enter_99 : decode cX9_enter 99 = .ok (.iaload, 1) := by decide +kernel
theorem dX9_enter_100 : decode cX9_enter 100 = .ok (.iconst 1, 1) := by decide +kernel
theorem dX9_enter_101 : decode cX9_enter 101 = .ok (.iadd, 1) := by decide +kernel
theorem dX9_enter_102 : decode cX9_enter 102 = .ok (.iastore, 1) := by decide +kernel
theorem dX9_enter_103 : decode cX9_enter 103 = .ok (.return_, 1) := by decide +kernel
theorem dX9_tryRead_0 : decode cX9_tryRead 0 = .ok (.iload_n 1, 1) := by decide +kernel
theorem dX9_tryRead_1 : decode cX9_tryRead 1 = .ok (.invokestatic 129, 3) := by decide +kernel
theorem dX9_tryRead_4 : decode cX9_tryRead 4 = .ok (.ifCond .eq 10, 3) := by decide +kernel
theorem dX9_tryRead_7 : decode cX9_tryRead 7 = .ok (.iload_n 2, 1) := by decide +kernel
theorem dX9_tryRead_8 : decode cX9_tryRead 8 = .ok (.invokestatic 133, 3) := by decide +kernel
theorem dX9_tryRead_11 : decode cX9_tryRead 11 = .ok (.ifCond .ne 5, 3) := by decide +kernel
theorem dX9_tryRead_14 : decode cX9_tryRead 14 = .ok (.iconst (-1), 1) := by decide +kernel
theorem dX9_tryRead_15 : decode cX9_tryRead 15 = .ok (.ireturn, 1) := by decide +kernel
theorem dX9_tryRead_16 : decode cX9_tryRead 16 = .ok (.aload_n 0, 1) := by decide +kernel
theorem dX9_tryRead_17 : decode cX9_tryRead 17 = .ok (.iload_n 3, 1) := by decide +kernel
theorem dX9_tryRead_18 : decode cX9_tryRead 18 = .ok (.invokevirtual 136, 3) := by decide +kernel
theorem dX9_tryRead_21 : decode cX9_tryRead 21 = .ok (.aload_n 0, 1) := by decide +kernel
theorem dX9_tryRead_22 : decode cX9_tryRead 22 = .ok (.iload_n 1, 1) := by decide +kernel
theorem dX9_tryRead_23 : decode cX9_tryRead 23 = .ok (.iload_n 2, 1) := by decide +kernel
theorem dX9_tryRead_24 : decode cX9_tryRead 24 = .ok (.iconst 0, 1) := by decide +kernel
theorem dX9_tryRead_25 : decode cX9_tryRead 25 = .ok (.invokevirtual 140, 3) := by decide +kernel
theorem dX9_tryRead_28 : decode cX9_tryRead 28 = .ok (.aload_n 0, 1) := by decide +kernel
theorem dX9_tryRead_29 : decode cX9_tryRead 29 = .ok (.iload_n 1, 1) := by decide +kernel
theorem dX9_tryRead_30 : decode cX9_tryRead 30 = .ok (.iload_n 2, 1) := by decide +kernel
theorem dX9_tryRead_31 : decode cX9_tryRead 31 = .ok (.invokevirtual 143, 3) := by decide +kernel
theorem dX9_tryRead_34 : decode cX9_tryRead 34 = .ok (.ireturn, 1) := by decide +kernel
theorem dX9_read_0 : decode cX9_read 0 = .ok (.aload_n 0, 1) := by decide +kernel
theorem dX9_read_1 : decode cX9_read 1 = .ok (.iload_n 1, 1) := by decide +kernel
theorem dX9_read_2 : decode cX9_read 2 = .ok (.iload_n 2, 1) := by decide +kernel
theorem dX9_read_3 : decode cX9_read 3 = .ok (.iconst 1, 1) := by decide +kernel
theorem dX9_read_4 : decode cX9_read 4 = .ok (.invokevirtual 146, 3) := by decide +kernel
theorem dX9_read_7 : decode cX9_read 7 = .ok (.ireturn, 1) := by decide +kernel
theorem dX9_tryChange_0 : decode cX9_tryChange 0 = .ok (.iload_n 1, 1) := by decide +kernel
theorem dX9_tryChange_1 : decode cX9_tryChange 1 = .ok (.invokestatic 129, 3) := by decide +kernel
theorem dX9_tryChange_4 : decode cX9_tryChange 4 = .ok (.ifCond .eq 10, 3) := by decide +kernel
theorem dX9_tryChange_7 : decode cX9_tryChange 7 = .ok (.iload_n 2, 1) := by decide +kernel
theorem dX9_tryChange_8 : decode cX9_tryChange 8 = .ok (.invokestatic 133, 3) := by decide +kernel
theorem dX9_tryChange_11 : decode cX9_tryChange 11 = .ok (.ifCond .ne 5, 3) := by decide +kernel
theorem dX9_tryChange_14 : decode cX9_tryChange 14 = .ok (.iconst (-1), 1) := by decide +kernel
theorem dX9_tryChange_15 : decode cX9_tryChange 15 = .ok (.ireturn, 1) := by decide +kernel
theorem dX9_tryChange_16 : decode cX9_tryChange 16 = .ok (.iload_n 3, 1) := by decide +kernel
theorem dX9_tryChange_17 : decode cX9_tryChange 17 = .ok (.iconst 0, 1) := by decide +kernel
theorem dX9_tryChange_18 : decode cX9_tryChange 18 = .ok (.sipush 9999, 3) := by decide +kernel
theorem dX9_tryChange_21 : decode cX9_tryChange 21 = .ok (.invokestatic 35, 3) := by decide +kernel
theorem dX9_tryChange_24 : decode cX9_tryChange 24 = .ok (.ifCond .ne 6, 3) := by decide +kernel
theorem dX9_tryChange_27 : decode cX9_tryChange 27 = .ok (.bipush (-2), 2) := by decide +kernel
theorem dX9_tryChange_29 : decode cX9_tryChange 29 = .ok (.ireturn, 1) := by decide +kernel
theorem dX9_tryChange_30 : decode cX9_tryChange 30 = .ok (.aload_n 0, 1) := by decide +kernel
theorem dX9_tryChange_31 : decode cX9_tryChange 31 = .ok (.iload 4, 2) := by decide +kernel
theorem dX9_tryChange_33 : decode cX9_tryChange 33 = .ok (.invokevirtual 136, 3) := by decide +kernel
theorem dX9_tryChange_36 : decode cX9_tryChange 36 = .ok (.aload_n 0, 1) := by decide +kernel
theorem dX9_tryChange_37 : decode cX9_tryChange 37 = .ok (.iload_n 1, 1) := by decide +kernel
theorem dX9_tryChange_38 : decode cX9_tryChange 38 = .ok (.iload_n 2, 1) := by decide +kernel
theorem dX9_tryChange_39 : decode cX9_tryChange 39 = .ok (.iconst 1, 1) := by decide +kernel
theorem dX9_tryChange_40 : decode cX9_tryChange 40 = .ok (.invokevirtual 140, 3) := by decide +kernel
theorem dX9_tryChange_43 : decode cX9_tryChange 43 = .ok (.aload_n 0, 1) := by decide +kernel
theorem dX9_tryChange_44 : decode cX9_tryChange 44 = .ok (.iload_n 1, 1) := by decide +kernel
theorem dX9_tryChange_45 : decode cX9_tryChange 45 = .ok (.iload_n 2, 1) := by decide +kernel
theorem dX9_tryChange_46 : decode cX9_tryChange 46 = .ok (.iload_n 3, 1) := by decide +kernel
theorem dX9_tryChange_47 : decode cX9_tryChange 47 = .ok (.invokevirtual 150, 3) := by decide +kernel
theorem dX9_tryChange_50 : decode cX9_tryChange 50 = .ok (.ireturn, 1) := by decide +kernel
theorem dX9_change_0 : decode cX9_change 0 = .ok (.aload_n 0, 1) := by decide +kernel
theorem dX9_change_1 : decode cX9_change 1 = .ok (.iload_n 1, 1) := by decide +kernel
theorem dX9_change_2 : decode cX9_change 2 = .ok (.iload_n 2, 1) := by decide +kernel
theorem dX9_change_3 : decode cX9_change 3 = .ok (.iload_n 3, 1) := by decide +kernel
theorem dX9_change_4 : decode cX9_change 4 = .ok (.iconst 1, 1) := by decide +kernel
theorem dX9_change_5 : decode cX9_change 5 = .ok (.invokevirtual 153, 3) := by decide +kernel
theorem dX9_change_8 : decode cX9_change 8 = .ok (.ireturn, 1) := by decide +kernel
theorem dX9_tryPutBack_0 : decode cX9_tryPutBack 0 = .ok (.iload_n 1, 1) := by decide +kernel
theorem dX9_tryPutBack_1 : decode cX9_tryPutBack 1 = .ok (.invokestatic 129, 3) := by decide +kernel
theorem dX9_tryPutBack_4 : decode cX9_tryPutBack 4 = .ok (.ifCond .eq 10, 3) := by decide +kernel
theorem dX9_tryPutBack_7 : decode cX9_tryPutBack 7 = .ok (.iload_n 2, 1) := by decide +kernel
theorem dX9_tryPutBack_8 : decode cX9_tryPutBack 8 = .ok (.invokestatic 133, 3) := by decide +kernel
theorem dX9_tryPutBack_11 : decode cX9_tryPutBack 11 = .ok (.ifCond .ne 5, 3) := by decide +kernel
theorem dX9_tryPutBack_14 : decode cX9_tryPutBack 14 = .ok (.iconst (-1), 1) := by decide +kernel
theorem dX9_tryPutBack_15 : decode cX9_tryPutBack 15 = .ok (.ireturn, 1) := by decide +kernel
theorem dX9_tryPutBack_16 : decode cX9_tryPutBack 16 = .ok (.aload_n 0, 1) := by decide +kernel
theorem dX9_tryPutBack_17 : decode cX9_tryPutBack 17 = .ok (.iload_n 1, 1) := by decide +kernel
theorem dX9_tryPutBack_18 : decode cX9_tryPutBack 18 = .ok (.iload_n 2, 1) := by decide +kernel
theorem dX9_tryPutBack_19 : decode cX9_tryPutBack 19 = .ok (.invokevirtual 95, 3) := by decide +kernel
theorem dX9_tryPutBack_22 : decode cX9_tryPutBack 22 = .ok (.istore 4, 2) := by decide +kernel
theorem dX9_tryPutBack_24 : decode cX9_tryPutBack 24 = .ok (.iload 4, 2) := by decide +kernel
theorem dX9_tryPutBack_26 : decode cX9_tryPutBack 26 = .ok (.ifCond .ge 6, 3) := by decide +kernel
theorem dX9_tryPutBack_29 : decode cX9_tryPutBack 29 = .ok (.bipush (-5), 2) := by decide +kernel
theorem dX9_tryPutBack_31 : decode cX9_tryPutBack 31 = .ok (.ireturn, 1) := by decide +kernel
theorem dX9_tryPutBack_32 : decode cX9_tryPutBack 32 = .ok (.aload_n 0, 1) := by decide +kernel
theorem dX9_tryPutBack_33 : decode cX9_tryPutBack 33 = .ok (.iload_n 3, 1) := by decide +kernel
theorem dX9_tryPutBack_34 : decode cX9_tryPutBack 34 = .ok (.invokevirtual 136, 3) := by decide +kernel
theorem dX9_tryPutBack_37 : decode cX9_tryPutBack 37 = .ok (.aload_n 0, 1) := by decide +kernel
theorem dX9_tryPutBack_38 : decode cX9_tryPutBack 38 = .ok (.iload_n 1, 1) := by decide +kernel
theorem dX9_tryPutBack_39 : decode cX9_tryPutBack 39 = .ok (.iload 4, 2) := by decide +kernel
theorem dX9_tryPutBack_41 : decode cX9_tryPutBack 41 = .ok (.invokevirtual 110, 3) := by decide +kernel
theorem dX9_tryPutBack_44 : decode cX9_tryPutBack 44 = .ok (.ireturn, 1) := by decide +kernel
theorem dX9_putBack_0 : decode cX9_putBack 0 = .ok (.aload_n 0, 1) := by decide +kernel
theorem dX9_putBack_1 : decode cX9_putBack 1 = .ok (.iload_n 1, 1) := by decide +kernel
theorem dX9_putBack_2 : decode cX9_putBack 2 = .ok (.iload_n 2, 1) := by decide +kernel
theorem dX9_putBack_3 : decode cX9_putBack 3 = .ok (.iconst 1, 1) := by decide +kernel
theorem dX9_putBack_4 : decode cX9_putBack 4 = .ok (.invokevirtual 157, 3) := by decide +kernel
theorem dX9_putBack_7 : decode cX9_putBack 7 = .ok (.ireturn, 1) := by decide +kernel
theorem dX9_tryRecall_0 : decode cX9_tryRecall 0 = .ok (.iload_n 1, 1) := by decide +kernel
theorem dX9_tryRecall_1 : decode cX9_tryRecall 1 = .ok (.invokestatic 133, 3) := by decide +kernel
theorem dX9_tryRecall_4 : decode cX9_tryRecall 4 = .ok (.ifCond .ne 5, 3) := by decide +kernel
theorem dX9_tryRecall_7 : decode cX9_tryRecall 7 = .ok (.iconst (-1), 1) := by decide +kernel
theorem dX9_tryRecall_8 : decode cX9_tryRecall 8 = .ok (.ireturn, 1) := by decide +kernel
theorem dX9_tryRecall_9 : decode cX9_tryRecall 9 = .ok (.aload_n 0, 1) := by decide +kernel
theorem dX9_tryRecall_10 : decode cX9_tryRecall 10 = .ok (.iload_n 1, 1) := by decide +kernel
theorem dX9_tryRecall_11 : decode cX9_tryRecall 11 = .ok (.iconst 1, 1) := by decide +kernel
theorem dX9_tryRecall_12 : decode cX9_tryRecall 12 = .ok (.invokevirtual 75, 3) := by decide +kernel
theorem dX9_tryRecall_15 : decode cX9_tryRecall 15 = .ok (.ifCond .ne 6, 3) := by decide +kernel
theorem dX9_tryRecall_18 : decode cX9_tryRecall 18 = .ok (.bipush (-5), 2) := by decide +kernel
theorem dX9_tryRecall_20 : decode cX9_tryRecall 20 = .ok (.ireturn, 1) := by decide +kernel
theorem dX9_tryRecall_21 : decode cX9_tryRecall 21 = .ok (.aload_n 0, 1) := by decide +kernel
theorem dX9_tryRecall_22 : decode cX9_tryRecall 22 = .ok (.iload_n 2, 1) := by decide +kernel
theorem dX9_tryRecall_23 : decode cX9_tryRecall 23 = .ok (.invokevirtual 136, 3) := by decide +kernel
