theorem dX3_copiesInTheWay_0 : decode cX3_copiesInTheWay 0 = .ok (.iconst 0, 1) := by decide +kernel
theorem dX3_copiesInTheWay_1 : decode cX3_copiesInTheWay 1 = .ok (.aload_n 0, 1) := by decide +kernel
theorem dX3_copiesInTheWay_2 : decode cX3_copiesInTheWay 2 = .ok (.getfield 37, 3) := by decide +kernel
theorem dX3_copiesInTheWay_5 : decode cX3_copiesInTheWay 5 = .ok (.getfield 169, 3) := by decide +kernel
theorem dX3_copiesInTheWay_8 : decode cX3_copiesInTheWay 8 = .ok (.iload_n 1, 1) := by decide +kernel
theorem dX3_copiesInTheWay_9 : decode cX3_copiesInTheWay 9 = .ok (.invokevirtual 100, 3) := by decide +kernel
theorem dX3_copiesInTheWay_12 : decode cX3_copiesInTheWay 12 = .ok (.aload_n 0, 1) := by decide +kernel
theorem dX3_copiesInTheWay_13 : decode cX3_copiesInTheWay 13 = .ok (.getfield 18, 3) := by decide +kernel
theorem dX3_copiesInTheWay_16 : decode cX3_copiesInTheWay 16 = .ok (.iconst 2, 1) := by decide +kernel
theorem dX3_copiesInTheWay_17 : decode cX3_copiesInTheWay 17 = .ok (.invokevirtual 100, 3) := by decide +kernel
theorem dX3_copiesInTheWay_20 : decode cX3_copiesInTheWay 20 = .ok (.isub, 1) := by decide +kernel
theorem dX3_copiesInTheWay_21 : decode cX3_copiesInTheWay 21 = .ok (.iconst 1, 1) := by decide +kernel
theorem dX3_copiesInTheWay_22 : decode cX3_copiesInTheWay 22 = .ok (.iadd, 1) := by decide +kernel
theorem dX3_copiesInTheWay_23 : decode cX3_copiesInTheWay 23 = .ok (.invokestatic 172, 3) := by decide +kernel
theorem dX3_copiesInTheWay_26 : decode cX3_copiesInTheWay 26 = .ok (.ireturn, 1) := by decide +kernel
theorem dX3_noteUse_0 : decode cX3_noteUse 0 = .ok (.aload_n 0, 1) := by decide +kernel
theorem dX3_noteUse_1 : decode cX3_noteUse 1 = .ok (.getfield 57, 3) := by decide +kernel
theorem dX3_noteUse_4 : decode cX3_noteUse 4 = .ok (.iload_n 1, 1) := by decide +kernel
theorem dX3_noteUse_5 : decode cX3_noteUse 5 = .ok (.iconst 1, 1) := by decide +kernel
theorem dX3_noteUse_6 : decode cX3_noteUse 6 = .ok (.invokevirtual 135, 3) := by decide +kernel
theorem dX3_noteUse_9 : decode cX3_noteUse 9 = .ok (.aload_n 0, 1) := by decide +kernel
theorem dX3_noteUse_10 : decode cX3_noteUse 10 = .ok (.getfield 60, 3) := by decide +kernel
theorem dX3_noteUse_13 : decode cX3_noteUse 13 = .ok (.iload_n 1, 1) := by decide +kernel
theorem dX3_noteUse_14 : decode cX3_noteUse 14 = .ok (.iload_n 2, 1) := by decide +kernel
theorem dX3_noteUse_15 : decode cX3_noteUse 15 = .ok (.ifCond .eq 7, 3) := by decide +kernel
theorem dX3_noteUse_18 : decode cX3_noteUse 18 = .ok (.iconst 1, 1) := by decide +kernel
theorem dX3_noteUse_19 : decode cX3_noteUse 19 = .ok (.goto 4, 3) := by decide +kernel
theorem dX3_noteUse_22 : decode cX3_noteUse 22 = .ok (.iconst 0, 1) := by decide +kernel
theorem dX3_noteUse_23 : decode cX3_noteUse 23 = .ok (.invokevirtual 135, 3) := by decide +kernel
theorem dX3_noteUse_26 : decode cX3_noteUse 26 = .ok (.return_, 1) := by decide +kernel
theorem dX3_called_0 : decode cX3_called 0 = .ok (.aload_n 0, 1) := by decide +kernel
theorem dX3_called_1 : decode cX3_called 1 = .ok (.getfield 30, 3) := by decide +kernel
theorem dX3_called_4 : decode cX3_called 4 = .ok (.iload_n 1, 1) := by decide +kernel
theorem dX3_called_5 : decode cX3_called 5 = .ok (.aload_n 0, 1) := by decide +kernel
theorem dX3_called_6 : decode cX3_called 6 = .ok (.getfield 18, 3) := by decide +kernel
theorem dX3_called_9 : decode cX3_called 9 = .ok (.iconst 1, 1) := by decide +kernel
theorem dX3_called_10 : decode cX3_called 10 = .ok (.invokevirtual 100, 3) := by decide +kernel
theorem dX3_called_13 : decode cX3_called 13 = .ok (.invokevirtual 177, 3) := by decide +kernel
theorem dX3_called_16 : decode cX3_called 16 = .ok (.ireturn, 1) := by decide +kernel
theorem dX3_notesThatCall_0 : decode cX3_notesThatCall 0 = .ok (.iconst 0, 1) := by decide +kernel
theorem dX3_notesThatCall_1 : decode cX3_notesThatCall 1 = .ok (.istore_n 2, 1) := by decide +kernel
theorem dX3_notesThatCall_2 : decode cX3_notesThatCall 2 = .ok (.iconst 0, 1) := by decide +kernel
theorem dX3_notesThatCall_3 : decode cX3_notesThatCall 3 = .ok (.istore_n 3, 1) := by decide +kernel
theorem dX3_notesThatCall_4 : decode cX3_notesThatCall 4 = .ok (.iload_n 3, 1) := by decide +kernel
theorem dX3_notesThatCall_5 : decode cX3_notesThatCall 5 = .ok (.bipush 24, 2) := by decide +kernel
theorem dX3_notesThatCall_7 : decode cX3_notesThatCall 7 = .ok (.if_icmp .ge 28, 3) := by decide +kernel
theorem dX3_notesThatCall_10 : decode cX3_notesThatCall 10 = .ok (.iload_n 1, 1) := by decide +kernel
theorem dX3_notesThatCall_11 : decode cX3_notesThatCall 11 = .ok (.aload_n 0, 1) := by decide +kernel
theorem dX3_notesThatCall_12 : decode cX3_notesThatCall 12 = .ok (.iload_n 3, 1) := by decide +kernel
theorem dX3_notesThatCall_13 : decode cX3_notesThatCall 13 = .ok (.invokevirtual 154, 3) := by decide +kernel
theorem dX3_notesThatCall_16 : decode cX3_notesThatCall 16 = .ok (.invokestatic 157, 3) := by decide +kernel
theorem dX3_notesThatCall_19 : decode cX3_notesThatCall 19 = .ok (.ifCond .eq 10, 3) := by decide +kernel
theorem dX3_notesThatCall_22 : decode cX3_notesThatCall 22 = .ok (.iload_n 2, 1) := by decide +kernel
theorem dX3_notesThatCall_23 : decode cX3_notesThatCall 23 = .ok (.iload_n 3, 1) := by decide +kernel
theorem dX3_notesThatCall_24 : decode cX3_notesThatCall 24 = .ok (.invokestatic 145, 3) := by decide +kernel
theorem dX3_notesThatCall_27 : decode cX3_notesThatCall 27 = .ok (.ior, 1) := by decide +kernel
theorem dX3_notesThatCall_28 : decode cX3_notesThatCall 28 = .ok (.istore_n 2, 1) := by decide +kernel
theorem dX3_notesThatCall_29 : decode cX3_notesThatCall 29 = .ok (.iinc 3 1, 3) := by decide +kernel
theorem dX3_notesThatCall_32 : decode cX3_notesThatCall 32 = .ok (.goto (-28), 3) := by decide +kernel
theorem dX3_notesThatCall_35 : decode cX3_notesThatCall 35 = .ok (.iload_n 2, 1) := by decide +kernel
theorem dX3_notesThatCall_36 : decode cX3_notesThatCall 36 = .ok (.ireturn, 1) := by decide +kernel
theorem dX3_valueToRead_0 : decode cX3_valueToRead 0 = .ok (.iconst 0, 1) := by decide +kernel
theorem dX3_valueToRead_1 : decode cX3_valueToRead 1 = .ok (.istore_n 2, 1) := by decide +kernel
theorem dX3_valueToRead_2 : decode cX3_valueToRead 2 = .ok (.iload_n 2, 1) := by decide +kernel
theorem dX3_valueToRead_3 : decode cX3_valueToRead 3 = .ok (.bipush 16, 2) := by decide +kernel
theorem dX3_valueToRead_5 : decode cX3_valueToRead 5 = .ok (.if_icmp .ge 39, 3) := by decide +kernel
theorem dX3_valueToRead_8 : decode cX3_valueToRead 8 = .ok (.aload_n 0, 1) := by decide +kernel
theorem dX3_valueToRead_9 : decode cX3_valueToRead 9 = .ok (.getfield 30, 3) := by decide +kernel
theorem dX3_valueToRead_12 : decode cX3_valueToRead 12 = .ok (.iload_n 1, 1) := by decide +kernel
theorem dX3_valueToRead_13 : decode cX3_valueToRead 13 = .ok (.iload_n 2, 1) := by decide +kernel
theorem dX3_valueToRead_14 : decode cX3_valueToRead 14 = .ok (.invokevirtual 142, 3) := by decide +kernel
theorem dX3_valueToRead_17 : decode cX3_valueToRead 17 = .ok (.ifCond .eq 21, 3) := by decide +kernel
theorem dX3_valueToRead_20 : decode cX3_valueToRead 20 = .ok (.aload_n 0, 1) := by decide +kernel
theorem dX3_valueToRead_21 : decode cX3_valueToRead 21 = .ok (.getfield 37, 3) := by decide +kernel
theorem dX3_valueToRead_24 : decode cX3_valueToRead 24 = .ok (.iload_n 2, 1) := by decide +kernel
theorem dX3_valueToRead_25 : decode cX3_valueToRead 25 = .ok (.aload_n 0, 1) := by decide +kernel
theorem dX3_valueToRead_26 : decode cX3_valueToRead 26 = .ok (.getfield 37, 3) := by decide +kernel
theorem dX3_valueToRead_29 : decode cX3_valueToRead 29 = .ok (.iload_n 2, 1) := by decide +kernel
theorem dX3_valueToRead_30 : decode cX3_valueToRead 30 = .ok (.iload_n 1, 1) := by decide +kernel
theorem dX3_valueToRead_31 : decode cX3_valueToRead 31 = .ok (.invokevirtual 104, 3) := by decide +kernel
theorem dX3_valueToRead_34 : decode cX3_valueToRead 34 = .ok (.invokevirtual 112, 3) := by decide +kernel
theorem dX3_valueToRead_37 : decode cX3_valueToRead 37 = .ok (.ireturn, 1) := by decide +kernel
theorem dX3_valueToRead_38 : decode cX3_valueToRead 38 = .ok (.iinc 2 1, 3) := by decide +kernel
theorem dX3_valueToRead_41 : decode cX3_valueToRead 41 = .ok (.goto (-39), 3) := by decide +kernel
theorem dX3_valueToRead_44 : decode cX3_valueToRead 44 = .ok (.aload_n 0, 1) := by decide +kernel
theorem dX3_valueToRead_45 : decode cX3_valueToRead 45 = .ok (.getfield 24, 3) := by decide +kernel
theorem dX3_valueToRead_48 : decode cX3_valueToRead 48 = .ok (.iload_n 1, 1) := by decide +kernel
theorem dX3_valueToRead_49 : decode cX3_valueToRead 49 = .ok (.invokevirtual 100, 3) := by decide +kernel
theorem dX3_valueToRead_52 : decode cX3_valueToRead 52 = .ok (.ireturn, 1) := by decide +kernel
theorem dX3_messagesToRead_0 : decode cX3_messagesToRead 0 = .ok (.aload_n 0, 1) := by decide +kernel
theorem dX3_messagesToRead_1 : decode cX3_messagesToRead 1 = .ok (.getfield 37, 3) := by decide +kernel
theorem dX3_messagesToRead_4 : decode cX3_messagesToRead 4 = .ok (.iload_n 1, 1) := by decide +kernel
theorem dX3_messagesToRead_5 : decode cX3_messagesToRead 5 = .ok (.iload_n 2, 1) := by decide +kernel
theorem dX3_messagesToRead_6 : decode cX3_messagesToRead 6 = .ok (.invokevirtual 93, 3) := by decide +kernel
theorem dX3_messagesToRead_9 : decode cX3_messagesToRead 9 = .ok (.ifCond .eq 5, 3) := by decide +kernel
theorem dX3_messagesToRead_12 : decode cX3_messagesToRead 12 = .ok (.iconst 0, 1) := by decide +kernel
theorem dX3_messagesToRead_13 : decode cX3_messagesToRead 13 = .ok (.ireturn, 1) := by decide +kernel
theorem dX3_messagesToRead_14 : decode cX3_messagesToRead 14 = .ok (.aload_n 0, 1) := by decide +kernel
theorem dX3_messagesToRead_15 : decode cX3_messagesToRead 15 = .ok (.getfield 30, 3) := by decide +kernel
theorem dX3_messagesToRead_18 : decode cX3_messagesToRead 18 = .ok (.getfield 97, 3) := by decide +kernel
theorem dX3_messagesToRead_21 : decode cX3_messagesToRead 21 = .ok (.iload_n 2, 1) := by decide +kernel
theorem dX3_messagesToRead_22 : decode cX3_messagesToRead 22 = .ok (.invokevirtual 100, 3) := by decide +kernel
theorem dX3_messagesToRead_25 : decode cX3_messagesToRead 25 = .ok (.iconst 3, 1) := by decide +kernel
theorem dX3_messagesToRead_26 : decode cX3_messagesToRead 26 = .ok (.if_icmp .ne 7, 3) := by decide +kernel
theorem dX3_messagesToRead_29 : decode cX3_messagesToRead 29 = .ok (.iconst 2, 1) := by decide +kernel
theorem dX3_messagesToRead_30 : decode cX3_messagesToRead 30 = .ok (.goto 4, 3) := by decide +kernel
theorem dX3_messagesToRead_33 : decode cX3_messagesToRead 33 = .ok (.iconst 0, 1) := by decide +kernel
theorem dX3_messagesToRead_34 : decode cX3_messagesToRead 34 = .ok (.istore_n 3, 1) := by decide +kernel
theorem dX3_messagesToRead_35 : decode cX3_messagesToRead 35 = .ok (.iload_n 3, 1) := by decide +kernel
theorem dX3_messagesToRead_36 : decode cX3_messagesToRead 36 = .ok (.aload_n 0, 1) := by decide +kernel
theorem dX3_messagesToRead_37 : decode cX3_messagesToRead 37 = .ok (.iload_n 1, 1) := by decide +kernel
theorem dX3_messagesToRead_38 : decode cX3_messagesToRead 38 = .ok (.invokevirtual 179, 3) := by decide +kernel
theorem dX3_messagesToRead_41 : decode cX3_messagesToRead 41 = .ok (.iadd, 1) := by decide +kernel
theorem dX3_messagesToRead_42 : decode cX3_messagesToRead 42 = .ok (.iconst 2, 1) := by decide +kernel
theorem dX3_messagesToRead_43 : decode cX3_messagesToRead 43 = .ok (.iadd, 1) := by decide +kernel
theorem dX3_messagesToRead_44 : decode cX3_messagesToRead 44 = .ok (.ireturn, 1) := by decide +kernel
theorem dX3_messagesToChange_0 : decode cX3_messagesToChange 0 = .ok (.aload_n 0, 1) := by decide +kernel
theorem dX3_messagesToChange_1 : decode cX3_messagesToChange 1 = .ok (.getfield 30, 3) := by decide +kernel
theorem dX3_messagesToChange_4 : decode cX3_messagesToChange 4 = .ok (.iload_n 2, 1) := by decide +kernel
theorem dX3_messagesToChange_5 : decode cX3_messagesToChange 5 = .ok (.iload_n 1, 1) := by decide +kernel
theorem dX3_messagesToChange_6 : decode cX3_messagesToChange 6 = .ok (.invokevirtual 142, 3) := by decide +kernel
theorem dX3_messagesToChange_9 : decode cX3_messagesToChange 9 = .ok (.ifCond .eq 5, 3) := by decide +kernel
theorem dX3_messagesToChange_12 : decode cX3_messagesToChange 12 = .ok (.iconst 0, 1) := by decide +kernel
theorem dX3_messagesToChange_13 : decode cX3_messagesToChange 13 = .ok (.ireturn, 1) := by decide +kernel
theorem dX3_messagesToChange_14 : decode cX3_messagesToChange 14 = .ok (.aload_n 0, 1) := by decide +kernel
theorem dX3_messagesToChange_15 : decode cX3_messagesToChange 15 = .ok (.iload_n 2, 1) := by decide +kernel
theorem dX3_messagesToChange_16 : decode cX3_messagesToChange 16 = .ok (.invokevirtual 154, 3) := by decide +kernel
theorem dX3_messagesToChange_19 : decode cX3_messagesToChange 19 = .ok (.iload_n 1, 1) := by decide +kernel
theorem dX3_messagesToChange_20 : decode cX3_messagesToChange 20 = .ok (.invokestatic 145, 3) := by decide +kernel
theorem dX3_messagesToChange_23 : decode cX3_messagesToChange 23 = .ok (.iconst (-1), 1) := by decide +kernel
theorem dX3_messagesToChange_24 : decode cX3_messagesToChange 24 = .ok (.ixor, 1) := by decide +kernel
theorem dX3_messagesToChange_25 : decode cX3_messagesToChange 25 = .ok (.iand, 1) := by decide +kernel
theorem dX3_messagesToChange_26 : decode cX3_messagesToChange 26 = .ok (.istore_n 3, 1) := by decide +kernel
theorem dX3_messagesToChange_27 : decode cX3_messagesToChange 27 = .ok (.iload_n 3, 1) := by decide +kernel
theorem dX3_messagesToChange_28 : decode cX3_messagesToChange 28 = .ok (.aload_n 0, 1) := by decide +kernel
theorem dX3_messagesToChange_29 : decode cX3_messagesToChange 29 = .ok (.getfield 37, 3) := by decide +kernel
theorem dX3_messagesToChange_32 : decode cX3_messagesToChange 32 = .ok (.getfield 182, 3) := by decide +kernel
theorem dX3_messagesToChange_35 : decode cX3_messagesToChange 35 = .ok (.iload_n 2, 1) := by decide +kernel
theorem dX3_messagesToChange_36 : decode cX3_messagesToChange 36 = .ok (.invokevirtual 100, 3) := by decide +kernel
theorem dX3_messagesToChange_39 : decode cX3_messagesToChange 39 = .ok (.iand, 1) := by decide +kernel
theorem dX3_messagesToChange_40 : decode cX3_messagesToChange 40 = .ok (.istore 4, 2) := by decide +kernel
theorem dX3_messagesToChange_42 : decode cX3_messagesToChange 42 = .ok (.aload_n 0, 1) := by decide +kernel
theorem dX3_messagesToChange_43 : decode cX3_messagesToChange 43 = .ok (.getfield 37, 3) := by decide +kernel
theorem dX3_messagesToChange_46 : decode cX3_messagesToChange 46 = .ok (.iload_n 1, 1) := by decide +kernel
theorem dX3_messagesToChange_47 : decode cX3_messagesToChange 47 = .ok (.iload_n 2, 1) := by decide +kernel
theorem dX3_messagesToChange_48 : decode cX3_messagesToChange 48 = .ok (.invokevirtual 93, 3) := by decide +kernel
theorem dX3_messagesToChange_51 : decode cX3_messagesToChange 51 = .ok (.ifCond .eq 7, 3) := by decide +kernel
theorem dX3_messagesToChange_54 : decode cX3_messagesToChange 54 = .ok (.iconst 0, 1) := by decide +kernel
theorem dX3_messagesToChange_55 : decode cX3_messagesToChange 55 = .ok (.goto 8, 3) := by decide +kernel
theorem dX3_messagesToChange_58 : decode cX3_messagesToChange 58 = .ok (.aload_n 0, 1) := by decide +kernel
theorem dX3_messagesToChange_59 : decode cX3_messagesToChange 59 = .ok (.iload_n 1, 1) := by decide +kernel
theorem dX3_messagesToChange_60 : decode cX3_messagesToChange 60 = .ok (.invokevirtual 179, 3) := by decide +kernel
theorem dX3_messagesToChange_63 : decode cX3_messagesToChange 63 = .ok (.istore 5, 2) := by decide +kernel
theorem dX3_messagesToChange_65 : decode cX3_messagesToChange 65 = .ok (.iload_n 3, 1) := by decide +kernel
theorem dX3_messagesToChange_66 : decode cX3_messagesToChange 66 = .ok (.invokestatic 185, 3) := by decide +kernel
theorem dX3_messagesToChange_69 : decode cX3_messagesToChange 69 = .ok (.iload 4, 2) := by decide +kernel
theorem dX3_messagesToChange_71 : decode cX3_messagesToChange 71 = .ok (.invokestatic 185, 3) := by decide +kernel
theorem dX3_messagesToChange_74 : decode cX3_messagesToChange 74 = .ok (.iadd, 1) := by decide +kernel
theorem dX3_messagesToChange_75 : decode cX3_messagesToChange 75 = .ok (.iload 5, 2) := by decide +kernel
theorem dX3_messagesToChange_77 : decode cX3_messagesToChange 77 = .ok (.iadd, 1) := by decide +kernel
theorem dX3_messagesToChange_78 : decode cX3_messagesToChange 78 = .ok (.iconst 2, 1) := by decide +kernel
theorem dX3_messagesToChange_79 : decode cX3_messagesToChange 79 = .ok (.iadd, 1) := by decide +kernel
theorem dX3_messagesToChange_80 : decode cX3_messagesToChange 80 = .ok (.ireturn, 1) := by decide +kernel
theorem dX3_wastedToChange_0 : decode cX3_wastedToChange 0 = .ok (.aload_n 0, 1) := by decide +kernel
theorem dX3_wastedToChange_1 : decode cX3_wastedToChange 1 = .ok (.iload_n 2, 1) := by decide +kernel
theorem dX3_wastedToChange_2 : decode cX3_wastedToChange 2 = .ok (.invokevirtual 154, 3) := by decide +kernel
theorem dX3_wastedToChange_5 : decode cX3_wastedToChange 5 = .ok (.iload_n 1, 1) := by decide +kernel
theorem dX3_wastedToChange_6 : decode cX3_wastedToChange 6 = .ok (.invokestatic 145, 3) := by decide +kernel
theorem dX3_wastedToChange_9 : decode cX3_wastedToChange 9 = .ok (.iconst (-1), 1) := by decide +kernel
theorem dX3_wastedToChange_10 : decode cX3_wastedToChange 10 = .ok (.ixor, 1) := by decide +kernel
theorem dX3_wastedToChange_11 : decode cX3_wastedToChange 11 = .ok (.iand, 1) := by decide +kernel
theorem dX3_wastedToChange_12 : decode cX3_wastedToChange 12 = .ok (.aload_n 0, 1) := by decide +kernel
theorem dX3_wastedToChange_13 : decode cX3_wastedToChange 13 = .ok (.getfield 37, 3) := by decide +kernel
theorem dX3_wastedToChange_16 : decode cX3_wastedToChange 16 = .ok (.getfield 182, 3) := by decide +kernel
theorem dX3_wastedToChange_19 : decode cX3_wastedToChange 19 = .ok (.iload_n 2, 1) := by decide +kernel
theorem dX3_wastedToChange_20 : decode cX3_wastedToChange 20 = .ok (.invokevirtual 100, 3) := by decide +kernel
theorem dX3_wastedToChange_23 : decode cX3_wastedToChange 23 = .ok (.iconst (-1), 1) := by decide +kernel
theorem dX3_wastedToChange_24 : decode cX3_wastedToChange 24 = .ok (.ixor, 1) := by decide +kernel
theorem dX3_wastedToChange_25 : decode cX3_wastedToChange 25 = .ok (.iand, 1) := by decide +kernel
theorem dX3_wastedToChange_26 : decode cX3_wastedToChange 26 = .ok (.invokestatic 185, 3) := by decide +kernel
theorem dX3_wastedToChange_29 : decode cX3_wastedToChange 29 = .ok (.ireturn, 1) := by decide +kernel
theorem dX3_fewestWasted_0 : decode cX3_fewestWasted 0 = .ok (.aload_n 0, 1) := by decide +kernel
theorem dX3_fewestWasted_1 : decode cX3_fewestWasted 1 = .ok (.iload_n 1, 1) := by decide +kernel
theorem dX3_fewestWasted_2 : decode cX3_fewestWasted 2 = .ok (.invokevirtual 154, 3) := by decide +kernel
theorem dX3_fewestWasted_5 : decode cX3_fewestWasted 5 = .ok (.aload_n 0, 1) := by decide +kernel
theorem dX3_fewestWasted_6 : decode cX3_fewestWasted 6 = .ok (.getfield 37, 3) := by decide +kernel
theorem dX3_fewestWasted_9 : decode cX3_fewestWasted 9 = .ok (.getfield 182, 3) := by decide +kernel
theorem dX3_fewestWasted_12 : decode cX3_fewestWasted 12 = .ok (.iload_n 1, 1) := by decide +kernel
theorem dX3_fewestWasted_13 : decode cX3_fewestWasted 13 = .ok (.invokevirtual 100, 3) := by decide +kernel
theorem dX3_fewestWasted_16 : decode cX3_fewestWasted 16 = .ok (.iconst (-1), 1) := by decide +kernel
theorem dX3_fewestWasted_17 : decode cX3_fewestWasted 17 = .ok (.ixor, 1) := by decide +kernel
theorem dX3_fewestWasted_18 : decode cX3_fewestWasted 18 = .ok (.iand, 1) := by decide +kernel
theorem dX3_fewestWasted_19 : decode cX3_fewestWasted 19 = .ok (.istore_n 2, 1) := by decide +kernel
theorem dX3_fewestWasted_20 : decode cX3_fewestWasted 20 = .ok (.iload_n 2, 1) := by decide +kernel
theorem dX3_fewestWasted_21 : decode cX3_fewestWasted 21 = .ok (.invokestatic 185, 3) := by decide +kernel
theorem dX3_fewestWasted_24 : decode cX3_fewestWasted 24 = .ok (.istore_n 3, 1) := by decide +kernel
theorem dX3_fewestWasted_25 : decode cX3_fewestWasted 25 = .ok (.iload_n 3, 1) := by decide +kernel
theorem dX3_fewestWasted_26 : decode cX3_fewestWasted 26 = .ok (.ifCond .le 9, 3) := by decide +kernel
theorem dX3_fewestWasted_29 : decode cX3_fewestWasted 29 = .ok (.iload_n 3, 1) := by decide +kernel
theorem dX3_fewestWasted_30 : decode cX3_fewestWasted 30 = .ok (.iconst 1, 1) := by decide +kernel
theorem dX3_fewestWasted_31 : decode cX3_fewestWasted 31 = .ok (.isub, 1) := by decide +kernel
theorem dX3_fewestWasted_32 : decode cX3_fewestWasted 32 = .ok (.goto 4, 3) := by decide +kernel
theorem dX3_fewestWasted_35 : decode cX3_fewestWasted 35 = .ok (.iconst 0, 1) := by decide +kernel
theorem dX3_fewestWasted_36 : decode cX3_fewestWasted 36 = .ok (.ireturn, 1) := by decide +kernel
theorem dX3_messagesToMakeRoom_0 : decode cX3_messagesToMakeRoom 0 = .ok (.aload_n 0, 1) := by decide +kernel
theorem dX3_messagesToMakeRoom_1 : decode cX3_messagesToMakeRoom 1 = .ok (.iload_n 1, 1) := by decide +kernel
theorem dX3_messagesToMakeRoom_2 : decode cX3_messagesToMakeRoom 2 = .ok (.invokevirtual 163, 3) := by decide +kernel
theorem dX3_messagesToMakeRoom_5 : decode cX3_messagesToMakeRoom 5 = .ok (.istore_n 2, 1) := by decide +kernel
theorem dX3_messagesToMakeRoom_6 : decode cX3_messagesToMakeRoom 6 = .ok (.aload_n 0, 1) := by decide +kernel
theorem dX3_messagesToMakeRoom_7 : decode cX3_messagesToMakeRoom 7 = .ok (.getfield 18, 3) := by decide +kernel
theorem dX3_messagesToMakeRoom_10 : decode cX3_messagesToMakeRoom 10 = .ok (.iconst 3, 1) := by decide +kernel
theorem dX3_messagesToMakeRoom_11 : decode cX3_messagesToMakeRoom 11 = .ok (.invokevirtual 100, 3) := by decide +kernel
theorem dX3_messagesToMakeRoom_14 : decode cX3_messagesToMakeRoom 14 = .ok (.iconst 1, 1) := by decide +kernel
theorem dX3_messagesToMakeRoom_15 : decode cX3_messagesToMakeRoom 15 = .ok (.if_icmp .ne 5, 3) := by decide +kernel
theorem dX3_messagesToMakeRoom_18 : decode cX3_messagesToMakeRoom 18 = .ok (.iload_n 2, 1) := by decide +kernel
theorem dX3_messagesToMakeRoom_19 : decode cX3_messagesToMakeRoom 19 = .ok (.ireturn, 1) := by decide +kernel
theorem dX3_messagesToMakeRoom_20 : decode cX3_messagesToMakeRoom 20 = .ok (.iconst 0, 1) := by decide +kernel
theorem dX3_messagesToMakeRoom_21 : decode cX3_messagesToMakeRoom 21 = .ok (.istore_n 3, 1) := by decide +kernel
theorem dX3_messagesToMakeRoom_22 : decode cX3_messagesToMakeRoom 22 = .ok (.iconst 0, 1) := by decide +kernel
theorem dX3_messagesToMakeRoom_23 : decode cX3_messagesToMakeRoom 23 = .ok (.istore 4, 2) := by decide +kernel
theorem dX3_messagesToMakeRoom_25 : decode cX3_messagesToMakeRoom 25 = .ok (.iload 4, 2) := by decide +kernel
theorem dX3_messagesToMakeRoom_27 : decode cX3_messagesToMakeRoom 27 = .ok (.iload_n 2, 1) := by decide +kernel
theorem dX3_messagesToMakeRoom_28 : decode cX3_messagesToMakeRoom 28 = .ok (.if_icmp .ge 30, 3) := by decide +kernel
theorem dX3_messagesToMakeRoom_31 : decode cX3_messagesToMakeRoom 31 = .ok (.iload_n 3, 1) := by decide +kernel
theorem dX3_messagesToMakeRoom_32 : decode cX3_messagesToMakeRoom 32 = .ok (.aload_n 0, 1) := by decide +kernel
theorem dX3_messagesToMakeRoom_33 : decode cX3_messagesToMakeRoom 33 = .ok (.getfield 37, 3) := by decide +kernel
theorem dX3_messagesToMakeRoom_36 : decode cX3_messagesToMakeRoom 36 = .ok (.iload_n 1, 1) := by decide +kernel
theorem dX3_messagesToMakeRoom_37 : decode cX3_messagesToMakeRoom 37 = .ok (.iload 4, 2) := by decide +kernel
theorem dX3_messagesToMakeRoom_39 : decode cX3_messagesToMakeRoom 39 = .ok (.invokevirtual 115, 3) := by decide +kernel
theorem dX3_messagesToMakeRoom_42 : decode cX3_messagesToMakeRoom 42 = .ok (.ifCond .eq 7, 3) := by decide +kernel
theorem dX3_messagesToMakeRoom_45 : decode cX3_messagesToMakeRoom 45 = .ok (.iconst 1, 1) := by decide +kernel
theorem dX3_messagesToMakeRoom_46 : decode cX3_messagesToMakeRoom 46 = .ok (.goto 4, 3) := by decide +kernel
theorem dX3_messagesToMakeRoom_49 : decode cX3_messagesToMakeRoom 49 = .ok (.iconst 0, 1) := by decide +kernel
theorem dX3_messagesToMakeRoom_50 : decode cX3_messagesToMakeRoom 50 = .ok (.iadd, 1) := by decide +kernel
theorem dX3_messagesToMakeRoom_51 : decode cX3_messagesToMakeRoom 51 = .ok (.istore_n 3, 1) := by decide +kernel
theorem dX3_messagesToMakeRoom_52 : decode cX3_messagesToMakeRoom 52 = .ok (.iinc 4 1, 3) := by decide +kernel
theorem dX3_messagesToMakeRoom_55 : decode cX3_messagesToMakeRoom 55 = .ok (.goto (-30), 3) := by decide +kernel
theorem dX3_messagesToMakeRoom_58 : decode cX3_messagesToMakeRoom 58 = .ok (.iload_n 3, 1) := by decide +kernel
theorem dX3_messagesToMakeRoom_59 : decode cX3_messagesToMakeRoom 59 = .ok (.ireturn, 1) := by decide +kernel
theorem dX3_messagesOfAccount_0 : decode cX3_messagesOfAccount 0 = .ok (.aload_n 0, 1) := by decide +kernel
theorem dX3_messagesOfAccount_1 : decode cX3_messagesOfAccount 1 = .ok (.getfield 18, 3) := by decide +kernel
theorem dX3_messagesOfAccount_4 : decode cX3_messagesOfAccount 4 = .ok (.aload_n 1, 1) := by decide +kernel
theorem dX3_messagesOfAccount_5 : decode cX3_messagesOfAccount 5 = .ok (.getfield 18, 3) := by decide +kernel
theorem dX3_messagesOfAccount_8 : decode cX3_messagesOfAccount 8 = .ok (.invokevirtual 73, 3) := by decide +kernel
theorem dX3_messagesOfAccount_11 : decode cX3_messagesOfAccount 11 = .ok (.aload_n 0, 1) := by decide +kernel
theorem dX3_messagesOfAccount_12 : decode cX3_messagesOfAccount 12 = .ok (.getfield 18, 3) := by decide +kernel
theorem dX3_messagesOfAccount_15 : decode cX3_messagesOfAccount 15 = .ok (.iconst 0, 1) := by decide +kernel
theorem dX3_messagesOfAccount_16 : decode cX3_messagesOfAccount 16 = .ok (.iload_n 2, 1) := by decide +kernel
theorem dX3_messagesOfAccount_17 : decode cX3_messagesOfAccount 17 = .ok (.invokevirtual 69, 3) := by decide +kernel
theorem dX3_messagesOfAccount_20 : decode cX3_messagesOfAccount 20 = .ok (.aload_n 0, 1) := by decide +kernel
theorem dX3_messagesOfAccount_21 : decode cX3_messagesOfAccount 21 = .ok (.getfield 18, 3) := by decide +kernel
theorem dX3_messagesOfAccount_24 : decode cX3_messagesOfAccount 24 = .ok (.iconst 1, 1) := by decide +kernel
theorem dX3_messagesOfAccount_25 : decode cX3_messagesOfAccount 25 = .ok (.iload_n 3, 1) := by decide +kernel
theorem dX3_messagesOfAccount_26 : decode cX3_messagesOfAccount 26 = .ok (.invokevirtual 69, 3) := by decide +kernel
theorem dX3_messagesOfAccount_29 : decode cX3_messagesOfAccount 29 = .ok (.aload_n 0, 1) := by decide +kernel
theorem dX3_messagesOfAccount_30 : decode cX3_messagesOfAccount 30 = .ok (.getfield 30, 3) := by decide +kernel
theorem dX3_messagesOfAccount_33 : decode cX3_messagesOfAccount 33 = .ok (.invokevirtual 190, 3) := by decide +kernel
theorem dX3_messagesOfAccount_36 : decode cX3_messagesOfAccount 36 = .ok (.aload_n 0, 1) := by decide +kernel
theorem dX3_messagesOfAccount_37 : decode cX3_messagesOfAccount 37 = .ok (.getfield 37, 3) := by decide +kernel
theorem dX3_messagesOfAccount_40 : decode cX3_messagesOfAccount 40 = .ok (.invokevirtual 193, 3) := by decide +kernel
theorem dX3_messagesOfAccount_43 : decode cX3_messagesOfAccount 43 = .ok (.aload_n 0, 1) := by decide +kernel
theorem dX3_messagesOfAccount_44 : decode cX3_messagesOfAccount 44 = .ok (.getfield 48, 3) := by decide +kernel
theorem dX3_messagesOfAccount_47 : decode cX3_messagesOfAccount 47 = .ok (.invokevirtual 194, 3) := by decide +kernel
theorem dX3_messagesOfAccount_50 : decode cX3_messagesOfAccount 50 = .ok (.iconst 0, 1) := by decide +kernel
theorem dX3_messagesOfAccount_51 : decode cX3_messagesOfAccount 51 = .ok (.istore 4, 2) := by decide +kernel
theorem dX3_messagesOfAccount_53 : decode cX3_messagesOfAccount 53 = .ok (.iload 4, 2) := by decide +kernel
theorem dX3_messagesOfAccount_55 : decode cX3_messagesOfAccount 55 = .ok (.aload_n 1, 1) := by decide +kernel
theorem dX3_messagesOfAccount_56 : decode cX3_messagesOfAccount 56 = .ok (.getfield 44, 3) := by decide +kernel
theorem dX3_messagesOfAccount_59 : decode cX3_messagesOfAccount 59 = .ok (.getfield 195, 3) := by decide +kernel
theorem dX3_messagesOfAccount_62 : decode cX3_messagesOfAccount 62 = .ok (.if_icmp .ge 86, 3) := by decide +kernel
theorem dX3_messagesOfAccount_65 : decode cX3_messagesOfAccount 65 = .ok (.aload_n 1, 1) := by decide +kernel
theorem dX3_messagesOfAccount_66 : decode cX3_messagesOfAccount 66 = .ok (.getfield 44, 3) := by decide +kernel
theorem dX3_messagesOfAccount_69 : decode cX3_messagesOfAccount 69 = .ok (.iload 4, 2) := by decide +kernel
theorem dX3_messagesOfAccount_71 : decode cX3_messagesOfAccount 71 = .ok (.invokevirtual 199, 3) := by decide +kernel
theorem dX3_messagesOfAccount_74 : decode cX3_messagesOfAccount 74 = .ok (.istore 5, 2) := by decide +kernel
theorem dX3_messagesOfAccount_76 : decode cX3_messagesOfAccount 76 = .ok (.aload_n 1, 1) := by decide +kernel
theorem dX3_messagesOfAccount_77 : decode cX3_messagesOfAccount 77 = .ok (.getfield 44, 3) := by decide +kernel
theorem dX3_messagesOfAccount_80 : decode cX3_messagesOfAccount 80 = .ok (.getfield 202, 3) := by decide +kernel
theorem dX3_messagesOfAccount_83 : decode cX3_messagesOfAccount 83 = .ok (.iload 5, 2) := by decide +kernel
theorem dX3_messagesOfAccount_85 : decode cX3_messagesOfAccount 85 = .ok (.invokevirtual 100, 3) := by decide +kernel
theorem dX3_messagesOfAccount_88 : decode cX3_messagesOfAccount 88 = .ok (.istore 6, 2) := by decide +kernel
theorem dX3_messagesOfAccount_90 : decode cX3_messagesOfAccount 90 = .ok (.aload_n 1, 1) := by decide +kernel
theorem dX3_messagesOfAccount_91 : decode cX3_messagesOfAccount 91 = .ok (.getfield 44, 3) := by decide +kernel
theorem dX3_messagesOfAccount_94 : decode cX3_messagesOfAccount 94 = .ok (.getfield 205, 3) := by decide +kernel
theorem dX3_messagesOfAccount_97 : decode cX3_messagesOfAccount 97 = .ok (.iload 5, 2) := by decide +kernel
theorem dX3_messagesOfAccount_99 : decode cX3_messagesOfAccount 99 = .ok (.invokevirtual 100, 3) := by decide +kernel
theorem dX3_messagesOfAccount_102 : decode cX3_messagesOfAccount 102 = .ok (.istore 7, 2) := by decide +kernel
theorem dX3_messagesOfAccount_104 : decode cX3_messagesOfAccount 104 = .ok (.aload_n 1, 1) := by decide +kernel
theorem dX3_messagesOfAccount_105 : decode cX3_messagesOfAccount 105 = .ok (.getfield 44, 3) := by decide +kernel
theorem dX3_messagesOfAccount_108 : decode cX3_messagesOfAccount 108 = .ok (.getfield 208, 3) := by decide +kernel
theorem dX3_messagesOfAccount_111 : decode cX3_messagesOfAccount 111 = .ok (.iload 5, 2) := by decide +kernel
theorem dX3_messagesOfAccount_113 : decode cX3_messagesOfAccount 113 = .ok (.invokevirtual 100, 3) := by decide +kernel
theorem dX3_messagesOfAccount_116 : decode cX3_messagesOfAccount 116 = .ok (.iconst 1, 1) := by decide +kernel
theorem dX3_messagesOfAccount_117 : decode cX3_messagesOfAccount 117 = .ok (.if_icmp .ne 16, 3) := by decide +kernel
theorem dX3_messagesOfAccount_120 : decode cX3_messagesOfAccount 120 = .ok (.aload_n 0, 1) := by decide +kernel
theorem dX3_messagesOfAccount_121 : decode cX3_messagesOfAccount 121 = .ok (.iload 6, 2) := by decide +kernel
theorem dX3_messagesOfAccount_123 : decode cX3_messagesOfAccount 123 = .ok (.iload 7, 2) := by decide +kernel
theorem dX3_messagesOfAccount_125 : decode cX3_messagesOfAccount 125 = .ok (.iconst 0, 1) := by decide +kernel
theorem dX3_messagesOfAccount_126 : decode cX3_messagesOfAccount 126 = .ok (.invokevirtual 209, 3) := by decide +kernel
theorem dX3_messagesOfAccount_129 : decode cX3_messagesOfAccount 129 = .ok (.pop, 1) := by decide +kernel
theorem dX3_messagesOfAccount_130 : decode cX3_messagesOfAccount 130 = .ok (.goto 12, 3) := by decide +kernel
theorem dX3_messagesOfAccount_133 : decode cX3_messagesOfAccount 133 = .ok (.aload_n 0, 1) := by decide +kernel
theorem dX3_messagesOfAccount_134 : decode cX3_messagesOfAccount 134 = .ok (.iload 6, 2) := by decide +kernel
theorem dX3_messagesOfAccount_136 : decode cX3_messagesOfAccount 136 = .ok (.iload 7, 2) := by decide +kernel
theorem dX3_messagesOfAccount_138 : decode cX3_messagesOfAccount 138 = .ok (.invokevirtual 213, 3) := by decide +kernel
theorem dX3_messagesOfAccount_141 : decode cX3_messagesOfAccount 141 = .ok (.pop, 1) := by decide +kernel
theorem dX3_messagesOfAccount_142 : decode cX3_messagesOfAccount 142 = .ok (.iinc 4 1, 3) := by decide +kernel
theorem dX3_messagesOfAccount_145 : decode cX3_messagesOfAccount 145 = .ok (.goto (-92), 3) := by decide +kernel
theorem dX3_messagesOfAccount_148 : decode cX3_messagesOfAccount 148 = .ok (.aload_n 0, 1) := by decide +kernel
theorem dX3_messagesOfAccount_149 : decode cX3_messagesOfAccount 149 = .ok (.getfield 48, 3) := by decide +kernel
theorem dX3_messagesOfAccount_152 : decode cX3_messagesOfAccount 152 = .ok (.iconst 0, 1) := by decide +kernel
theorem dX3_messagesOfAccount_153 : decode cX3_messagesOfAccount 153 = .ok (.invokevirtual 100, 3) := by decide +kernel
theorem dX3_messagesOfAccount_156 : decode cX3_messagesOfAccount 156 = .ok (.ireturn, 1) := by decide +kernel
theorem dX4_init_0 : decode cX4_init 0 = .ok (.aload_n 0, 1) := by decide +kernel
theorem dX4_init_1 : decode cX4_init 1 = .ok (.invokespecial 3, 3) := by decide +kernel
theorem dX4_init_4 : decode cX4_init 4 = .ok (.aload_n 0, 1) := by decide +kernel
theorem dX4_init_5 : decode cX4_init 5 = .ok (.new 9, 3) := by decide +kernel
theorem dX4_init_8 : decode cX4_init 8 = .ok (.dup, 1) := by decide +kernel
theorem dX4_init_9 : decode cX4_init 9 = .ok (.invokespecial 11, 3) := by decide +kernel
theorem dX4_init_12 : decode cX4_init 12 = .ok (.putfield 12, 3) := by decide +kernel
theorem dX4_init_15 : decode cX4_init 15 = .ok (.return_, 1) := by decide +kernel
theorem dX4_findFault_0 : decode cX4_findFault 0 = .ok (.aload_n 0, 1) := by decide +kernel
theorem dX4_findFault_1 : decode cX4_findFault 1 = .ok (.iconst 0, 1) := by decide +kernel
theorem dX4_findFault_2 : decode cX4_findFault 2 = .ok (.putfield 18, 3) := by decide +kernel
theorem dX4_findFault_5 : decode cX4_findFault 5 = .ok (.iconst 0, 1) := by decide +kernel
theorem dX4_findFault_6 : decode cX4_findFault 6 = .ok (.istore_n 1, 1) := by decide +kernel
theorem dX4_findFault_7 : decode cX4_findFault 7 = .ok (.iload_n 1, 1) := by decide +kernel
theorem dX4_findFault_8 : decode cX4_findFault 8 = .ok (.bipush 80, 2) := by decide +kernel
theorem dX4_findFault_10 : decode cX4_findFault 10 = .ok (.if_icmp .ge 38, 3) := by decide +kernel
theorem dX4_findFault_13 : decode cX4_findFault 13 = .ok (.aload_n 0, 1) := by decide +kernel
theorem dX4_findFault_14 : decode cX4_findFault 14 = .ok (.invokevirtual 22, 3) := by decide +kernel
theorem dX4_findFault_17 : decode cX4_findFault 17 = .ok (.ifCond .ne 8, 3) := by decide +kernel
theorem dX4_findFault_20 : decode cX4_findFault 20 = .ok (.aload_n 0, 1) := by decide +kernel
theorem dX4_findFault_21 : decode cX4_findFault 21 = .ok (.getfield 18, 3) := by decide +kernel
theorem dX4_findFault_24 : decode cX4_findFault 24 = .ok (.ireturn, 1) := by decide +kernel
theorem dX4_findFault_25 : decode cX4_findFault 25 = .ok (.aload_n 0, 1) := by decide +kernel
theorem dX4_findFault_26 : decode cX4_findFault 26 = .ok (.getfield 18, 3) := by decide +kernel
theorem dX4_findFault_29 : decode cX4_findFault 29 = .ok (.aload_n 0, 1) := by decide +kernel
theorem dX4_findFault_30 : decode cX4_findFault 30 = .ok (.getfield 12, 3) := by decide +kernel
theorem dX4_findFault_33 : decode cX4_findFault 33 = .ok (.getfield 26, 3) := by decide +kernel
theorem dX4_findFault_36 : decode cX4_findFault 36 = .ok (.if_icmp .lt 6, 3) := by decide +kernel
theorem dX4_findFault_39 : decode cX4_findFault 39 = .ok (.bipush (-6), 2) := by decide +kernel
theorem dX4_findFault_41 : decode cX4_findFault 41 = .ok (.ireturn, 1) := by decide +kernel
theorem dX4_findFault_42 : decode cX4_findFault 42 = .ok (.iinc 1 1, 3) := by decide +kernel
theorem dX4_findFault_45 : decode cX4_findFault 45 = .ok (.goto (-38), 3) := by decide +kernel
theorem dX4_findFault_48 : decode cX4_findFault 48 = .ok (.bipush (-6), 2) := by decide +kernel
theorem dX4_findFault_50 : decode cX4_findFault 50 = .ok (.ireturn, 1) := by decide +kernel
theorem dX4_takeNext_0 : decode cX4_takeNext 0 = .ok (.aload_n 0, 1) := by decide +kernel
theorem dX4_takeNext_1 : decode cX4_takeNext 1 = .ok (.getfield 18, 3) := by decide +kernel
theorem dX4_takeNext_4 : decode cX4_takeNext 4 = .ok (.ifCond .eq 12, 3) := by decide +kernel
theorem dX4_takeNext_7 : decode cX4_takeNext 7 = .ok (.aload_n 0, 1) := by decide +kernel
theorem dX4_takeNext_8 : decode cX4_takeNext 8 = .ok (.bipush 59, 2) := by decide +kernel
theorem dX4_takeNext_10 : decode cX4_takeNext 10 = .ok (.invokevirtual 29, 3) := by decide +kernel
theorem dX4_takeNext_13 : decode cX4_takeNext 13 = .ok (.ifCond .eq 35, 3) := by decide +kernel
theorem dX4_takeNext_16 : decode cX4_takeNext 16 = .ok (.aload_n 0, 1) := by decide +kernel
theorem dX4_takeNext_17 : decode cX4_takeNext 17 = .ok (.invokevirtual 33, 3) := by decide +kernel
theorem dX4_takeNext_20 : decode cX4_takeNext 20 = .ok (.ifCond .eq 28, 3) := by decide +kernel
theorem dX4_takeNext_23 : decode cX4_takeNext 23 = .ok (.aload_n 0, 1) := by decide +kernel
theorem dX4_takeNext_24 : decode cX4_takeNext 24 = .ok (.invokevirtual 36, 3) := by decide +kernel
theorem dX4_takeNext_27 : decode cX4_takeNext 27 = .ok (.ifCond .eq 21, 3) := by decide +kernel
theorem dX4_takeNext_30 : decode cX4_takeNext 30 = .ok (.aload_n 0, 1) := by decide +kernel
theorem dX4_takeNext_31 : decode cX4_takeNext 31 = .ok (.invokevirtual 39, 3) := by decide +kernel
theorem dX4_takeNext_34 : decode cX4_takeNext 34 = .ok (.ifCond .eq 14, 3) := by decide +kernel
theorem dX4_takeNext_37 : decode cX4_takeNext 37 = .ok (.aload_n 0, 1) := by decide +kernel
theorem dX4_takeNext_38 : decode cX4_takeNext 38 = .ok (.invokevirtual 42, 3) := by decide +kernel
theorem dX4_takeNext_41 : decode cX4_takeNext 41 = .ok (.ifCond .eq 7, 3) := by decide +kernel
theorem dX4_takeNext_44 : decode cX4_takeNext 44 = .ok (.iconst 1, 1) := by decide +kernel
theorem dX4_takeNext_45 : decode cX4_takeNext 45 = .ok (.goto 4, 3) := by decide +kernel
theorem dX4_takeNext_48 : decode cX4_takeNext 48 = .ok (.iconst 0, 1) := by decide +kernel
theorem dX4_takeNext_49 : decode cX4_takeNext 49 = .ok (.ireturn, 1) := by decide +kernel
theorem dX4_takeKind_0 : decode cX4_takeKind 0 = .ok (.aload_n 0, 1) := by decide +kernel
theorem dX4_takeKind_1 : decode cX4_takeKind 1 = .ok (.aload_n 0, 1) := by decide +kernel
theorem dX4_takeKind_2 : decode cX4_takeKind 2 = .ok (.getfield 12, 3) := by decide +kernel
theorem dX4_takeKind_5 : decode cX4_takeKind 5 = .ok (.aload_n 0, 1) := by decide +kernel
theorem dX4_takeKind_6 : decode cX4_takeKind 6 = .ok (.getfield 18, 3) := by decide +kernel
theorem dX4_takeKind_9 : decode cX4_takeKind 9 = .ok (.invokevirtual 45, 3) := by decide +kernel
theorem dX4_takeKind_12 : decode cX4_takeKind 12 = .ok (.invokestatic 49, 3) := by decide +kernel
theorem dX4_takeKind_15 : decode cX4_takeKind 15 = .ok (.putfield 52, 3) := by decide +kernel
theorem dX4_takeKind_18 : decode cX4_takeKind 18 = .ok (.aload_n 0, 1) := by decide +kernel
theorem dX4_takeKind_19 : decode cX4_takeKind 19 = .ok (.getfield 52, 3) := by decide +kernel
theorem dX4_takeKind_22 : decode cX4_takeKind 22 = .ok (.iconst (-1), 1) := by decide +kernel
theorem dX4_takeKind_23 : decode cX4_takeKind 23 = .ok (.if_icmp .ne 5, 3) := by decide +kernel
theorem dX4_takeKind_26 : decode cX4_takeKind 26 = .ok (.iconst 0, 1) := by decide +kernel
theorem dX4_takeKind_27 : decode cX4_takeKind 27 = .ok (.ireturn, 1) := by decide +kernel
theorem dX4_takeKind_28 : decode cX4_takeKind 28 = .ok (.aload_n 0, 1) := by decide +kernel
theorem dX4_takeKind_29 : decode cX4_takeKind 29 = .ok (.dup, 1) := by decide +kernel
theorem dX4_takeKind_30 : decode cX4_takeKind 30 = .ok (.getfield 18, 3) := by decide +kernel
theorem dX4_takeKind_33 : decode cX4_takeKind 33 = .ok (.iconst 1, 1) := by decide +kernel
theorem dX4_takeKind_34 : decode cX4_takeKind 34 = .ok (.iadd, 1) := by decide +kernel
theorem dX4_takeKind_35 : decode cX4_takeKind 35 = .ok (.putfield 18, 3) := by decide +kernel
theorem dX4_takeKind_38 : decode cX4_takeKind 38 = .ok (.iconst 1, 1) := by decide +kernel
theorem dX4_takeKind_39 : decode cX4_takeKind 39 = .ok (.ireturn, 1) := by decide +kernel
theorem dX4_takeReader_0 : decode cX4_takeReader 0 = .ok (.aload_n 0, 1) := by decide +kernel
theorem dX4_takeReader_1 : decode cX4_takeReader 1 = .ok (.iconst 0, 1) := by decide +kernel
theorem dX4_takeReader_2 : decode cX4_takeReader 2 = .ok (.putfield 55, 3) := by decide +kernel
theorem dX4_takeReader_5 : decode cX4_takeReader 5 = .ok (.aload_n 0, 1) := by decide +kernel
theorem dX4_takeReader_6 : decode cX4_takeReader 6 = .ok (.getfield 52, 3) := by decide +kernel
theorem dX4_takeReader_9 : decode cX4_takeReader 9 = .ok (.iconst 3, 1) := by decide +kernel
theorem dX4_takeReader_10 : decode cX4_takeReader 10 = .ok (.if_icmp .ne 5, 3) := by decide +kernel
theorem dX4_takeReader_13 : decode cX4_takeReader 13 = .ok (.iconst 1, 1) := by decide +kernel
theorem dX4_takeReader_14 : decode cX4_takeReader 14 = .ok (.ireturn, 1) := by decide +kernel
theorem dX4_takeReader_15 : decode cX4_takeReader 15 = .ok (.aload_n 0, 1) := by decide +kernel
theorem dX4_takeReader_16 : decode cX4_takeReader 16 = .ok (.invokevirtual 58, 3) := by decide +kernel
theorem dX4_takeReader_19 : decode cX4_takeReader 19 = .ok (.istore_n 1, 1) := by decide +kernel
theorem dX4_takeReader_20 : decode cX4_takeReader 20 = .ok (.aload_n 0, 1) := by decide +kernel
theorem dX4_takeReader_21 : decode cX4_takeReader 21 = .ok (.aload_n 0, 1) := by decide +kernel
theorem dX4_takeReader_22 : decode cX4_takeReader 22 = .ok (.getfield 61, 3) := by decide +kernel
theorem dX4_takeReader_25 : decode cX4_takeReader 25 = .ok (.putfield 55, 3) := by decide +kernel
theorem dX4_takeReader_28 : decode cX4_takeReader 28 = .ok (.iload_n 1, 1) := by decide +kernel
theorem dX4_takeReader_29 : decode cX4_takeReader 29 = .ok (.ifCond .eq 16, 3) := by decide +kernel
theorem dX4_takeReader_32 : decode cX4_takeReader 32 = .ok (.aload_n 0, 1) := by decide +kernel
theorem dX4_takeReader_33 : decode cX4_takeReader 33 = .ok (.bipush 58, 2) := by decide +kernel
theorem dX4_takeReader_35 : decode cX4_takeReader 35 = .ok (.invokevirtual 29, 3) := by decide +kernel
theorem dX4_takeReader_38 : decode cX4_takeReader 38 = .ok (.ifCond .eq 7, 3) := by decide +kernel
theorem dX4_takeReader_41 : decode cX4_takeReader 41 = .ok (.iconst 1, 1) := by decide +kernel
theorem dX4_takeReader_42 : decode cX4_takeReader 42 = .ok (.goto 4, 3) := by decide +kernel
theorem dX4_takeReader_45 : decode cX4_takeReader 45 = .ok (.iconst 0, 1) := by decide +kernel
theorem dX4_takeReader_46 : decode cX4_takeReader 46 = .ok (.ireturn, 1) := by decide +kernel
theorem dX4_takeNote_0 : decode cX4_takeNote 0 = .ok (.aload_n 0, 1) := by decide +kernel
theorem dX4_takeNote_1 : decode cX4_takeNote 1 = .ok (.invokevirtual 58, 3) := by decide +kernel
theorem dX4_takeNote_4 : decode cX4_takeNote 4 = .ok (.istore_n 1, 1) := by decide +kernel
theorem dX4_takeNote_5 : decode cX4_takeNote 5 = .ok (.aload_n 0, 1) := by decide +kernel
theorem dX4_takeNote_6 : decode cX4_takeNote 6 = .ok (.aload_n 0, 1) := by decide +kernel
theorem dX4_takeNote_7 : decode cX4_takeNote 7 = .ok (.getfield 61, 3) := by decide +kernel
theorem dX4_takeNote_10 : decode cX4_takeNote 10 = .ok (.putfield 64, 3) := by decide +kernel
theorem dX4_takeNote_13 : decode cX4_takeNote 13 = .ok (.iload_n 1, 1) := by decide +kernel
theorem dX4_takeNote_14 : decode cX4_takeNote 14 = .ok (.ireturn, 1) := by decide +kernel
theorem dX4_takeValue_0 : decode cX4_takeValue 0 = .ok (.aload_n 0, 1) := by decide +kernel
theorem dX4_takeValue_1 : decode cX4_takeValue 1 = .ok (.iconst 0, 1) := by decide +kernel
theorem dX4_takeValue_2 : decode cX4_takeValue 2 = .ok (.putfield 67, 3) := by decide +kernel
theorem dX4_takeValue_5 : decode cX4_takeValue 5 = .ok (.aload_n 0, 1) := by decide +kernel
theorem dX4_takeValue_6 : decode cX4_takeValue 6 = .ok (.getfield 52, 3) := by decide +kernel
theorem dX4_takeValue_9 : decode cX4_takeValue 9 = .ok (.iconst 1, 1) := by decide +kernel
theorem dX4_takeValue_10 : decode cX4_takeValue 10 = .ok (.if_icmp .eq 5, 3) := by decide +kernel
theorem dX4_takeValue_13 : decode cX4_takeValue 13 = .ok (.iconst 1, 1) := by decide +kernel
theorem dX4_takeValue_14 : decode cX4_takeValue 14 = .ok (.ireturn, 1) := by decide +kernel
theorem dX4_takeValue_15 : decode cX4_takeValue 15 = .ok (.aload_n 0, 1) := by decide +kernel
theorem dX4_takeValue_16 : decode cX4_takeValue 16 = .ok (.bipush 61, 2) := by decide +kernel
theorem dX4_takeValue_18 : decode cX4_takeValue 18 = .ok (.invokevirtual 29, 3) := by decide +kernel
theorem dX4_takeValue_21 : decode cX4_takeValue 21 = .ok (.ifCond .eq 14, 3) := by decide +kernel
theorem dX4_takeValue_24 : decode cX4_takeValue 24 = .ok (.aload_n 0, 1) := by decide +kernel
theorem dX4_takeValue_25 : decode cX4_takeValue 25 = .ok (.invokevirtual 58, 3) := by decide +kernel
theorem dX4_takeValue_28 : decode cX4_takeValue 28 = .ok (.ifCond .eq 7, 3) := by decide +kernel
theorem dX4_takeValue_31 : decode cX4_takeValue 31 = .ok (.iconst 1, 1) := by decide +kernel
theorem dX4_takeValue_32 : decode cX4_takeValue 32 = .ok (.goto 4, 3) := by decide +kernel
theorem dX4_takeValue_35 : decode cX4_takeValue 35 = .ok (.iconst 0, 1) := by decide +kernel
theorem dX4_takeValue_36 : decode cX4_takeValue 36 = .ok (.istore_n 1, 1) := by decide +kernel
theorem dX4_takeValue_37 : decode cX4_takeValue 37 = .ok (.aload_n 0, 1) := by decide +kernel
theorem dX4_takeValue_38 : decode cX4_takeValue 38 = .ok (.aload_n 0, 1) := by decide +kernel
theorem dX4_takeValue_39 : decode cX4_takeValue 39 = .ok (.getfield 61, 3) := by decide +kernel
theorem dX4_takeValue_42 : decode cX4_takeValue 42 = .ok (.putfield 67, 3) := by decide +kernel
theorem dX4_takeValue_45 : decode cX4_takeValue 45 = .ok (.iload_n 1, 1) := by decide +kernel
theorem dX4_takeValue_46 : decode cX4_takeValue 46 = .ok (.ireturn, 1) := by decide +kernel
theorem dX4_takeNumber_0 : decode cX4_takeNumber 0 = .ok (.aload_n 0, 1) := by decide +kernel
theorem dX4_takeNumber_1 : decode cX4_takeNumber 1 = .ok (.getfield 18, 3) := by decide +kernel
theorem dX4_takeNumber_4 : decode cX4_takeNumber 4 = .ok (.istore_n 1, 1) := by decide +kernel
theorem dX4_takeNumber_5 : decode cX4_takeNumber 5 = .ok (.aload_n 0, 1) := by decide +kernel
theorem dX4_takeNumber_6 : decode cX4_takeNumber 6 = .ok (.getfield 12, 3) := by decide +kernel
theorem dX4_takeNumber_9 : decode cX4_takeNumber 9 = .ok (.aload_n 0, 1) := by decide +kernel
theorem dX4_takeNumber_10 : decode cX4_takeNumber 10 = .ok (.getfield 18, 3) := by decide +kernel
theorem dX4_takeNumber_13 : decode cX4_takeNumber 13 = .ok (.invokevirtual 45, 3) := by decide +kernel
theorem dX4_takeNumber_16 : decode cX4_takeNumber 16 = .ok (.bipush 48, 2) := by decide +kernel
theorem dX4_takeNumber_18 : decode cX4_takeNumber 18 = .ok (.if_icmp .ne 7, 3) := by decide +kernel
theorem dX4_takeNumber_21 : decode cX4_takeNumber 21 = .ok (.iconst 1, 1) := by decide +kernel
theorem dX4_takeNumber_22 : decode cX4_takeNumber 22 = .ok (.goto 4, 3) := by decide +kernel
theorem dX4_takeNumber_25 : decode cX4_takeNumber 25 = .ok (.iconst 4, 1) := by decide +kernel
theorem dX4_takeNumber_26 : decode cX4_takeNumber 26 = .ok (.istore_n 2, 1) := by decide +kernel
theorem dX4_takeNumber_27 : decode cX4_takeNumber 27 = .ok (.aload_n 0, 1) := by decide +kernel
theorem dX4_takeNumber_28 : decode cX4_takeNumber 28 = .ok (.iconst 0, 1) := by decide +kernel
theorem dX4_takeNumber_29 : decode cX4_takeNumber 29 = .ok (.putfield 61, 3) := by decide +kernel
theorem dX4_takeNumber_32 : decode cX4_takeNumber 32 = .ok (.iconst 0, 1) := by decide +kernel
theorem dX4_takeNumber_33 : decode cX4_takeNumber 33 = .ok (.istore_n 3, 1) := by decide +kernel
theorem dX4_takeNumber_34 : decode cX4_takeNumber 34 = .ok (.iload_n 3, 1) := by decide +kernel
theorem dX4_takeNumber_35 : decode cX4_takeNumber 35 = .ok (.iload_n 2, 1) := by decide +kernel
theorem dX4_takeNumber_36 : decode cX4_takeNumber 36 = .ok (.if_icmp .ge 62, 3) := by decide +kernel
theorem dX4_takeNumber_39 : decode cX4_takeNumber 39 = .ok (.aload_n 0, 1) := by decide +kernel
theorem dX4_takeNumber_40 : decode cX4_takeNumber 40 = .ok (.getfield 12, 3) := by decide +kernel
theorem dX4_takeNumber_43 : decode cX4_takeNumber 43 = .ok (.aload_n 0, 1) := by decide +kernel
theorem dX4_takeNumber_44 : decode cX4_takeNumber 44 = .ok (.getfield 18, 3) := by decide +kernel
theorem dX4_takeNumber_47 : decode cX4_takeNumber 47 = .ok (.invokevirtual 45, 3) := by decide +kernel
theorem dX4_takeNumber_50 : decode cX4_takeNumber 50 = .ok (.invokestatic 70, 3) := by decide +kernel
theorem dX4_takeNumber_53 : decode cX4_takeNumber 53 = .ok (.ifCond .eq 45, 3) := by decide +kernel
theorem dX4_takeNumber_56 : decode cX4_takeNumber 56 = .ok (.aload_n 0, 1) := by decide +kernel
theorem dX4_takeNumber_57 : decode cX4_takeNumber 57 = .ok (.aload_n 0, 1) := by decide +kernel
theorem dX4_takeNumber_58 : decode cX4_takeNumber 58 = .ok (.getfield 61, 3) := by decide +kernel
theorem dX4_takeNumber_61 : decode cX4_takeNumber 61 = .ok (.bipush 10, 2) := by decide +kernel
theorem dX4_takeNumber_63 : decode cX4_takeNumber 63 = .ok (.imul, 1) := by decide +kernel
theorem dX4_takeNumber_64 : decode cX4_takeNumber 64 = .ok (.aload_n 0, 1) := by decide +kernel
theorem dX4_takeNumber_65 : decode cX4_takeNumber 65 = .ok (.getfield 12, 3) := by decide +kernel
theorem dX4_takeNumber_68 : decode cX4_takeNumber 68 = .ok (.aload_n 0, 1) := by decide +kernel
theorem dX4_takeNumber_69 : decode cX4_takeNumber 69 = .ok (.getfield 18, 3) := by decide +kernel
theorem dX4_takeNumber_72 : decode cX4_takeNumber 72 = .ok (.invokevirtual 45, 3) := by decide +kernel
theorem dX4_takeNumber_75 : decode cX4_takeNumber 75 = .ok (.iadd, 1) := by decide +kernel
theorem dX4_takeNumber_76 : decode cX4_takeNumber 76 = .ok (.bipush 48, 2) := by decide +kernel
theorem dX4_takeNumber_78 : decode cX4_takeNumber 78 = .ok (.isub, 1) := by decide +kernel
theorem dX4_takeNumber_79 : decode cX4_takeNumber 79 = .ok (.putfield 61, 3) := by decide +kernel
theorem dX4_takeNumber_82 : decode cX4_takeNumber 82 = .ok (.aload_n 0, 1) := by decide +kernel
theorem dX4_takeNumber_83 : decode cX4_takeNumber 83 = .ok (.dup, 1) := by decide +kernel
theorem dX4_takeNumber_84 : decode cX4_takeNumber 84 = .ok (.getfield 18, 3) := by decide +kernel
theorem dX4_takeNumber_87 : decode cX4_takeNumber 87 = .ok (.iconst 1, 1) := by decide +kernel
theorem dX4_takeNumber_88 : decode cX4_takeNumber 88 = .ok (.iadd, 1) := by decide +kernel
theorem dX4_takeNumber_89 : decode cX4_takeNumber 89 = .ok (.putfield 18, 3) := by decide +kernel
theorem dX4_takeNumber_92 : decode cX4_takeNumber 92 = .ok (.iinc 3 1, 3) := by decide +kernel
theorem dX4_takeNumber_95 : decode cX4_takeNumber 95 = .ok (.goto (-61), 3) := by decide +kernel
theorem dX4_takeNumber_98 : decode cX4_takeNumber 98 = .ok (.aload_n 0, 1) := by decide +kernel
theorem dX4_takeNumber_99 : decode cX4_takeNumber 99 = .ok (.getfield 18, 3) := by decide +kernel
theorem dX4_takeNumber_102 : decode cX4_takeNumber 102 = .ok (.iload_n 1, 1) := by decide +kernel
theorem dX4_takeNumber_103 : decode cX4_takeNumber 103 = .ok (.if_icmp .le 7, 3) := by decide +kernel
theorem dX4_takeNumber_106 : decode cX4_takeNumber 106 = .ok (.iconst 1, 1) := by decide +kernel
theorem dX4_takeNumber_107 : decode cX4_takeNumber 107 = .ok (.goto 4, 3) := by decide +kernel
theorem dX4_takeNumber_110 : decode cX4_takeNumber 110 = .ok (.iconst 0, 1) := by decide +kernel
theorem dX4_takeNumber_111 : decode cX4_takeNumber 111 = .ok (.ireturn, 1) := by decide +kernel
theorem dX4_take_0 : decode cX4_take 0 = .ok (.aload_n 0, 1) := by decide +kernel
theorem dX4_take_1 : decode cX4_take 1 = .ok (.getfield 12, 3) := by decide +kernel
theorem dX4_take_4 : decode cX4_take 4 = .ok (.aload_n 0, 1) := by decide +kernel
theorem dX4_take_5 : decode cX4_take 5 = .ok (.getfield 18, 3) := by decide +kernel
theorem dX4_take_8 : decode cX4_take 8 = .ok (.invokevirtual 45, 3) := by decide +kernel
theorem dX4_take_11 : decode cX4_take 11 = .ok (.iload_n 1, 1) := by decide +kernel
theorem dX4_take_12 : decode cX4_take 12 = .ok (.if_icmp .eq 5, 3) := by decide +kernel
theorem dX4_take_15 : decode cX4_take 15 = .ok (.iconst 0, 1) := by decide +kernel
theorem dX4_take_16 : decode cX4_take 16 = .ok (.ireturn, 1) := by decide +kernel
theorem dX4_take_17 : decode cX4_take 17 = .ok (.aload_n 0, 1) := by decide +kernel
theorem dX4_take_18 : decode cX4_take 18 = .ok (.dup, 1) := by decide +kernel
theorem dX4_take_19 : decode cX4_take 19 = .ok (.getfield 18, 3) := by decide +kernel
theorem dX4_take_22 : decode cX4_take 22 = .ok (.iconst 1, 1) := by decide +kernel
theorem dX4_take_23 : decode cX4_take 23 = .ok (.iadd, 1) := by decide +kernel
theorem dX4_take_24 : decode cX4_take 24 = .ok (.putfield 18, 3) := by decide +kernel
theorem dX4_take_27 : decode cX4_take 27 = .ok (.iconst 1, 1) := by decide +kernel
theorem dX4_take_28 : decode cX4_take 28 = .ok (.ireturn, 1) := by decide +kernel
theorem dX4_isDigit_0 : decode cX4_isDigit 0 = .ok (.iload_n 0, 1) := by decide +kernel
theorem dX4_isDigit_1 : decode cX4_isDigit 1 = .ok (.bipush 48, 2) := by decide +kernel
theorem dX4_isDigit_3 : decode cX4_isDigit 3 = .ok (.if_icmp .lt 13, 3) := by decide +kernel
theorem dX4_isDigit_6 : decode cX4_isDigit 6 = .ok (.iload_n 0, 1) := by decide +kernel
theorem dX4_isDigit_7 : decode cX4_isDigit 7 = .ok (.bipush 57, 2) := by decide +kernel
theorem dX4_isDigit_9 : decode cX4_isDigit 9 = .ok (.if_icmp .gt 7, 3) := by decide +kernel
theorem dX4_isDigit_12 : decode cX4_isDigit 12 = .ok (.iconst 1, 1) := by decide +kernel
theorem dX4_isDigit_13 : decode cX4_isDigit 13 = .ok (.goto 4, 3) := by decide +kernel
theorem dX4_isDigit_16 : decode cX4_isDigit 16 = .ok (.iconst 0, 1) := by decide +kernel
theorem dX4_isDigit_17 : decode cX4_isDigit 17 = .ok (.ireturn, 1) := by decide +kernel
theorem dX4_kindOf_0 : decode cX4_kindOf 0 = .ok (.iload_n 0, 1) := by decide +kernel
theorem dX4_kindOf_1 : decode cX4_kindOf 1 = .ok (.lookupswitch 51 #[(98, 47), (99, 49), (114, 43), (119, 45)], 43) := by decide +kernel
theorem dX4_kindOf_44 : decode cX4_kindOf 44 = .ok (.iconst 0, 1) := by decide +kernel
theorem dX4_kindOf_45 : decode cX4_kindOf 45 = .ok (.ireturn, 1) := by decide +kernel
theorem dX4_kindOf_46 : decode cX4_kindOf 46 = .ok (.iconst 1, 1) := by decide +kernel
theorem dX4_kindOf_47 : decode cX4_kindOf 47 = .ok (.ireturn, 1) := by decide +kernel
theorem dX4_kindOf_48 : decode cX4_kindOf 48 = .ok (.iconst 2, 1) := by decide +kernel
theorem dX4_kindOf_49 : decode cX4_kindOf 49 = .ok (.ireturn, 1) := by decide +kernel
theorem dX4_kindOf_50 : decode cX4_kindOf 50 = .ok (.iconst 3, 1) := by decide +kernel
theorem dX4_kindOf_51 : decode cX4_kindOf 51 = .ok (.ireturn, 1) := by decide +kernel
theorem dX4_kindOf_52 : decode cX4_kindOf 52 = .ok (.iconst (-1), 1) := by decide +kernel
theorem dX4_kindOf_53 : decode cX4_kindOf 53 = .ok (.ireturn, 1) := by decide +kernel
theorem dX5_init_0 : decode cX5_init 0 = .ok (.aload_n 0, 1) := by decide +kernel
theorem dX5_init_1 : decode cX5_init 1 = .ok (.invokespecial 3, 3) := by decide +kernel
theorem dX5_init_4 : decode cX5_init 4 = .ok (.aload_n 0, 1) := by decide +kernel
theorem dX5_init_5 : decode cX5_init 5 = .ok (.new 9, 3) := by decide +kernel
theorem dX5_init_8 : decode cX5_init 8 = .ok (.dup, 1) := by decide +kernel
theorem dX5_init_9 : decode cX5_init 9 = .ok (.bipush 80, 2) := by decide +kernel
theorem dX5_init_11 : decode cX5_init 11 = .ok (.invokespecial 11, 3) := by decide +kernel
theorem dX5_init_14 : decode cX5_init 14 = .ok (.putfield 14, 3) := by decide +kernel
theorem dX5_init_17 : decode cX5_init 17 = .ok (.return_, 1) := by decide +kernel
theorem dX5_codeAt_0 : decode cX5_codeAt 0 = .ok (.iload_n 1, 1) := by decide +kernel
theorem dX5_codeAt_1 : decode cX5_codeAt 1 = .ok (.aload_n 0, 1) := by decide +kernel
theorem dX5_codeAt_2 : decode cX5_codeAt 2 = .ok (.getfield 20, 3) := by decide +kernel
theorem dX5_codeAt_5 : decode cX5_codeAt 5 = .ok (.if_icmp .ge 14, 3) := by decide +kernel
theorem dX5_codeAt_8 : decode cX5_codeAt 8 = .ok (.aload_n 0, 1) := by decide +kernel
theorem dX5_codeAt_9 : decode cX5_codeAt 9 = .ok (.getfield 14, 3) := by decide +kernel
theorem dX5_codeAt_12 : decode cX5_codeAt 12 = .ok (.iload_n 1, 1) := by decide +kernel
theorem dX5_codeAt_13 : decode cX5_codeAt 13 = .ok (.invokevirtual 24, 3) := by decide +kernel
theorem dX5_codeAt_16 : decode cX5_codeAt 16 = .ok (.goto 4, 3) := by decide +kernel
theorem dX5_codeAt_19 : decode cX5_codeAt 19 = .ok (.iconst 0, 1) := by decide +kernel
theorem dX5_codeAt_20 : decode cX5_codeAt 20 = .ok (.ireturn, 1) := by decide +kernel
theorem dX5_append_0 : decode cX5_append 0 = .ok (.aload_n 0, 1) := by decide +kernel
theorem dX5_append_1 : decode cX5_append 1 = .ok (.getfield 14, 3) := by decide +kernel
theorem dX5_append_4 : decode cX5_append 4 = .ok (.aload_n 0, 1) := by decide +kernel
theorem dX5_append_5 : decode cX5_append 5 = .ok (.getfield 20, 3) := by decide +kernel
theorem dX5_append_8 : decode cX5_append 8 = .ok (.iload_n 1, 1) := by decide +kernel
theorem dX5_append_9 : decode cX5_append 9 = .ok (.invokevirtual 28, 3) := by decide +kernel
theorem dX5_append_12 : decode cX5_append 12 = .ok (.aload_n 0, 1) := by decide +kernel
theorem dX5_append_13 : decode cX5_append 13 = .ok (.dup, 1) := by decide +kernel
theorem dX5_append_14 : decode cX5_append 14 = .ok (.getfield 20, 3) := by decide +kernel
theorem dX5_append_17 : decode cX5_append 17 = .ok (.iconst 1, 1) := by decide +kernel
theorem dX5_append_18 : decode cX5_append 18 = .ok (.iadd, 1) := by decide +kernel
theorem dX5_append_19 : decode cX5_append 19 = .ok (.putfield 20, 3) := by decide +kernel
theorem dX5_append_22 : decode cX5_append 22 = .ok (.return_, 1) := by decide +kernel
theorem dX6_init_0 : decode cX6_init 0 = .ok (.aload_n 0, 1) := by decide +kernel
theorem dX6_init_1 : decode cX6_init 1 = .ok (.invokespecial 1, 3) := by decide +kernel
theorem dX6_init_4 : decode cX6_init 4 = .ok (.aload_n 0, 1) := by decide +kernel
theorem dX6_init_5 : decode cX6_init 5 = .ok (.iload_n 1, 1) := by decide +kernel
theorem dX6_init_6 : decode cX6_init 6 = .ok (.ifCond .le 7, 3) := by decide +kernel
theorem dX6_init_9 : decode cX6_init 9 = .ok (.iload_n 1, 1) := by decide +kernel
theorem dX6_init_10 : decode cX6_init 10 = .ok (.goto 4, 3) := by decide +kernel
theorem dX6_init_13 : decode cX6_init 13 = .ok (.iconst 0, 1) := by decide +kernel
theorem dX6_init_14 : decode cX6_init 14 = .ok (.newarray .int, 2) := by decide +kernel
theorem dX6_init_16 : decode cX6_init 16 = .ok (.putfield 7, 3) := by decide +kernel
theorem dX6_init_19 : decode cX6_init 19 = .ok (.return_, 1) := by decide +kernel
theorem dX6_at_0 : decode cX6_at 0 = .ok (.iload_n 1, 1) := by decide +kernel
theorem dX6_at_1 : decode cX6_at 1 = .ok (.ifCond .lt 21, 3) := by decide +kernel
theorem dX6_at_4 : decode cX6_at 4 = .ok (.iload_n 1, 1) := by decide +kernel
theorem dX6_at_5 : decode cX6_at 5 = .ok (.aload_n 0, 1) := by decide +kernel
theorem dX6_at_6 : decode cX6_at 6 = .ok (.getfield 7, 3) := by decide +kernel
theorem dX6_at_9 : decode cX6_at 9 = .ok (.arraylength, 1) := by decide +kernel
theorem dX6_at_10 : decode cX6_at 10 = .ok (.if_icmp .ge 12, 3) := by decide +kernel
theorem dX6_at_13 : decode cX6_at 13 = .ok (.aload_n 0, 1) := by decide +kernel
theorem dX6_at_14 : decode cX6_at 14 = .ok (.getfield 7, 3) := by decide +kernel
theorem dX6_at_17 : decode cX6_at 17 = .ok (.iload_n 1, 1) := by decide +kernel
theorem dX6_at_18 : decode cX6_at 18 = .ok (.iaload, 1) := by decide +kernel
theorem dX6_at_19 : decode cX6_at 19 = .ok (.goto 4, 3) := by decide +kernel
theorem dX6_at_22 : decode cX6_at 22 = .ok (.iconst 0, 1) := by decide +kernel
theorem dX6_at_23 : decode cX6_at 23 = .ok (.ireturn, 1) := by decide +kernel
theorem dX6_write_0 : decode cX6_write 0 = .ok (.iload_n 1, 1) := by decide +kernel
theorem dX6_write_1 : decode cX6_write 1 = .ok (.ifCond .lt 19, 3) := by decide +kernel
theorem dX6_write_4 : decode cX6_write 4 = .ok (.iload_n 1, 1) := by decide +kernel
theorem dX6_write_5 : decode cX6_write 5 = .ok (.aload_n 0, 1) := by decide +kernel
theorem dX6_write_6 : decode cX6_write 6 = .ok (.getfield 7, 3) := by decide +kernel
theorem dX6_write_9 : decode cX6_write 9 = .ok (.arraylength, 1) := by decide +kernel
theorem dX6_write_10 : decode cX6_write 10 = .ok (.if_icmp .ge 10, 3) := by decide +kernel
theorem dX6_write_13 : decode cX6_write 13 = .ok (.aload_n 0, 1) := by decide +kernel
theorem dX6_write_14 : decode cX6_write 14 = .ok (.getfield 7, 3) := by decide +kernel
theorem dX6_write_17 : decode cX6_write 17 = .ok (.iload_n 1, 1) := by decide +kernel
theorem dX6_write_18 : decode cX6_write 18 = .ok (.iload_n 2, 1) := by decide +kernel
theorem dX6_write_19 : decode cX6_write 19 = .ok (.iastore, 1) := by decide +kernel
theorem dX6_write_20 : decode cX6_write 20 = .ok (.return_, 1) := by decide +kernel
theorem dX6_add_0 : decode cX6_add 0 = .ok (.iload_n 1, 1) := by decide +kernel
theorem dX6_add_1 : decode cX6_add 1 = .ok (.ifCond .lt 22, 3) := by decide +kernel
theorem dX6_add_4 : decode cX6_add 4 = .ok (.iload_n 1, 1) := by decide +kernel
theorem dX6_add_5 : decode cX6_add 5 = .ok (.aload_n 0, 1) := by decide +kernel
theorem dX6_add_6 : decode cX6_add 6 = .ok (.getfield 7, 3) := by decide +kernel
theorem dX6_add_9 : decode cX6_add 9 = .ok (.arraylength, 1) := by decide +kernel
theorem dX6_add_10 : decode cX6_add 10 = .ok (.if_icmp .ge 13, 3) := by decide +kernel
theorem dX6_add_13 : decode cX6_add 13 = .ok (.aload_n 0, 1) := by decide +kernel
theorem dX6_add_14 : decode cX6_add 14 = .ok (.getfield 7, 3) := by decide +kernel
theorem dX6_add_17 : decode cX6_add 17 = .ok (.iload_n 1, 1) := by decide +kernel
theorem dX6_add_18 : decode cX6_add 18 = .ok (.dup2, 1) := by decide +kernel
theorem dX6_add_19 : decode cX6_add 19 = .ok (.iaload, 1) := by decide +kernel
theorem dX6_add_20 : decode cX6_add 20 = .ok (.iload_n 2, 1) := by decide +kernel
theorem dX6_add_21 : decode cX6_add 21 = .ok (.iadd, 1) := by decide +kernel
theorem dX6_add_22 : decode cX6_add 22 = .ok (.iastore, 1) := by decide +kernel
theorem dX6_add_23 : decode cX6_add 23 = .ok (.return_, 1) := by decide +kernel
theorem dX6_clear_0 : decode cX6_clear 0 = .ok (.aload_n 0, 1) := by decide +kernel
theorem dX6_clear_1 : decode cX6_clear 1 = .ok (.getfield 7, 3) := by decide +kernel
theorem dX6_clear_4 : decode cX6_clear 4 = .ok (.iconst 0, 1) := by decide +kernel
theorem dX6_clear_5 : decode cX6_clear 5 = .ok (.invokestatic 13, 3) := by decide +kernel
theorem dX6_clear_8 : decode cX6_clear 8 = .ok (.return_, 1) := by decide +kernel
theorem dX6_copyFrom_0 : decode cX6_copyFrom 0 = .ok (.aload_n 1, 1) := by decide +kernel
theorem dX6_copyFrom_1 : decode cX6_copyFrom 1 = .ok (.getfield 7, 3) := by decide +kernel
theorem dX6_copyFrom_4 : decode cX6_copyFrom 4 = .ok (.iconst 0, 1) := by decide +kernel
theorem dX6_copyFrom_5 : decode cX6_copyFrom 5 = .ok (.aload_n 0, 1) := by decide +kernel
theorem dX6_copyFrom_6 : decode cX6_copyFrom 6 = .ok (.getfield 7, 3) := by decide +kernel
theorem dX6_copyFrom_9 : decode cX6_copyFrom 9 = .ok (.iconst 0, 1) := by decide +kernel
theorem dX6_copyFrom_10 : decode cX6_copyFrom 10 = .ok (.aload_n 1, 1) := by decide +kernel
theorem dX6_copyFrom_11 : decode cX6_copyFrom 11 = .ok (.getfield 7, 3) := by decide +kernel
theorem dX6_copyFrom_14 : decode cX6_copyFrom 14 = .ok (.arraylength, 1) := by decide +kernel
theorem dX6_copyFrom_15 : decode cX6_copyFrom 15 = .ok (.aload_n 0, 1) := by decide +kernel
theorem dX6_copyFrom_16 : decode cX6_copyFrom 16 = .ok (.getfield 7, 3) := by decide +kernel
theorem dX6_copyFrom_19 : decode cX6_copyFrom 19 = .ok (.arraylength, 1) := by decide +kernel
theorem dX6_copyFrom_20 : decode cX6_copyFrom 20 = .ok (.invokestatic 19, 3) := by decide +kernel
theorem dX6_copyFrom_23 : decode cX6_copyFrom 23 = .ok (.invokestatic 25, 3) := by decide +kernel
theorem dX6_copyFrom_26 : decode cX6_copyFrom 26 = .ok (.return_, 1) := by decide +kernel
theorem dX7_init_0 : decode cX7_init 0 = .ok (.aload_n 0, 1) := by decide +kernel
theorem dX7_init_1 : decode cX7_init 1 = .ok (.invokespecial 3, 3) := by decide +kernel
theorem dX7_init_4 : decode cX7_init 4 = .ok (.aload_n 0, 1) := by decide +kernel
theorem dX7_init_5 : decode cX7_init 5 = .ok (.new 9, 3) := by decide +kernel
theorem dX7_init_8 : decode cX7_init 8 = .ok (.dup, 1) := by decide +kernel
theorem dX7_init_9 : decode cX7_init 9 = .ok (.bipush 16, 2) := by decide +kernel
theorem dX7_init_11 : decode cX7_init 11 = .ok (.invokespecial 11, 3) := by decide +kernel
theorem dX7_init_14 : decode cX7_init 14 = .ok (.putfield 14, 3) := by decide +kernel
theorem dX7_init_17 : decode cX7_init 17 = .ok (.aload_n 0, 1) := by decide +kernel
theorem dX7_init_18 : decode cX7_init 18 = .ok (.new 9, 3) := by decide +kernel
theorem dX7_init_21 : decode cX7_init 21 = .ok (.dup, 1) := by decide +kernel
theorem dX7_init_22 : decode cX7_init 22 = .ok (.sipush 128, 3) := by decide +kernel
theorem dX7_init_25 : decode cX7_init 25 = .ok (.invokespecial 11, 3) := by decide +kernel
theorem dX7_init_28 : decode cX7_init 28 = .ok (.putfield 20, 3) := by decide +kernel
theorem dX7_init_31 : decode cX7_init 31 = .ok (.aload_n 0, 1) := by decide +kernel
theorem dX7_init_32 : decode cX7_init 32 = .ok (.new 9, 3) := by decide +kernel
theorem dX7_init_35 : decode cX7_init 35 = .ok (.dup, 1) := by decide +kernel
theorem dX7_init_36 : decode cX7_init 36 = .ok (.sipush 128, 3) := by decide +kernel
theorem dX7_init_39 : decode cX7_init 39 = .ok (.invokespecial 11, 3) := by decide +kernel
theorem dX7_init_42 : decode cX7_init 42 = .ok (.putfield 23, 3) := by decide +kernel
theorem dX7_init_45 : decode cX7_init 45 = .ok (.aload_n 0, 1) := by decide +kernel
theorem dX7_init_46 : decode cX7_init 46 = .ok (.new 9, 3) := by decide +kernel
theorem dX7_init_49 : decode cX7_init 49 = .ok (.dup, 1) := by decide +kernel
theorem dX7_init_50 : decode cX7_init 50 = .ok (.sipush 128, 3) := by decide +kernel
theorem dX7_init_53 : decode cX7_init 53 = .ok (.invokespecial 11, 3) := by decide +kernel
theorem dX7_init_56 : decode cX7_init 56 = .ok (.putfield 26, 3) := by decide +kernel
theorem dX7_init_59 : decode cX7_init 59 = .ok (.aload_n 0, 1) := by decide +kernel
theorem dX7_init_60 : decode cX7_init 60 = .ok (.new 9, 3) := by decide +kernel
theorem dX7_init_63 : decode cX7_init 63 = .ok (.dup, 1) := by decide +kernel
theorem dX7_init_64 : decode cX7_init 64 = .ok (.bipush 24, 2) := by decide +kernel
theorem dX7_init_66 : decode cX7_init 66 = .ok (.invokespecial 11, 3) := by decide +kernel
theorem dX7_init_69 : decode cX7_init 69 = .ok (.putfield 29, 3) := by decide +kernel
theorem dX7_init_72 : decode cX7_init 72 = .ok (.return_, 1) := by decide +kernel
theorem dX7_noteAt_0 : decode cX7_noteAt 0 = .ok (.aload_n 0, 1) := by decide +kernel
theorem dX7_noteAt_1 : decode cX7_noteAt 1 = .ok (.getfield 20, 3) := by decide +kernel
theorem dX7_noteAt_4 : decode cX7_noteAt 4 = .ok (.iload_n 1, 1) := by decide +kernel
theorem dX7_noteAt_5 : decode cX7_noteAt 5 = .ok (.bipush 8, 2) := by decide +kernel
theorem dX7_noteAt_7 : decode cX7_noteAt 7 = .ok (.imul, 1) := by decide +kernel
theorem dX7_noteAt_8 : decode cX7_noteAt 8 = .ok (.iload_n 2, 1) := by decide +kernel
theorem dX7_noteAt_9 : decode cX7_noteAt 9 = .ok (.iadd, 1) := by decide +kernel
theorem dX7_noteAt_10 : decode cX7_noteAt 10 = .ok (.invokevirtual 32, 3) := by decide +kernel
theorem dX7_noteAt_13 : decode cX7_noteAt 13 = .ok (.ireturn, 1) := by decide +kernel
theorem dX7_valueAt_0 : decode cX7_valueAt 0 = .ok (.aload_n 0, 1) := by decide +kernel
theorem dX7_valueAt_1 : decode cX7_valueAt 1 = .ok (.getfield 23, 3) := by decide +kernel
theorem dX7_valueAt_4 : decode cX7_valueAt 4 = .ok (.iload_n 1, 1) := by decide +kernel
theorem dX7_valueAt_5 : decode cX7_valueAt 5 = .ok (.bipush 8, 2) := by decide +kernel
theorem dX7_valueAt_7 : decode cX7_valueAt 7 = .ok (.imul, 1) := by decide +kernel
theorem dX7_valueAt_8 : decode cX7_valueAt 8 = .ok (.iload_n 2, 1) := by decide +kernel
theorem dX7_valueAt_9 : decode cX7_valueAt 9 = .ok (.iadd, 1) := by decide +kernel
theorem dX7_valueAt_10 : decode cX7_valueAt 10 = .ok (.invokevirtual 32, 3) := by decide +kernel
theorem dX7_valueAt_13 : decode cX7_valueAt 13 = .ok (.ireturn, 1) := by decide +kernel
theorem dX7_isChangedAt_0 : decode cX7_isChangedAt 0 = .ok (.aload_n 0, 1) := by decide +kernel
theorem dX7_isChangedAt_1 : decode cX7_isChangedAt 1 = .ok (.getfield 26, 3) := by decide +kernel
theorem dX7_isChangedAt_4 : decode cX7_isChangedAt 4 = .ok (.iload_n 1, 1) := by decide +kernel
theorem dX7_isChangedAt_5 : decode cX7_isChangedAt 5 = .ok (.bipush 8, 2) := by decide +kernel
theorem dX7_isChangedAt_7 : decode cX7_isChangedAt 7 = .ok (.imul, 1) := by decide +kernel
theorem dX7_isChangedAt_8 : decode cX7_isChangedAt 8 = .ok (.iload_n 2, 1) := by decide +kernel
theorem dX7_isChangedAt_9 : decode cX7_isChangedAt 9 = .ok (.iadd, 1) := by decide +kernel
theorem dX7_isChangedAt_10 : decode cX7_isChangedAt 10 = .ok (.invokevirtual 32, 3) := by decide +kernel
theorem dX7_isChangedAt_13 : decode cX7_isChangedAt 13 = .ok (.iconst 1, 1) := by decide +kernel
theorem dX7_isChangedAt_14 : decode cX7_isChangedAt 14 = .ok (.if_icmp .ne 7, 3) := by decide +kernel
theorem dX7_isChangedAt_17 : decode cX7_isChangedAt 17 = .ok (.iconst 1, 1) := by decide +kernel
theorem dX7_isChangedAt_18 : decode cX7_isChangedAt 18 = .ok (.goto 4, 3) := by decide +kernel
theorem dX7_isChangedAt_21 : decode cX7_isChangedAt 21 = .ok (.iconst 0, 1) := by decide +kernel
theorem dX7_isChangedAt_22 : decode cX7_isChangedAt 22 = .ok (.ireturn, 1) := by decide +kernel
theorem dX7_holds_0 : decode cX7_holds 0 = .ok (.iload_n 1, 1) := by decide +kernel
theorem dX7_holds_1 : decode cX7_holds 1 = .ok (.aload_n 0, 1) := by decide +kernel
theorem dX7_holds_2 : decode cX7_holds 2 = .ok (.getfield 29, 3) := by decide +kernel
theorem dX7_holds_5 : decode cX7_holds 5 = .ok (.iload_n 2, 1) := by decide +kernel
theorem dX7_holds_6 : decode cX7_holds 6 = .ok (.invokevirtual 32, 3) := by decide +kernel
theorem dX7_holds_9 : decode cX7_holds 9 = .ok (.invokestatic 36, 3) := by decide +kernel
theorem dX7_holds_12 : decode cX7_holds 12 = .ok (.ireturn, 1) := by decide +kernel
theorem dX7_placeOf_0 : decode cX7_placeOf 0 = .ok (.iload_n 1, 1) := by decide +kernel
theorem dX7_placeOf_1 : decode cX7_placeOf 1 = .ok (.bipush 8, 2) := by decide +kernel
theorem dX7_placeOf_3 : decode cX7_placeOf 3 = .ok (.imul, 1) := by decide +kernel
theorem dX7_placeOf_4 : decode cX7_placeOf 4 = .ok (.istore_n 3, 1) := by decide +kernel
theorem dX7_placeOf_5 : decode cX7_placeOf 5 = .ok (.aload_n 0, 1) := by decide +kernel
theorem dX7_placeOf_6 : decode cX7_placeOf 6 = .ok (.getfield 14, 3) := by decide +kernel
theorem dX7_placeOf_9 : decode cX7_placeOf 9 = .ok (.iload_n 1, 1) := by decide +kernel
theorem dX7_placeOf_10 : decode cX7_placeOf 10 = .ok (.invokevirtual 32, 3) := by decide +kernel
theorem dX7_placeOf_13 : decode cX7_placeOf 13 = .ok (.istore 4, 2) := by decide +kernel
theorem dX7_placeOf_15 : decode cX7_placeOf 15 = .ok (.iconst 0, 1) := by decide +kernel
theorem dX7_placeOf_16 : decode cX7_placeOf 16 = .ok (.istore 5, 2) := by decide +kernel
theorem dX7_placeOf_18 : decode cX7_placeOf 18 = .ok (.iload 5, 2) := by decide +kernel
theorem dX7_placeOf_20 : decode cX7_placeOf 20 = .ok (.iload 4, 2) := by decide +kernel
theorem dX7_placeOf_22 : decode cX7_placeOf 22 = .ok (.if_icmp .ge 27, 3) := by decide +kernel
theorem dX7_placeOf_25 : decode cX7_placeOf 25 = .ok (.aload_n 0, 1) := by decide +kernel
theorem dX7_placeOf_26 : decode cX7_placeOf 26 = .ok (.getfield 20, 3) := by decide +kernel
theorem dX7_placeOf_29 : decode cX7_placeOf 29 = .ok (.iload_n 3, 1) := by decide +kernel
theorem dX7_placeOf_30 : decode cX7_placeOf 30 = .ok (.iload 5, 2) := by decide +kernel
theorem dX7_placeOf_32 : decode cX7_placeOf 32 = .ok (.iadd, 1) := by decide +kernel
theorem dX7_placeOf_33 : decode cX7_placeOf 33 = .ok (.invokevirtual 32, 3) := by decide +kernel
theorem dX7_placeOf_36 : decode cX7_placeOf 36 = .ok (.iload_n 2, 1) := by decide +kernel
theorem dX7_placeOf_37 : decode cX7_placeOf 37 = .ok (.if_icmp .ne 6, 3) := by decide +kernel
theorem dX7_placeOf_40 : decode cX7_placeOf 40 = .ok (.iload 5, 2) := by decide +kernel
theorem dX7_placeOf_42 : decode cX7_placeOf 42 = .ok (.ireturn, 1) := by decide +kernel
theorem dX7_placeOf_43 : decode cX7_placeOf 43 = .ok (.iinc 5 1, 3) := by decide +kernel
theorem dX7_placeOf_46 : decode cX7_placeOf 46 = .ok (.goto (-28), 3) := by decide +kernel
theorem dX7_placeOf_49 : decode cX7_placeOf 49 = .ok (.iconst (-1), 1) := by decide +kernel
theorem dX7_placeOf_50 : decode cX7_placeOf 50 = .ok (.ireturn, 1) := by decide +kernel
theorem dX7_lay_0 : decode cX7_lay 0 = .ok (.aload_n 0, 1) := by decide +kernel
theorem dX7_lay_1 : decode cX7_lay 1 = .ok (.getfield 14, 3) := by decide +kernel
theorem dX7_lay_4 : decode cX7_lay 4 = .ok (.iload_n 1, 1) := by decide +kernel
theorem dX7_lay_5 : decode cX7_lay 5 = .ok (.invokevirtual 32, 3) := by decide +kernel
theorem dX7_lay_8 : decode cX7_lay 8 = .ok (.istore 5, 2) := by decide +kernel
theorem dX7_lay_10 : decode cX7_lay 10 = .ok (.iload 5, 2) := by decide +kernel
theorem dX7_lay_12 : decode cX7_lay 12 = .ok (.bipush 8, 2) := by decide +kernel
theorem dX7_lay_14 : decode cX7_lay 14 = .ok (.if_icmp .lt 4, 3) := by decide +kernel
theorem dX7_lay_17 : decode cX7_lay 17 = .ok (.return_, 1) := by decide +kernel
theorem dX7_lay_18 : decode cX7_lay 18 = .ok (.iload_n 1, 1) := by decide +kernel
theorem dX7_lay_19 : decode cX7_lay 19 = .ok (.bipush 8, 2) := by decide +kernel
theorem dX7_lay_21 : decode cX7_lay 21 = .ok (.imul, 1) := by decide +kernel
theorem dX7_lay_22 : decode cX7_lay 22 = .ok (.iload 5, 2) := by decide +kernel
theorem dX7_lay_24 : decode cX7_lay 24 = .ok (.iadd, 1) := by decide +kernel
theorem dX7_lay_25 : decode cX7_lay 25 = .ok (.istore 6, 2) := by decide +kernel
theorem dX7_lay_27 : decode cX7_lay 27 = .ok (.aload_n 0, 1) := by decide +kernel
theorem dX7_lay_28 : decode cX7_lay 28 = .ok (.getfield 20, 3) := by decide +kernel
theorem dX7_lay_31 : decode cX7_lay 31 = .ok (.iload 6, 2) := by decide +kernel
theorem dX7_lay_33 : decode cX7_lay 33 = .ok (.iload_n 2, 1) := by decide +kernel
theorem dX7_lay_34 : decode cX7_lay 34 = .ok (.invokevirtual 40, 3) := by decide +kernel
theorem dX7_lay_37 : decode cX7_lay 37 = .ok (.aload_n 0, 1) := by decide +kernel
theorem dX7_lay_38 : decode cX7_lay 38 = .ok (.getfield 23, 3) := by decide +kernel
theorem dX7_lay_41 : decode cX7_lay 41 = .ok (.iload 6, 2) := by decide +kernel
theorem dX7_lay_43 : decode cX7_lay 43 = .ok (.iload_n 3, 1) := by decide +kernel
theorem dX7_lay_44 : decode cX7_lay 44 = .ok (.invokevirtual 40, 3) := by decide +kernel
theorem dX7_lay_47 : decode cX7_lay 47 = .ok (.aload_n 0, 1) := by decide +kernel
theorem dX7_lay_48 : decode cX7_lay 48 = .ok (.getfield 26, 3) := by decide +kernel
theorem dX7_lay_51 : decode cX7_lay 51 = .ok (.iload 6, 2) := by decide +kernel
theorem dX7_lay_53 : decode cX7_lay 53 = .ok (.iload 4, 2) := by decide +kernel
theorem dX7_lay_55 : decode cX7_lay 55 = .ok (.ifCond .eq 7, 3) := by decide +kernel
theorem dX7_lay_58 : decode cX7_lay 58 = .ok (.iconst 1, 1) := by decide +kernel
theorem dX7_lay_59 : decode cX7_lay 59 = .ok (.goto 4, 3) := by decide +kernel
theorem dX7_lay_62 : decode cX7_lay 62 = .ok (.iconst 0, 1) := by decide +kernel
theorem dX7_lay_63 : decode cX7_lay 63 = .ok (.invokevirtual 40, 3) := by decide +kernel
theorem dX7_lay_66 : decode cX7_lay 66 = .ok (.aload_n 0, 1) := by decide +kernel
theorem dX7_lay_67 : decode cX7_lay 67 = .ok (.getfield 14, 3) := by decide +kernel
theorem dX7_lay_70 : decode cX7_lay 70 = .ok (.iload_n 1, 1) := by decide +kernel
theorem dX7_lay_71 : decode cX7_lay 71 = .ok (.iload 5, 2) := by decide +kernel
theorem dX7_lay_73 : decode cX7_lay 73 = .ok (.iconst 1, 1) := by decide +kernel
theorem dX7_lay_74 : decode cX7_lay 74 = .ok (.iadd, 1) := by decide +kernel
theorem dX7_lay_75 : decode cX7_lay 75 = .ok (.invokevirtual 40, 3) := by decide +kernel
theorem dX7_lay_78 : decode cX7_lay 78 = .ok (.aload_n 0, 1) := by decide +kernel
theorem dX7_lay_79 : decode cX7_lay 79 = .ok (.getfield 29, 3) := by decide +kernel
theorem dX7_lay_82 : decode cX7_lay 82 = .ok (.iload_n 2, 1) := by decide +kernel
theorem dX7_lay_83 : decode cX7_lay 83 = .ok (.aload_n 0, 1) := by decide +kernel
theorem dX7_lay_84 : decode cX7_lay 84 = .ok (.getfield 29, 3) := by decide +kernel
theorem dX7_lay_87 : decode cX7_lay 87 = .ok (.iload_n 2, 1) := by decide +kernel
theorem dX7_lay_88 : decode cX7_lay 88 = .ok (.invokevirtual 32, 3) := by decide +kernel
theorem dX7_lay_91 : decode cX7_lay 91 = .ok (.iload_n 1, 1) := by decide +kernel
theorem dX7_lay_92 : decode cX7_lay 92 = .ok (.invokestatic 44, 3) := by decide +kernel
theorem dX7_lay_95 : decode cX7_lay 95 = .ok (.ior, 1) := by decide +kernel
theorem dX7_lay_96 : decode cX7_lay 96 = .ok (.invokevirtual 40, 3) := by decide +kernel
theorem dX7_lay_99 : decode cX7_lay 99 = .ok (.return_, 1) := by decide +kernel
theorem dX7_remove_0 : decode cX7_remove 0 = .ok (.aload_n 0, 1) := by decide +kernel
theorem dX7_remove_1 : decode cX7_remove 1 = .ok (.getfield 14, 3) := by decide +kernel
theorem dX7_remove_4 : decode cX7_remove 4 = .ok (.iload_n 1, 1) := by decide +kernel
theorem dX7_remove_5 : decode cX7_remove 5 = .ok (.invokevirtual 32, 3) := by decide +kernel
theorem dX7_remove_8 : decode cX7_remove 8 = .ok (.istore_n 3, 1) := by decide +kernel
theorem dX7_remove_9 : decode cX7_remove 9 = .ok (.iload_n 2, 1) := by decide +kernel
theorem dX7_remove_10 : decode cX7_remove 10 = .ok (.ifCond .lt 8, 3) := by decide +kernel
theorem dX7_remove_13 : decode cX7_remove 13 = .ok (.iload_n 2, 1) := by decide +kernel
theorem dX7_remove_14 : decode cX7_remove 14 = .ok (.iload_n 3, 1) := by decide +kernel
theorem dX7_remove_15 : decode cX7_remove 15 = .ok (.if_icmp .lt 4, 3) := by decide +kernel
theorem dX7_remove_18 : decode cX7_remove 18 = .ok (.return_, 1) := by decide +kernel
theorem dX7_remove_19 : decode cX7_remove 19 = .ok (.iload_n 1, 1) := by decide +kernel
theorem dX7_remove_20 : decode cX7_remove 20 = .ok (.bipush 8, 2) := by decide +kernel
theorem dX7_remove_22 : decode cX7_remove 22 = .ok (.imul, 1) := by decide +kernel
theorem dX7_remove_23 : decode cX7_remove 23 = .ok (.iload_n 2, 1) := by decide +kernel
theorem dX7_remove_24 : decode cX7_remove 24 = .ok (.iadd, 1) := by decide +kernel
theorem dX7_remove_25 : decode cX7_remove 25 = .ok (.istore 4, 2) := by decide +kernel
theorem dX7_remove_27 : decode cX7_remove 27 = .ok (.iload_n 1, 1) := by decide +kernel
theorem dX7_remove_28 : decode cX7_remove 28 = .ok (.bipush 8, 2) := by decide +kernel
theorem dX7_remove_30 : decode cX7_remove 30 = .ok (.imul, 1) := by decide +kernel
theorem dX7_remove_31 : decode cX7_remove 31 = .ok (.iload_n 3, 1) := by decide +kernel
theorem dX7_remove_32 : decode cX7_remove 32 = .ok (.iadd, 1) := by decide +kernel
theorem dX7_remove_33 : decode cX7_remove 33 = .ok (.iconst 1, 1) := by decide +kernel
theorem dX7_remove_34 : decode cX7_remove 34 = .ok (.isub, 1) := by decide +kernel
theorem dX7_remove_35 : decode cX7_remove 35 = .ok (.istore 5, 2) := by decide +kernel
theorem dX7_remove_37 : decode cX7_remove 37 = .ok (.aload_n 0, 1) := by decide +kernel
theorem dX7_remove_38 : decode cX7_remove 38 = .ok (.getfield 20, 3) := by decide +kernel
theorem dX7_remove_41 : decode cX7_remove 41 = .ok (.iload 4, 2) := by decide +kernel
theorem dX7_remove_43 : decode cX7_remove 43 = .ok (.invokevirtual 32, 3) := by decide +kernel
theorem dX7_remove_46 : decode cX7_remove 46 = .ok (.istore 6, 2) := by decide +kernel
theorem dX7_remove_48 : decode cX7_remove 48 = .ok (.aload_n 0, 1) := by decide +kernel
theorem dX7_remove_49 : decode cX7_remove 49 = .ok (.getfield 29, 3) := by decide +kernel
theorem dX7_remove_52 : decode cX7_remove 52 = .ok (.iload 6, 2) := by decide +kernel
theorem dX7_remove_54 : decode cX7_remove 54 = .ok (.aload_n 0, 1) := by decide +kernel
theorem dX7_remove_55 : decode cX7_remove 55 = .ok (.getfield 29, 3) := by decide +kernel
theorem dX7_remove_58 : decode cX7_remove 58 = .ok (.iload 6, 2) := by decide +kernel
theorem dX7_remove_60 : decode cX7_remove 60 = .ok (.invokevirtual 32, 3) := by decide +kernel
theorem dX7_remove_63 : decode cX7_remove 63 = .ok (.iload_n 1, 1) := by decide +kernel
theorem dX7_remove_64 : decode cX7_remove 64 = .ok (.invokestatic 44, 3) := by decide +kernel
theorem dX7_remove_67 : decode cX7_remove 67 = .ok (.iconst (-1), 1) := by decide +kernel
theorem dX7_remove_68 : decode cX7_remove 68 = .ok (.ixor, 1) := by decide +kernel
theorem dX7_remove_69 : decode cX7_remove 69 = .ok (.iand, 1) := by decide +kernel
theorem dX7_remove_70 : decode cX7_remove 70 = .ok (.invokevirtual 40, 3) := by decide +kernel
theorem dX7_remove_73 : decode cX7_remove 73 = .ok (.iload 4, 2) := by decide +kernel
theorem dX7_remove_75 : decode cX7_remove 75 = .ok (.istore 7, 2) := by decide +kernel
theorem dX7_remove_77 : decode cX7_remove 77 = .ok (.iload 7, 2) := by decide +kernel
theorem dX7_remove_79 : decode cX7_remove 79 = .ok (.iload 5, 2) := by decide +kernel
theorem dX7_remove_81 : decode cX7_remove 81 = .ok (.if_icmp .ge 69, 3) := by decide +kernel
theorem dX7_remove_84 : decode cX7_remove 84 = .ok (.aload_n 0, 1) := by decide +kernel
theorem dX7_remove_85 : decode cX7_remove 85 = .ok (.getfield 20, 3) := by decide +kernel
theorem dX7_remove_88 : decode cX7_remove 88 = .ok (.iload 7, 2) := by decide +kernel
theorem dX7_remove_90 : decode cX7_remove 90 = .ok (.aload_n 0, 1) := by decide +kernel
theorem dX7_remove_91 : decode cX7_remove 91 = .ok (.getfield 20, 3) := by decide +kernel
theorem dX7_remove_94 : decode cX7_remove 94 = .ok (.iload 7, 2) := by decide +kernel
theorem dX7_remove_96 : decode cX7_remove 96 = .ok (.iconst 1, 1) := by decide +kernel
theorem dX7_remove_97 : decode cX7_remove 97 = .ok (.iadd, 1) := by decide +kernel
theorem dX7_remove_98 : decode cX7_remove 98 = .ok (.invokevirtual 32, 3) := by decide +kernel
theorem dX7_remove_101 : decode cX7_remove 101 = .ok (.invokevirtual 40, 3) := by decide +kernel
theorem dX7_remove_104 : decode cX7_remove 104 = .ok (.aload_n 0, 1) := by decide +kernel
theorem dX7_remove_105 : decode cX7_remove 105 = .ok (.getfield 23, 3) := by decide +kernel
theorem dX7_remove_108 : decode cX7_remove 108 = .ok (.iload 7, 2) := by decide +kernel
theorem dX7_remove_110 : decode cX7_remove 110 = .ok (.aload_n 0, 1) := by decide +kernel
theorem dX7_remove_111 : decode cX7_remove 111 = .ok (.getfield 23, 3) := by decide +kernel
theorem dX7_remove_114 : decode cX7_remove 114 = .ok (.iload 7, 2) := by decide +kernel
theorem dX7_remove_116 : decode cX7_remove 116 = .ok (.iconst 1, 1) := by decide +kernel
theorem dX7_remove_117 : decode cX7_remove 117 = .ok (.iadd, 1) := by decide +kernel
theorem dX7_remove_118 : decode cX7_remove 118 = .ok (.invokevirtual 32, 3) := by decide +kernel
theorem dX7_remove_121 : decode cX7_remove 121 = .ok (.invokevirtual 40, 3) := by decide +kernel
theorem dX7_remove_124 : decode cX7_remove 124 = .ok (.aload_n 0, 1) := by decide +kernel
theorem dX7_remove_125 : decode cX7_remove 125 = .ok (.getfield 26, 3) := by decide +kernel
theorem dX7_remove_128 : decode cX7_remove 128 = .ok (.iload 7, 2) := by decide +kernel
theorem dX7_remove_130 : decode cX7_remove 130 = .ok (.aload_n 0, 1) := by decide +kernel
theorem dX7_remove_131 : decode cX7_remove 131 = .ok (.getfield 26, 3) := by decide +kernel
theorem dX7_remove_134 : decode cX7_remove 134 = .ok (.iload 7, 2) := by decide +kernel
theorem dX7_remove_136 : decode cX7_remove 136 = .ok (.iconst 1, 1) := by decide +kernel
theorem dX7_remove_137 : decode cX7_remove 137 = .ok (.iadd, 1) := by decide +kernel
theorem dX7_remove_138 : decode cX7_remove 138 = .ok (.invokevirtual 32, 3) := by decide +kernel
theorem dX7_remove_141 : decode cX7_remove 141 = .ok (.invokevirtual 40, 3) := by decide +kernel
theorem dX7_remove_144 : decode cX7_remove 144 = .ok (.iinc 7 1, 3) := by decide +kernel
theorem dX7_remove_147 : decode cX7_remove 147 = .ok (.goto (-70), 3) := by decide +kernel
theorem dX7_remove_150 : decode cX7_remove 150 = .ok (.aload_n 0, 1) := by decide +kernel
theorem dX7_remove_151 : decode cX7_remove 151 = .ok (.getfield 14, 3) := by decide +kernel
theorem dX7_remove_154 : decode cX7_remove 154 = .ok (.iload_n 1, 1) := by decide +kernel
theorem dX7_remove_155 : decode cX7_remove 155 = .ok (.iload_n 3, 1) := by decide +kernel
theorem dX7_remove_156 : decode cX7_remove 156 = .ok (.iconst 1, 1) := by decide +kernel
theorem dX7_remove_157 : decode cX7_remove 157 = .ok (.isub, 1) := by decide +kernel
theorem dX7_remove_158 : decode cX7_remove 158 = .ok (.invokevirtual 40, 3) := by decide +kernel
theorem dX7_remove_161 : decode cX7_remove 161 = .ok (.return_, 1) := by decide +kernel
theorem dX7_howMany_0 : decode cX7_howMany 0 = .ok (.iconst 0, 1) := by decide +kernel
theorem dX7_howMany_1 : decode cX7_howMany 1 = .ok (.istore_n 1, 1) := by decide +kernel
theorem dX7_howMany_2 : decode cX7_howMany 2 = .ok (.iconst 0, 1) := by decide +kernel
theorem dX7_howMany_3 : decode cX7_howMany 3 = .ok (.istore_n 2, 1) := by decide +kernel
theorem dX7_howMany_4 : decode cX7_howMany 4 = .ok (.iload_n 2, 1) := by decide +kernel
theorem dX7_howMany_5 : decode cX7_howMany 5 = .ok (.bipush 16, 2) := by decide +kernel
theorem dX7_howMany_7 : decode cX7_howMany 7 = .ok (.if_icmp .ge 20, 3) := by decide +kernel
theorem dX7_howMany_10 : decode cX7_howMany 10 = .ok (.iload_n 1, 1) := by decide +kernel
theorem dX7_howMany_11 : decode cX7_howMany 11 = .ok (.aload_n 0, 1) := by decide +kernel
theorem dX7_howMany_12 : decode cX7_howMany 12 = .ok (.getfield 14, 3) := by decide +kernel
theorem dX7_howMany_15 : decode cX7_howMany 15 = .ok (.iload_n 2, 1) := by decide +kernel
theorem dX7_howMany_16 : decode cX7_howMany 16 = .ok (.invokevirtual 32, 3) := by decide +kernel
theorem dX7_howMany_19 : decode cX7_howMany 19 = .ok (.iadd, 1) := by decide +kernel
theorem dX7_howMany_20 : decode cX7_howMany 20 = .ok (.istore_n 1, 1) := by decide +kernel
theorem dX7_howMany_21 : decode cX7_howMany 21 = .ok (.iinc 2 1, 3) := by decide +kernel
theorem dX7_howMany_24 : decode cX7_howMany 24 = .ok (.goto (-20), 3) := by decide +kernel
theorem dX7_howMany_27 : decode cX7_howMany 27 = .ok (.iload_n 1, 1) := by decide +kernel
theorem dX7_howMany_28 : decode cX7_howMany 28 = .ok (.ireturn, 1) := by decide +kernel
theorem dX7_howManyChanged_0 : decode cX7_howManyChanged 0 = .ok (.iconst 0, 1) := by decide +kernel
theorem dX7_howManyChanged_1 : decode cX7_howManyChanged 1 = .ok (.istore_n 1, 1) := by decide +kernel
theorem dX7_howManyChanged_2 : decode cX7_howManyChanged 2 = .ok (.iconst 0, 1) := by decide +kernel
theorem dX7_howManyChanged_3 : decode cX7_howManyChanged 3 = .ok (.istore_n 2, 1) := by decide +kernel
theorem dX7_howManyChanged_4 : decode cX7_howManyChanged 4 = .ok (.iload_n 2, 1) := by decide +kernel
theorem dX7_howManyChanged_5 : decode cX7_howManyChanged 5 = .ok (.bipush 16, 2) := by decide +kernel
theorem dX7_howManyChanged_7 : decode cX7_howManyChanged 7 = .ok (.if_icmp .ge 51, 3) := by decide +kernel
theorem dX7_howManyChanged_10 : decode cX7_howManyChanged 10 = .ok (.aload_n 0, 1) := by decide +kernel
theorem dX7_howManyChanged_11 : decode cX7_howManyChanged 11 = .ok (.getfield 14, 3) := by decide +kernel
theorem dX7_howManyChanged_14 : decode cX7_howManyChanged 14 = .ok (.iload_n 2, 1) := by decide +kernel
theorem dX7_howManyChanged_15 : decode cX7_howManyChanged 15 = .ok (.invokevirtual 32, 3) := by decide +kernel
theorem dX7_howManyChanged_18 : decode cX7_howManyChanged 18 = .ok (.istore_n 3, 1) := by decide +kernel
theorem dX7_howManyChanged_19 : decode cX7_howManyChanged 19 = .ok (.iconst 0, 1) := by decide +kernel
theorem dX7_howManyChanged_20 : decode cX7_howManyChanged 20 = .ok (.istore 4, 2) := by decide +kernel
theorem dX7_howManyChanged_22 : decode cX7_howManyChanged 22 = .ok (.iload 4, 2) := by decide +kernel
theorem dX7_howManyChanged_24 : decode cX7_howManyChanged 24 = .ok (.iload_n 3, 1) := by decide +kernel
theorem dX7_howManyChanged_25 : decode cX7_howManyChanged 25 = .ok (.if_icmp .ge 27, 3) := by decide +kernel
theorem dX7_howManyChanged_28 : decode cX7_howManyChanged 28 = .ok (.iload_n 1, 1) := by decide +kernel
theorem dX7_howManyChanged_29 : decode cX7_howManyChanged 29 = .ok (.aload_n 0, 1) := by decide +kernel
theorem dX7_howManyChanged_30 : decode cX7_howManyChanged 30 = .ok (.iload_n 2, 1) := by decide +kernel
theorem dX7_howManyChanged_31 : decode cX7_howManyChanged 31 = .ok (.iload 4, 2) := by decide +kernel
theorem dX7_howManyChanged_33 : decode cX7_howManyChanged 33 = .ok (.invokevirtual 47, 3) := by decide +kernel
theorem dX7_howManyChanged_36 : decode cX7_howManyChanged 36 = .ok (.ifCond .eq 7, 3) := by decide +kernel
theorem dX7_howManyChanged_39 : decode cX7_howManyChanged 39 = .ok (.iconst 1, 1) := by decide +kernel
theorem dX7_howManyChanged_40 : decode cX7_howManyChanged 40 = .ok (.goto 4, 3) := by decide +kernel
theorem dX7_howManyChanged_43 : decode cX7_howManyChanged 43 = .ok (.iconst 0, 1) := by decide +kernel
theorem dX7_howManyChanged_44 : decode cX7_howManyChanged 44 = .ok (.iadd, 1) := by decide +kernel
theorem dX7_howManyChanged_45 : decode cX7_howManyChanged 45 = .ok (.istore_n 1, 1) := by decide +kernel
theorem dX7_howManyChanged_46 : decode cX7_howManyChanged 46 = .ok (.iinc 4 1, 3) := by decide +kernel
theorem dX7_howManyChanged_49 : decode cX7_howManyChanged 49 = .ok (.goto (-27), 3) := by decide +kernel
theorem dX7_howManyChanged_52 : decode cX7_howManyChanged 52 = .ok (.iinc 2 1, 3) := by decide +kernel
theorem dX7_howManyChanged_55 : decode cX7_howManyChanged 55 = .ok (.goto (-51), 3) := by decide +kernel
theorem dX7_howManyChanged_58 : decode cX7_howManyChanged 58 = .ok (.iload_n 1, 1) := by decide +kernel
theorem dX7_howManyChanged_59 : decode cX7_howManyChanged 59 = .ok (.ireturn, 1) := by decide +kernel
theorem dX7_clear_0 : decode cX7_clear 0 = .ok (.aload_n 0, 1) := by decide +kernel
theorem dX7_clear_1 : decode cX7_clear 1 = .ok (.getfield 14, 3) := by decide +kernel
theorem dX7_clear_4 : decode cX7_clear 4 = .ok (.invokevirtual 50, 3) := by decide +kernel
theorem dX7_clear_7 : decode cX7_clear 7 = .ok (.aload_n 0, 1) := by decide +kernel
theorem dX7_clear_8 : decode cX7_clear 8 = .ok (.getfield 29, 3) := by decide +kernel
theorem dX7_clear_11 : decode cX7_clear 11 = .ok (.invokevirtual 50, 3) := by decide +kernel
theorem dX7_clear_14 : decode cX7_clear 14 = .ok (.return_, 1) := by decide +kernel
theorem dX7_copyFrom_0 : decode cX7_copyFrom 0 = .ok (.aload_n 0, 1) := by decide +kernel
theorem dX7_copyFrom_1 : decode cX7_copyFrom 1 = .ok (.getfield 14, 3) := by decide +kernel
theorem dX7_copyFrom_4 : decode cX7_copyFrom 4 = .ok (.aload_n 1, 1) := by decide +kernel
theorem dX7_copyFrom_5 : decode cX7_copyFrom 5 = .ok (.getfield 14, 3) := by decide +kernel
theorem dX7_copyFrom_8 : decode cX7_copyFrom 8 = .ok (.invokevirtual 53, 3) := by decide +kernel
theorem dX7_copyFrom_11 : decode cX7_copyFrom 11 = .ok (.aload_n 0, 1) := by decide +kernel
theorem dX7_copyFrom_12 : decode cX7_copyFrom 12 = .ok (.getfield 20, 3) := by decide +kernel
theorem dX7_copyFrom_15 : decode cX7_copyFrom 15 = .ok (.aload_n 1, 1) := by decide +kernel
theorem dX7_copyFrom_16 : decode cX7_copyFrom 16 = .ok (.getfield 20, 3) := by decide +kernel
theorem dX7_copyFrom_19 : decode cX7_copyFrom 19 = .ok (.invokevirtual 53, 3) := by decide +kernel
theorem dX7_copyFrom_22 : decode cX7_copyFrom 22 = .ok (.aload_n 0, 1) := by decide +kernel
theorem dX7_copyFrom_23 : decode cX7_copyFrom 23 = .ok (.getfield 23, 3) := by decide +kernel
theorem dX7_copyFrom_26 : decode cX7_copyFrom 26 = .ok (.aload_n 1, 1) := by decide +kernel
theorem dX7_copyFrom_27 : decode cX7_copyFrom 27 = .ok (.getfield 23, 3) := by decide +kernel
theorem dX7_copyFrom_30 : decode cX7_copyFrom 30 = .ok (.invokevirtual 53, 3) := by decide +kernel
theorem dX7_copyFrom_33 : decode cX7_copyFrom 33 = .ok (.aload_n 0, 1) := by decide +kernel
theorem dX7_copyFrom_34 : decode cX7_copyFrom 34 = .ok (.getfield 26, 3) := by decide +kernel
theorem dX7_copyFrom_37 : decode cX7_copyFrom 37 = .ok (.aload_n 1, 1) := by decide +kernel
theorem dX7_copyFrom_38 : decode cX7_copyFrom 38 = .ok (.getfield 26, 3) := by decide +kernel
theorem dX7_copyFrom_41 : decode cX7_copyFrom 41 = .ok (.invokevirtual 53, 3) := by decide +kernel
theorem dX7_copyFrom_44 : decode cX7_copyFrom 44 = .ok (.aload_n 0, 1) := by decide +kernel
theorem dX7_copyFrom_45 : decode cX7_copyFrom 45 = .ok (.getfield 29, 3) := by decide +kernel
theorem dX7_copyFrom_48 : decode cX7_copyFrom 48 = .ok (.aload_n 1, 1) := by decide +kernel
theorem dX7_copyFrom_49 : decode cX7_copyFrom 49 = .ok (.getfield 29, 3) := by decide +kernel
theorem dX7_copyFrom_52 : decode cX7_copyFrom 52 = .ok (.invokevirtual 53, 3) := by decide +kernel
theorem dX7_copyFrom_55 : decode cX7_copyFrom 55 = .ok (.return_, 1) := by decide +kernel
theorem dX8_init_0 : decode cX8_init 0 = .ok (.aload_n 0, 1) := by decide +kernel
theorem dX8_init_1 : decode cX8_init 1 = .ok (.invokespecial 1, 3) := by decide +kernel
theorem dX8_init_4 : decode cX8_init 4 = .ok (.aload_n 0, 1) := by decide +kernel
theorem dX8_init_5 : decode cX8_init 5 = .ok (.new 7, 3) := by decide +kernel
theorem dX8_init_8 : decode cX8_init 8 = .ok (.dup, 1) := by decide +kernel
theorem dX8_init_9 : decode cX8_init 9 = .ok (.invokespecial 9, 3) := by decide +kernel
theorem dX8_init_12 : decode cX8_init 12 = .ok (.putfield 10, 3) := by decide +kernel
theorem dX8_init_15 : decode cX8_init 15 = .ok (.aload_n 0, 1) := by decide +kernel
theorem dX8_init_16 : decode cX8_init 16 = .ok (.new 7, 3) := by decide +kernel
theorem dX8_init_19 : decode cX8_init 19 = .ok (.dup, 1) := by decide +kernel
theorem dX8_init_20 : decode cX8_init 20 = .ok (.invokespecial 9, 3) := by decide +kernel
theorem dX8_init_23 : decode cX8_init 23 = .ok (.putfield 16, 3) := by decide +kernel
theorem dX8_init_26 : decode cX8_init 26 = .ok (.aload_n 0, 1) := by decide +kernel
theorem dX8_init_27 : decode cX8_init 27 = .ok (.new 19, 3) := by decide +kernel
theorem dX8_init_30 : decode cX8_init 30 = .ok (.dup, 1) := by decide +kernel
theorem dX8_init_31 : decode cX8_init 31 = .ok (.invokespecial 21, 3) := by decide +kernel
