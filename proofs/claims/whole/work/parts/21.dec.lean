theorem dX8_write_27 : decode cX8_write 27 = .ok (.iload_n 1, 1) := by decide +kernel
theorem dX8_write_28 : decode cX8_write 28 = .ok (.iconst 1, 1) := by decide +kernel
theorem dX8_write_29 : decode cX8_write 29 = .ok (.isub, 1) := by decide +kernel
theorem dX8_write_30 : decode cX8_write 30 = .ok (.istore 4, 2) := by decide +kernel
theorem dX8_write_32 : decode cX8_write 32 = .ok (.iload 4, 2) := by decide +kernel
theorem dX8_write_34 : decode cX8_write 34 = .ok (.ifCond .lt 37, 3) := by decide +kernel
theorem dX8_write_37 : decode cX8_write 37 = .ok (.aload_n 0, 1) := by decide +kernel
theorem dX8_write_38 : decode cX8_write 38 = .ok (.getfield 9, 3) := by decide +kernel
theorem dX8_write_41 : decode cX8_write 41 = .ok (.aload_n 0, 1) := by decide +kernel
theorem dX8_write_42 : decode cX8_write 42 = .ok (.getfield 91, 3) := by decide +kernel
theorem dX8_write_45 : decode cX8_write 45 = .ok (.lload_n 2, 1) := by decide +kernel
theorem dX8_write_46 : decode cX8_write 46 = .ok (.bipush 8, 2) := by decide +kernel
theorem dX8_write_48 : decode cX8_write 48 = .ok (.iload 4, 2) := by decide +kernel
theorem dX8_write_50 : decode cX8_write 50 = .ok (.imul, 1) := by decide +kernel
theorem dX8_write_51 : decode cX8_write 51 = .ok (.lushr, 1) := by decide +kernel
theorem dX8_write_52 : decode cX8_write 52 = .ok (.l2i, 1) := by decide +kernel
theorem dX8_write_53 : decode cX8_write 53 = .ok (.i2b, 1) := by decide +kernel
theorem dX8_write_54 : decode cX8_write 54 = .ok (.bastore, 1) := by decide +kernel
theorem dX8_write_55 : decode cX8_write 55 = .ok (.aload_n 0, 1) := by decide +kernel
theorem dX8_write_56 : decode cX8_write 56 = .ok (.dup, 1) := by decide +kernel
theorem dX8_write_57 : decode cX8_write 57 = .ok (.getfield 91, 3) := by decide +kernel
theorem dX8_write_60 : decode cX8_write 60 = .ok (.iconst 1, 1) := by decide +kernel
theorem dX8_write_61 : decode cX8_write 61 = .ok (.iadd, 1) := by decide +kernel
theorem dX8_write_62 : decode cX8_write 62 = .ok (.putfield 91, 3) := by decide +kernel
theorem dX8_write_65 : decode cX8_write 65 = .ok (.iinc 4 (-1), 3) := by decide +kernel
theorem dX8_write_68 : decode cX8_write 68 = .ok (.goto (-36), 3) := by decide +kernel
theorem dX8_write_71 : decode cX8_write 71 = .ok (.aload_n 0, 1) := by decide +kernel
theorem dX8_write_72 : decode cX8_write 72 = .ok (.getfield 91, 3) := by decide +kernel
theorem dX8_write_75 : decode cX8_write 75 = .ok (.ireturn, 1) := by decide +kernel
theorem dX8_wipe_0 : decode cX8_wipe 0 = .ok (.aload_n 0, 1) := by decide +kernel
theorem dX8_wipe_1 : decode cX8_wipe 1 = .ok (.getfield 91, 3) := by decide +kernel
theorem dX8_wipe_4 : decode cX8_wipe 4 = .ok (.istore_n 1, 1) := by decide +kernel
theorem dX8_wipe_5 : decode cX8_wipe 5 = .ok (.aload_n 0, 1) := by decide +kernel
theorem dX8_wipe_6 : decode cX8_wipe 6 = .ok (.iconst 0, 1) := by decide +kernel
theorem dX8_wipe_7 : decode cX8_wipe 7 = .ok (.putfield 91, 3) := by decide +kernel
theorem dX8_wipe_10 : decode cX8_wipe 10 = .ok (.iload_n 1, 1) := by decide +kernel
theorem dX8_wipe_11 : decode cX8_wipe 11 = .ok (.ireturn, 1) := by decide +kernel
theorem dX8_fault_0 : decode cX8_fault 0 = .ok (.aload_n 0, 1) := by decide +kernel
theorem dX8_fault_1 : decode cX8_fault 1 = .ok (.getfield 16, 3) := by decide +kernel
theorem dX8_fault_4 : decode cX8_fault 4 = .ok (.aload_n 0, 1) := by decide +kernel
theorem dX8_fault_5 : decode cX8_fault 5 = .ok (.getfield 27, 3) := by decide +kernel
theorem dX8_fault_8 : decode cX8_fault 8 = .ok (.aload_n 0, 1) := by decide +kernel
theorem dX8_fault_9 : decode cX8_fault 9 = .ok (.getfield 9, 3) := by decide +kernel
theorem dX8_fault_12 : decode cX8_fault 12 = .ok (.aload_n 0, 1) := by decide +kernel
theorem dX8_fault_13 : decode cX8_fault 13 = .ok (.getfield 91, 3) := by decide +kernel
theorem dX8_fault_16 : decode cX8_fault 16 = .ok (.invokevirtual 95, 3) := by decide +kernel
theorem dX8_fault_19 : decode cX8_fault 19 = .ok (.ireturn, 1) := by decide +kernel
theorem dX8_lay_0 : decode cX8_lay 0 = .ok (.aload_n 0, 1) := by decide +kernel
theorem dX8_lay_1 : decode cX8_lay 1 = .ok (.getfield 16, 3) := by decide +kernel
theorem dX8_lay_4 : decode cX8_lay 4 = .ok (.aload_n 0, 1) := by decide +kernel
theorem dX8_lay_5 : decode cX8_lay 5 = .ok (.getfield 27, 3) := by decide +kernel
theorem dX8_lay_8 : decode cX8_lay 8 = .ok (.aload_n 0, 1) := by decide +kernel
theorem dX8_lay_9 : decode cX8_lay 9 = .ok (.getfield 9, 3) := by decide +kernel
theorem dX8_lay_12 : decode cX8_lay 12 = .ok (.aload_n 0, 1) := by decide +kernel
theorem dX8_lay_13 : decode cX8_lay 13 = .ok (.getfield 91, 3) := by decide +kernel
theorem dX8_lay_16 : decode cX8_lay 16 = .ok (.invokevirtual 95, 3) := by decide +kernel
theorem dX8_lay_19 : decode cX8_lay 19 = .ok (.bipush (-4), 2) := by decide +kernel
theorem dX8_lay_21 : decode cX8_lay 21 = .ok (.if_icmp .ne 13, 3) := by decide +kernel
theorem dX8_lay_24 : decode cX8_lay 24 = .ok (.aload_n 0, 1) := by decide +kernel
theorem dX8_lay_25 : decode cX8_lay 25 = .ok (.getfield 27, 3) := by decide +kernel
theorem dX8_lay_28 : decode cX8_lay 28 = .ok (.invokevirtual 99, 3) := by decide +kernel
theorem dX8_lay_31 : decode cX8_lay 31 = .ok (.ifCond .ne 6, 3) := by decide +kernel
theorem dX8_lay_34 : decode cX8_lay 34 = .ok (.bipush (-2), 2) := by decide +kernel
theorem dX8_lay_36 : decode cX8_lay 36 = .ok (.ireturn, 1) := by decide +kernel
theorem dX8_lay_37 : decode cX8_lay 37 = .ok (.aload_n 0, 1) := by decide +kernel
theorem dX8_lay_38 : decode cX8_lay 38 = .ok (.getfield 23, 3) := by decide +kernel
theorem dX8_lay_41 : decode cX8_lay 41 = .ok (.astore_n 1, 1) := by decide +kernel
theorem dX8_lay_42 : decode cX8_lay 42 = .ok (.aload_n 0, 1) := by decide +kernel
theorem dX8_lay_43 : decode cX8_lay 43 = .ok (.aload_n 0, 1) := by decide +kernel
theorem dX8_lay_44 : decode cX8_lay 44 = .ok (.getfield 27, 3) := by decide +kernel
theorem dX8_lay_47 : decode cX8_lay 47 = .ok (.putfield 23, 3) := by decide +kernel
theorem dX8_lay_50 : decode cX8_lay 50 = .ok (.aload_n 0, 1) := by decide +kernel
theorem dX8_lay_51 : decode cX8_lay 51 = .ok (.aload_n 1, 1) := by decide +kernel
theorem dX8_lay_52 : decode cX8_lay 52 = .ok (.putfield 27, 3) := by decide +kernel
theorem dX8_lay_55 : decode cX8_lay 55 = .ok (.aload_n 0, 1) := by decide +kernel
theorem dX8_lay_56 : decode cX8_lay 56 = .ok (.getfield 33, 3) := by decide +kernel
theorem dX8_lay_59 : decode cX8_lay 59 = .ok (.aload_n 0, 1) := by decide +kernel
theorem dX8_lay_60 : decode cX8_lay 60 = .ok (.getfield 23, 3) := by decide +kernel
theorem dX8_lay_63 : decode cX8_lay 63 = .ok (.invokevirtual 83, 3) := by decide +kernel
theorem dX8_lay_66 : decode cX8_lay 66 = .ok (.aload_n 0, 1) := by decide +kernel
theorem dX8_lay_67 : decode cX8_lay 67 = .ok (.iconst 0, 1) := by decide +kernel
theorem dX8_lay_68 : decode cX8_lay 68 = .ok (.putfield 103, 3) := by decide +kernel
theorem dX8_lay_71 : decode cX8_lay 71 = .ok (.aload_n 0, 1) := by decide +kernel
theorem dX8_lay_72 : decode cX8_lay 72 = .ok (.getfield 51, 3) := by decide +kernel
theorem dX8_lay_75 : decode cX8_lay 75 = .ok (.invokevirtual 106, 3) := by decide +kernel
theorem dX8_lay_78 : decode cX8_lay 78 = .ok (.aload_n 0, 1) := by decide +kernel
theorem dX8_lay_79 : decode cX8_lay 79 = .ok (.getfield 58, 3) := by decide +kernel
theorem dX8_lay_82 : decode cX8_lay 82 = .ok (.invokevirtual 109, 3) := by decide +kernel
theorem dX8_lay_85 : decode cX8_lay 85 = .ok (.aload_n 0, 1) := by decide +kernel
theorem dX8_lay_86 : decode cX8_lay 86 = .ok (.getfield 23, 3) := by decide +kernel
theorem dX8_lay_89 : decode cX8_lay 89 = .ok (.getfield 110, 3) := by decide +kernel
theorem dX8_lay_92 : decode cX8_lay 92 = .ok (.ireturn, 1) := by decide +kernel
theorem dX8_worth_0 : decode cX8_worth 0 = .ok (.aload_n 0, 1) := by decide +kernel
theorem dX8_worth_1 : decode cX8_worth 1 = .ok (.iload_n 1, 1) := by decide +kernel
theorem dX8_worth_2 : decode cX8_worth 2 = .ok (.invokevirtual 113, 3) := by decide +kernel
theorem dX8_worth_5 : decode cX8_worth 5 = .ok (.ifCond .eq 11, 3) := by decide +kernel
theorem dX8_worth_8 : decode cX8_worth 8 = .ok (.aload_n 0, 1) := by decide +kernel
theorem dX8_worth_9 : decode cX8_worth 9 = .ok (.iload_n 2, 1) := by decide +kernel
theorem dX8_worth_10 : decode cX8_worth 10 = .ok (.invokevirtual 116, 3) := by decide +kernel
theorem dX8_worth_13 : decode cX8_worth 13 = .ok (.ifCond .ne 5, 3) := by decide +kernel
theorem dX8_worth_16 : decode cX8_worth 16 = .ok (.iconst (-1), 1) := by decide +kernel
theorem dX8_worth_17 : decode cX8_worth 17 = .ok (.ireturn, 1) := by decide +kernel
theorem dX8_worth_18 : decode cX8_worth 18 = .ok (.aload_n 0, 1) := by decide +kernel
theorem dX8_worth_19 : decode cX8_worth 19 = .ok (.getfield 23, 3) := by decide +kernel
theorem dX8_worth_22 : decode cX8_worth 22 = .ok (.iload_n 1, 1) := by decide +kernel
theorem dX8_worth_23 : decode cX8_worth 23 = .ok (.iload_n 2, 1) := by decide +kernel
theorem dX8_worth_24 : decode cX8_worth 24 = .ok (.invokevirtual 119, 3) := by decide +kernel
theorem dX8_worth_27 : decode cX8_worth 27 = .ok (.ireturn, 1) := by decide +kernel
theorem dX8_given_0 : decode cX8_given 0 = .ok (.aload_n 0, 1) := by decide +kernel
theorem dX8_given_1 : decode cX8_given 1 = .ok (.iload_n 1, 1) := by decide +kernel
theorem dX8_given_2 : decode cX8_given 2 = .ok (.invokevirtual 123, 3) := by decide +kernel
theorem dX8_given_5 : decode cX8_given 5 = .ok (.ifCond .ne 5, 3) := by decide +kernel
theorem dX8_given_8 : decode cX8_given 8 = .ok (.iconst (-1), 1) := by decide +kernel
theorem dX8_given_9 : decode cX8_given 9 = .ok (.ireturn, 1) := by decide +kernel
theorem dX8_given_10 : decode cX8_given 10 = .ok (.aload_n 0, 1) := by decide +kernel
theorem dX8_given_11 : decode cX8_given 11 = .ok (.getfield 44, 3) := by decide +kernel
theorem dX8_given_14 : decode cX8_given 14 = .ok (.aload_n 0, 1) := by decide +kernel
theorem dX8_given_15 : decode cX8_given 15 = .ok (.getfield 23, 3) := by decide +kernel
theorem dX8_given_18 : decode cX8_given 18 = .ok (.aload_n 0, 1) := by decide +kernel
theorem dX8_given_19 : decode cX8_given 19 = .ok (.getfield 23, 3) := by decide +kernel
theorem dX8_given_22 : decode cX8_given 22 = .ok (.getfield 126, 3) := by decide +kernel
theorem dX8_given_25 : decode cX8_given 25 = .ok (.invokevirtual 129, 3) := by decide +kernel
theorem dX8_given_28 : decode cX8_given 28 = .ok (.aload_n 0, 1) := by decide +kernel
theorem dX8_given_29 : decode cX8_given 29 = .ok (.getfield 44, 3) := by decide +kernel
theorem dX8_given_32 : decode cX8_given 32 = .ok (.getfield 133, 3) := by decide +kernel
theorem dX8_given_35 : decode cX8_given 35 = .ok (.iload_n 1, 1) := by decide +kernel
theorem dX8_given_36 : decode cX8_given 36 = .ok (.iaload, 1) := by decide +kernel
theorem dX8_given_37 : decode cX8_given 37 = .ok (.ireturn, 1) := by decide +kernel
theorem dX8_have_0 : decode cX8_have 0 = .ok (.aload_n 0, 1) := by decide +kernel
theorem dX8_have_1 : decode cX8_have 1 = .ok (.getfield 44, 3) := by decide +kernel
theorem dX8_have_4 : decode cX8_have 4 = .ok (.aload_n 0, 1) := by decide +kernel
theorem dX8_have_5 : decode cX8_have 5 = .ok (.getfield 23, 3) := by decide +kernel
theorem dX8_have_8 : decode cX8_have 8 = .ok (.aload_n 0, 1) := by decide +kernel
theorem dX8_have_9 : decode cX8_have 9 = .ok (.getfield 23, 3) := by decide +kernel
theorem dX8_have_12 : decode cX8_have 12 = .ok (.getfield 126, 3) := by decide +kernel
theorem dX8_have_15 : decode cX8_have 15 = .ok (.invokevirtual 129, 3) := by decide +kernel
theorem dX8_have_18 : decode cX8_have 18 = .ok (.iconst 0, 1) := by decide +kernel
theorem dX8_have_19 : decode cX8_have 19 = .ok (.istore_n 1, 1) := by decide +kernel
theorem dX8_have_20 : decode cX8_have 20 = .ok (.iconst 0, 1) := by decide +kernel
theorem dX8_have_21 : decode cX8_have 21 = .ok (.istore_n 2, 1) := by decide +kernel
theorem dX8_have_22 : decode cX8_have 22 = .ok (.iload_n 2, 1) := by decide +kernel
theorem dX8_have_23 : decode cX8_have 23 = .ok (.aload_n 0, 1) := by decide +kernel
theorem dX8_have_24 : decode cX8_have 24 = .ok (.getfield 23, 3) := by decide +kernel
theorem dX8_have_27 : decode cX8_have 27 = .ok (.getfield 110, 3) := by decide +kernel
theorem dX8_have_30 : decode cX8_have 30 = .ok (.if_icmp .ge 33, 3) := by decide +kernel
theorem dX8_have_33 : decode cX8_have 33 = .ok (.aload_n 0, 1) := by decide +kernel
theorem dX8_have_34 : decode cX8_have 34 = .ok (.getfield 44, 3) := by decide +kernel
theorem dX8_have_37 : decode cX8_have 37 = .ok (.getfield 133, 3) := by decide +kernel
theorem dX8_have_40 : decode cX8_have 40 = .ok (.iload_n 2, 1) := by decide +kernel
theorem dX8_have_41 : decode cX8_have 41 = .ok (.iaload, 1) := by decide +kernel
theorem dX8_have_42 : decode cX8_have 42 = .ok (.aload_n 0, 1) := by decide +kernel
theorem dX8_have_43 : decode cX8_have 43 = .ok (.getfield 23, 3) := by decide +kernel
theorem dX8_have_46 : decode cX8_have 46 = .ok (.getfield 137, 3) := by decide +kernel
theorem dX8_have_49 : decode cX8_have 49 = .ok (.iload_n 2, 1) := by decide +kernel
theorem dX8_have_50 : decode cX8_have 50 = .ok (.iaload, 1) := by decide +kernel
theorem dX8_have_51 : decode cX8_have 51 = .ok (.if_icmp .ne 6, 3) := by decide +kernel
theorem dX8_have_54 : decode cX8_have 54 = .ok (.iinc 1 1, 3) := by decide +kernel
theorem dX8_have_57 : decode cX8_have 57 = .ok (.iinc 2 1, 3) := by decide +kernel
theorem dX8_have_60 : decode cX8_have 60 = .ok (.goto (-38), 3) := by decide +kernel
theorem dX8_have_63 : decode cX8_have 63 = .ok (.iload_n 1, 1) := by decide +kernel
theorem dX8_have_64 : decode cX8_have 64 = .ok (.ireturn, 1) := by decide +kernel
theorem dX8_other_0 : decode cX8_other 0 = .ok (.iload_n 1, 1) := by decide +kernel
theorem dX8_other_1 : decode cX8_other 1 = .ok (.iconst 0, 1) := by decide +kernel
theorem dX8_other_2 : decode cX8_other 2 = .ok (.iconst 3, 1) := by decide +kernel
theorem dX8_other_3 : decode cX8_other 3 = .ok (.invokestatic 87, 3) := by decide +kernel
theorem dX8_other_6 : decode cX8_other 6 = .ok (.ifCond .ne 5, 3) := by decide +kernel
theorem dX8_other_9 : decode cX8_other 9 = .ok (.iconst (-1), 1) := by decide +kernel
theorem dX8_other_10 : decode cX8_other 10 = .ok (.ireturn, 1) := by decide +kernel
theorem dX8_other_11 : decode cX8_other 11 = .ok (.aload_n 0, 1) := by decide +kernel
theorem dX8_other_12 : decode cX8_other 12 = .ok (.getfield 44, 3) := by decide +kernel
theorem dX8_other_15 : decode cX8_other 15 = .ok (.aload_n 0, 1) := by decide +kernel
theorem dX8_other_16 : decode cX8_other 16 = .ok (.getfield 23, 3) := by decide +kernel
theorem dX8_other_19 : decode cX8_other 19 = .ok (.iload_n 1, 1) := by decide +kernel
theorem dX8_other_20 : decode cX8_other 20 = .ok (.invokevirtual 140, 3) := by decide +kernel
theorem dX8_other_23 : decode cX8_other 23 = .ok (.ireturn, 1) := by decide +kernel
theorem dX8_order_0 : decode cX8_order 0 = .ok (.aload_n 0, 1) := by decide +kernel
theorem dX8_order_1 : decode cX8_order 1 = .ok (.iload_n 1, 1) := by decide +kernel
theorem dX8_order_2 : decode cX8_order 2 = .ok (.invokevirtual 144, 3) := by decide +kernel
theorem dX8_order_5 : decode cX8_order 5 = .ok (.ifCond .eq 16, 3) := by decide +kernel
theorem dX8_order_8 : decode cX8_order 8 = .ok (.iload_n 2, 1) := by decide +kernel
theorem dX8_order_9 : decode cX8_order 9 = .ok (.iconst (-1), 1) := by decide +kernel
theorem dX8_order_10 : decode cX8_order 10 = .ok (.if_icmp .eq 13, 3) := by decide +kernel
theorem dX8_order_13 : decode cX8_order 13 = .ok (.aload_n 0, 1) := by decide +kernel
theorem dX8_order_14 : decode cX8_order 14 = .ok (.iload_n 2, 1) := by decide +kernel
theorem dX8_order_15 : decode cX8_order 15 = .ok (.invokevirtual 123, 3) := by decide +kernel
theorem dX8_order_18 : decode cX8_order 18 = .ok (.ifCond .ne 5, 3) := by decide +kernel
theorem dX8_order_21 : decode cX8_order 21 = .ok (.iconst (-1), 1) := by decide +kernel
theorem dX8_order_22 : decode cX8_order 22 = .ok (.ireturn, 1) := by decide +kernel
theorem dX8_order_23 : decode cX8_order 23 = .ok (.aload_n 0, 1) := by decide +kernel
theorem dX8_order_24 : decode cX8_order 24 = .ok (.getfield 23, 3) := by decide +kernel
theorem dX8_order_27 : decode cX8_order 27 = .ok (.invokevirtual 147, 3) := by decide +kernel
theorem dX8_order_30 : decode cX8_order 30 = .ok (.ifCond .ne 6, 3) := by decide +kernel
theorem dX8_order_33 : decode cX8_order 33 = .ok (.bipush (-2), 2) := by decide +kernel
theorem dX8_order_35 : decode cX8_order 35 = .ok (.ireturn, 1) := by decide +kernel
theorem dX8_order_36 : decode cX8_order 36 = .ok (.aload_n 0, 1) := by decide +kernel
theorem dX8_order_37 : decode cX8_order 37 = .ok (.getfield 51, 3) := by decide +kernel
theorem dX8_order_40 : decode cX8_order 40 = .ok (.aload_n 0, 1) := by decide +kernel
theorem dX8_order_41 : decode cX8_order 41 = .ok (.getfield 23, 3) := by decide +kernel
theorem dX8_order_44 : decode cX8_order 44 = .ok (.iload_n 1, 1) := by decide +kernel
theorem dX8_order_45 : decode cX8_order 45 = .ok (.invokevirtual 150, 3) := by decide +kernel
theorem dX8_order_48 : decode cX8_order 48 = .ok (.aload_n 0, 1) := by decide +kernel
theorem dX8_order_49 : decode cX8_order 49 = .ok (.getfield 51, 3) := by decide +kernel
theorem dX8_order_52 : decode cX8_order 52 = .ok (.getfield 153, 3) := by decide +kernel
theorem dX8_order_55 : decode cX8_order 55 = .ok (.ifCond .ge 6, 3) := by decide +kernel
theorem dX8_order_58 : decode cX8_order 58 = .ok (.bipush (-4), 2) := by decide +kernel
theorem dX8_order_60 : decode cX8_order 60 = .ok (.ireturn, 1) := by decide +kernel
theorem dX8_order_61 : decode cX8_order 61 = .ok (.iload_n 2, 1) := by decide +kernel
theorem dX8_order_62 : decode cX8_order 62 = .ok (.iconst (-1), 1) := by decide +kernel
theorem dX8_order_63 : decode cX8_order 63 = .ok (.if_icmp .ne 13, 3) := by decide +kernel
theorem dX8_order_66 : decode cX8_order 66 = .ok (.aload_n 0, 1) := by decide +kernel
theorem dX8_order_67 : decode cX8_order 67 = .ok (.getfield 51, 3) := by decide +kernel
theorem dX8_order_70 : decode cX8_order 70 = .ok (.getfield 153, 3) := by decide +kernel
theorem dX8_order_73 : decode cX8_order 73 = .ok (.goto 12, 3) := by decide +kernel
theorem dX8_order_76 : decode cX8_order 76 = .ok (.aload_n 0, 1) := by decide +kernel
theorem dX8_order_77 : decode cX8_order 77 = .ok (.getfield 51, 3) := by decide +kernel
theorem dX8_order_80 : decode cX8_order 80 = .ok (.getfield 156, 3) := by decide +kernel
theorem dX8_order_83 : decode cX8_order 83 = .ok (.iload_n 2, 1) := by decide +kernel
theorem dX8_order_84 : decode cX8_order 84 = .ok (.iaload, 1) := by decide +kernel
theorem dX8_order_85 : decode cX8_order 85 = .ok (.ireturn, 1) := by decide +kernel
theorem dX8_strangers_0 : decode cX8_strangers 0 = .ok (.aload_n 0, 1) := by decide +kernel
theorem dX8_strangers_1 : decode cX8_strangers 1 = .ok (.iload_n 1, 1) := by decide +kernel
theorem dX8_strangers_2 : decode cX8_strangers 2 = .ok (.invokevirtual 144, 3) := by decide +kernel
theorem dX8_strangers_5 : decode cX8_strangers 5 = .ok (.ifCond .eq 13, 3) := by decide +kernel
theorem dX8_strangers_8 : decode cX8_strangers 8 = .ok (.iload_n 2, 1) := by decide +kernel
theorem dX8_strangers_9 : decode cX8_strangers 9 = .ok (.iconst (-1), 1) := by decide +kernel
theorem dX8_strangers_10 : decode cX8_strangers 10 = .ok (.bipush 11, 2) := by decide +kernel
theorem dX8_strangers_12 : decode cX8_strangers 12 = .ok (.invokestatic 87, 3) := by decide +kernel
theorem dX8_strangers_15 : decode cX8_strangers 15 = .ok (.ifCond .ne 5, 3) := by decide +kernel
theorem dX8_strangers_18 : decode cX8_strangers 18 = .ok (.iconst (-1), 1) := by decide +kernel
theorem dX8_strangers_19 : decode cX8_strangers 19 = .ok (.ireturn, 1) := by decide +kernel
theorem dX8_strangers_20 : decode cX8_strangers 20 = .ok (.aload_n 0, 1) := by decide +kernel
theorem dX8_strangers_21 : decode cX8_strangers 21 = .ok (.getfield 23, 3) := by decide +kernel
theorem dX8_strangers_24 : decode cX8_strangers 24 = .ok (.invokevirtual 147, 3) := by decide +kernel
theorem dX8_strangers_27 : decode cX8_strangers 27 = .ok (.ifCond .ne 6, 3) := by decide +kernel
theorem dX8_strangers_30 : decode cX8_strangers 30 = .ok (.bipush (-2), 2) := by decide +kernel
theorem dX8_strangers_32 : decode cX8_strangers 32 = .ok (.ireturn, 1) := by decide +kernel
theorem dX8_strangers_33 : decode cX8_strangers 33 = .ok (.aload_n 0, 1) := by decide +kernel
theorem dX8_strangers_34 : decode cX8_strangers 34 = .ok (.getfield 58, 3) := by decide +kernel
theorem dX8_strangers_37 : decode cX8_strangers 37 = .ok (.aload_n 0, 1) := by decide +kernel
theorem dX8_strangers_38 : decode cX8_strangers 38 = .ok (.getfield 23, 3) := by decide +kernel
theorem dX8_strangers_41 : decode cX8_strangers 41 = .ok (.iload_n 1, 1) := by decide +kernel
theorem dX8_strangers_42 : decode cX8_strangers 42 = .ok (.invokevirtual 159, 3) := by decide +kernel
theorem dX8_strangers_45 : decode cX8_strangers 45 = .ok (.iload_n 2, 1) := by decide +kernel
theorem dX8_strangers_46 : decode cX8_strangers 46 = .ok (.iconst (-1), 1) := by decide +kernel
theorem dX8_strangers_47 : decode cX8_strangers 47 = .ok (.if_icmp .ne 23, 3) := by decide +kernel
theorem dX8_strangers_50 : decode cX8_strangers 50 = .ok (.aload_n 0, 1) := by decide +kernel
theorem dX8_strangers_51 : decode cX8_strangers 51 = .ok (.getfield 58, 3) := by decide +kernel
theorem dX8_strangers_54 : decode cX8_strangers 54 = .ok (.getfield 160, 3) := by decide +kernel
theorem dX8_strangers_57 : decode cX8_strangers 57 = .ok (.bipush 12, 2) := by decide +kernel
theorem dX8_strangers_59 : decode cX8_strangers 59 = .ok (.if_icmp .gt 11, 3) := by decide +kernel
theorem dX8_strangers_62 : decode cX8_strangers 62 = .ok (.aload_n 0, 1) := by decide +kernel
theorem dX8_strangers_63 : decode cX8_strangers 63 = .ok (.getfield 58, 3) := by decide +kernel
theorem dX8_strangers_66 : decode cX8_strangers 66 = .ok (.getfield 160, 3) := by decide +kernel
theorem dX8_strangers_69 : decode cX8_strangers 69 = .ok (.ireturn, 1) := by decide +kernel
theorem dX8_strangers_70 : decode cX8_strangers 70 = .ok (.aload_n 0, 1) := by decide +kernel
theorem dX8_strangers_71 : decode cX8_strangers 71 = .ok (.getfield 58, 3) := by decide +kernel
theorem dX8_strangers_74 : decode cX8_strangers 74 = .ok (.iload_n 2, 1) := by decide +kernel
theorem dX8_strangers_75 : decode cX8_strangers 75 = .ok (.invokevirtual 163, 3) := by decide +kernel
theorem dX8_strangers_78 : decode cX8_strangers 78 = .ok (.ifCond .eq 15, 3) := by decide +kernel
theorem dX8_strangers_81 : decode cX8_strangers 81 = .ok (.aload_n 0, 1) := by decide +kernel
theorem dX8_strangers_82 : decode cX8_strangers 82 = .ok (.getfield 58, 3) := by decide +kernel
theorem dX8_strangers_85 : decode cX8_strangers 85 = .ok (.getfield 166, 3) := by decide +kernel
theorem dX8_strangers_88 : decode cX8_strangers 88 = .ok (.iload_n 2, 1) := by decide +kernel
theorem dX8_strangers_89 : decode cX8_strangers 89 = .ok (.iaload, 1) := by decide +kernel
theorem dX8_strangers_90 : decode cX8_strangers 90 = .ok (.goto 5, 3) := by decide +kernel
theorem dX8_strangers_93 : decode cX8_strangers 93 = .ok (.bipush (-4), 2) := by decide +kernel
theorem dX8_strangers_95 : decode cX8_strangers 95 = .ok (.ireturn, 1) := by decide +kernel
theorem dX8_ahead_0 : decode cX8_ahead 0 = .ok (.aload_n 0, 1) := by decide +kernel
theorem dX8_ahead_1 : decode cX8_ahead 1 = .ok (.iload_n 1, 1) := by decide +kernel
theorem dX8_ahead_2 : decode cX8_ahead 2 = .ok (.invokevirtual 144, 3) := by decide +kernel
theorem dX8_ahead_5 : decode cX8_ahead 5 = .ok (.ifCond .eq 13, 3) := by decide +kernel
theorem dX8_ahead_8 : decode cX8_ahead 8 = .ok (.iload_n 2, 1) := by decide +kernel
theorem dX8_ahead_9 : decode cX8_ahead 9 = .ok (.iconst 0, 1) := by decide +kernel
theorem dX8_ahead_10 : decode cX8_ahead 10 = .ok (.bipush 11, 2) := by decide +kernel
theorem dX8_ahead_12 : decode cX8_ahead 12 = .ok (.invokestatic 87, 3) := by decide +kernel
theorem dX8_ahead_15 : decode cX8_ahead 15 = .ok (.ifCond .ne 5, 3) := by decide +kernel
theorem dX8_ahead_18 : decode cX8_ahead 18 = .ok (.iconst (-1), 1) := by decide +kernel
theorem dX8_ahead_19 : decode cX8_ahead 19 = .ok (.ireturn, 1) := by decide +kernel
theorem dX8_ahead_20 : decode cX8_ahead 20 = .ok (.aload_n 0, 1) := by decide +kernel
theorem dX8_ahead_21 : decode cX8_ahead 21 = .ok (.getfield 23, 3) := by decide +kernel
theorem dX8_ahead_24 : decode cX8_ahead 24 = .ok (.invokevirtual 147, 3) := by decide +kernel
theorem dX8_ahead_27 : decode cX8_ahead 27 = .ok (.ifCond .ne 6, 3) := by decide +kernel
theorem dX8_ahead_30 : decode cX8_ahead 30 = .ok (.bipush (-2), 2) := by decide +kernel
theorem dX8_ahead_32 : decode cX8_ahead 32 = .ok (.ireturn, 1) := by decide +kernel
theorem dX8_ahead_33 : decode cX8_ahead 33 = .ok (.aload_n 0, 1) := by decide +kernel
theorem dX8_ahead_34 : decode cX8_ahead 34 = .ok (.getfield 58, 3) := by decide +kernel
theorem dX8_ahead_37 : decode cX8_ahead 37 = .ok (.aload_n 0, 1) := by decide +kernel
theorem dX8_ahead_38 : decode cX8_ahead 38 = .ok (.getfield 23, 3) := by decide +kernel
theorem dX8_ahead_41 : decode cX8_ahead 41 = .ok (.iload_n 1, 1) := by decide +kernel
theorem dX8_ahead_42 : decode cX8_ahead 42 = .ok (.invokevirtual 159, 3) := by decide +kernel
theorem dX8_ahead_45 : decode cX8_ahead 45 = .ok (.aload_n 0, 1) := by decide +kernel
theorem dX8_ahead_46 : decode cX8_ahead 46 = .ok (.getfield 58, 3) := by decide +kernel
theorem dX8_ahead_49 : decode cX8_ahead 49 = .ok (.iload_n 2, 1) := by decide +kernel
theorem dX8_ahead_50 : decode cX8_ahead 50 = .ok (.invokevirtual 163, 3) := by decide +kernel
theorem dX8_ahead_53 : decode cX8_ahead 53 = .ok (.ifCond .eq 15, 3) := by decide +kernel
theorem dX8_ahead_56 : decode cX8_ahead 56 = .ok (.aload_n 0, 1) := by decide +kernel
theorem dX8_ahead_57 : decode cX8_ahead 57 = .ok (.getfield 58, 3) := by decide +kernel
theorem dX8_ahead_60 : decode cX8_ahead 60 = .ok (.getfield 167, 3) := by decide +kernel
theorem dX8_ahead_63 : decode cX8_ahead 63 = .ok (.iload_n 2, 1) := by decide +kernel
theorem dX8_ahead_64 : decode cX8_ahead 64 = .ok (.iaload, 1) := by decide +kernel
theorem dX8_ahead_65 : decode cX8_ahead 65 = .ok (.goto 5, 3) := by decide +kernel
theorem dX8_ahead_68 : decode cX8_ahead 68 = .ok (.bipush (-4), 2) := by decide +kernel
theorem dX8_ahead_70 : decode cX8_ahead 70 = .ok (.ireturn, 1) := by decide +kernel
theorem dX8_asks_0 : decode cX8_asks 0 = .ok (.aload_n 0, 1) := by decide +kernel
theorem dX8_asks_1 : decode cX8_asks 1 = .ok (.iload_n 1, 1) := by decide +kernel
theorem dX8_asks_2 : decode cX8_asks 2 = .ok (.invokevirtual 123, 3) := by decide +kernel
theorem dX8_asks_5 : decode cX8_asks 5 = .ok (.ifCond .eq 12, 3) := by decide +kernel
theorem dX8_asks_8 : decode cX8_asks 8 = .ok (.iload_n 2, 1) := by decide +kernel
theorem dX8_asks_9 : decode cX8_asks 9 = .ok (.iconst 0, 1) := by decide +kernel
theorem dX8_asks_10 : decode cX8_asks 10 = .ok (.iconst 1, 1) := by decide +kernel
theorem dX8_asks_11 : decode cX8_asks 11 = .ok (.invokestatic 87, 3) := by decide +kernel
theorem dX8_asks_14 : decode cX8_asks 14 = .ok (.ifCond .ne 5, 3) := by decide +kernel
theorem dX8_asks_17 : decode cX8_asks 17 = .ok (.iconst (-1), 1) := by decide +kernel
theorem dX8_asks_18 : decode cX8_asks 18 = .ok (.ireturn, 1) := by decide +kernel
theorem dX8_asks_19 : decode cX8_asks 19 = .ok (.aload_n 0, 1) := by decide +kernel
theorem dX8_asks_20 : decode cX8_asks 20 = .ok (.getfield 44, 3) := by decide +kernel
theorem dX8_asks_23 : decode cX8_asks 23 = .ok (.aload_n 0, 1) := by decide +kernel
theorem dX8_asks_24 : decode cX8_asks 24 = .ok (.getfield 23, 3) := by decide +kernel
theorem dX8_asks_27 : decode cX8_asks 27 = .ok (.invokevirtual 170, 3) := by decide +kernel
theorem dX8_asks_30 : decode cX8_asks 30 = .ok (.iload_n 2, 1) := by decide +kernel
theorem dX8_asks_31 : decode cX8_asks 31 = .ok (.ifCond .ne 15, 3) := by decide +kernel
theorem dX8_asks_34 : decode cX8_asks 34 = .ok (.aload_n 0, 1) := by decide +kernel
theorem dX8_asks_35 : decode cX8_asks 35 = .ok (.getfield 44, 3) := by decide +kernel
theorem dX8_asks_38 : decode cX8_asks 38 = .ok (.getfield 173, 3) := by decide +kernel
theorem dX8_asks_41 : decode cX8_asks 41 = .ok (.iload_n 1, 1) := by decide +kernel
theorem dX8_asks_42 : decode cX8_asks 42 = .ok (.iaload, 1) := by decide +kernel
theorem dX8_asks_43 : decode cX8_asks 43 = .ok (.goto 12, 3) := by decide +kernel
theorem dX8_asks_46 : decode cX8_asks 46 = .ok (.aload_n 0, 1) := by decide +kernel
theorem dX8_asks_47 : decode cX8_asks 47 = .ok (.getfield 44, 3) := by decide +kernel
theorem dX8_asks_50 : decode cX8_asks 50 = .ok (.getfield 133, 3) := by decide +kernel
theorem dX8_asks_53 : decode cX8_asks 53 = .ok (.iload_n 1, 1) := by decide +kernel
theorem dX8_asks_54 : decode cX8_asks 54 = .ok (.iaload, 1) := by decide +kernel
theorem dX8_asks_55 : decode cX8_asks 55 = .ok (.ireturn, 1) := by decide +kernel
theorem dX8_otherwise_0 : decode cX8_otherwise 0 = .ok (.aload_n 0, 1) := by decide +kernel
theorem dX8_otherwise_1 : decode cX8_otherwise 1 = .ok (.getfield 44, 3) := by decide +kernel
theorem dX8_otherwise_4 : decode cX8_otherwise 4 = .ok (.aload_n 0, 1) := by decide +kernel
theorem dX8_otherwise_5 : decode cX8_otherwise 5 = .ok (.getfield 23, 3) := by decide +kernel
theorem dX8_otherwise_8 : decode cX8_otherwise 8 = .ok (.invokevirtual 170, 3) := by decide +kernel
theorem dX8_otherwise_11 : decode cX8_otherwise 11 = .ok (.iconst 0, 1) := by decide +kernel
theorem dX8_otherwise_12 : decode cX8_otherwise 12 = .ok (.istore_n 1, 1) := by decide +kernel
theorem dX8_otherwise_13 : decode cX8_otherwise 13 = .ok (.iconst 0, 1) := by decide +kernel
theorem dX8_otherwise_14 : decode cX8_otherwise 14 = .ok (.istore_n 2, 1) := by decide +kernel
theorem dX8_otherwise_15 : decode cX8_otherwise 15 = .ok (.iload_n 2, 1) := by decide +kernel
theorem dX8_otherwise_16 : decode cX8_otherwise 16 = .ok (.aload_n 0, 1) := by decide +kernel
theorem dX8_otherwise_17 : decode cX8_otherwise 17 = .ok (.getfield 23, 3) := by decide +kernel
theorem dX8_otherwise_20 : decode cX8_otherwise 20 = .ok (.getfield 110, 3) := by decide +kernel
theorem dX8_otherwise_23 : decode cX8_otherwise 23 = .ok (.if_icmp .ge 33, 3) := by decide +kernel
theorem dX8_otherwise_26 : decode cX8_otherwise 26 = .ok (.aload_n 0, 1) := by decide +kernel
theorem dX8_otherwise_27 : decode cX8_otherwise 27 = .ok (.getfield 44, 3) := by decide +kernel
theorem dX8_otherwise_30 : decode cX8_otherwise 30 = .ok (.getfield 173, 3) := by decide +kernel
theorem dX8_otherwise_33 : decode cX8_otherwise 33 = .ok (.iload_n 2, 1) := by decide +kernel
theorem dX8_otherwise_34 : decode cX8_otherwise 34 = .ok (.iaload, 1) := by decide +kernel
theorem dX8_otherwise_35 : decode cX8_otherwise 35 = .ok (.aload_n 0, 1) := by decide +kernel
theorem dX8_otherwise_36 : decode cX8_otherwise 36 = .ok (.getfield 23, 3) := by decide +kernel
theorem dX8_otherwise_39 : decode cX8_otherwise 39 = .ok (.getfield 137, 3) := by decide +kernel
theorem dX8_otherwise_42 : decode cX8_otherwise 42 = .ok (.iload_n 2, 1) := by decide +kernel
theorem dX8_otherwise_43 : decode cX8_otherwise 43 = .ok (.iaload, 1) := by decide +kernel
theorem dX8_otherwise_44 : decode cX8_otherwise 44 = .ok (.if_icmp .eq 6, 3) := by decide +kernel
theorem dX8_otherwise_47 : decode cX8_otherwise 47 = .ok (.iinc 1 1, 3) := by decide +kernel
theorem dX8_otherwise_50 : decode cX8_otherwise 50 = .ok (.iinc 2 1, 3) := by decide +kernel
theorem dX8_otherwise_53 : decode cX8_otherwise 53 = .ok (.goto (-38), 3) := by decide +kernel
theorem dX8_otherwise_56 : decode cX8_otherwise 56 = .ok (.iload_n 1, 1) := by decide +kernel
theorem dX8_otherwise_57 : decode cX8_otherwise 57 = .ok (.ireturn, 1) := by decide +kernel
theorem dX8_swaps_0 : decode cX8_swaps 0 = .ok (.iload_n 1, 1) := by decide +kernel
theorem dX8_swaps_1 : decode cX8_swaps 1 = .ok (.iconst (-1), 1) := by decide +kernel
theorem dX8_swaps_2 : decode cX8_swaps 2 = .ok (.if_icmp .eq 13, 3) := by decide +kernel
theorem dX8_swaps_5 : decode cX8_swaps 5 = .ok (.aload_n 0, 1) := by decide +kernel
theorem dX8_swaps_6 : decode cX8_swaps 6 = .ok (.iload_n 1, 1) := by decide +kernel
theorem dX8_swaps_7 : decode cX8_swaps 7 = .ok (.invokevirtual 123, 3) := by decide +kernel
theorem dX8_swaps_10 : decode cX8_swaps 10 = .ok (.ifCond .ne 5, 3) := by decide +kernel
theorem dX8_swaps_13 : decode cX8_swaps 13 = .ok (.iconst (-1), 1) := by decide +kernel
theorem dX8_swaps_14 : decode cX8_swaps 14 = .ok (.ireturn, 1) := by decide +kernel
theorem dX8_swaps_15 : decode cX8_swaps 15 = .ok (.aload_n 0, 1) := by decide +kernel
theorem dX8_swaps_16 : decode cX8_swaps 16 = .ok (.getfield 44, 3) := by decide +kernel
theorem dX8_swaps_19 : decode cX8_swaps 19 = .ok (.aload_n 0, 1) := by decide +kernel
theorem dX8_swaps_20 : decode cX8_swaps 20 = .ok (.getfield 23, 3) := by decide +kernel
theorem dX8_swaps_23 : decode cX8_swaps 23 = .ok (.aload_n 0, 1) := by decide +kernel
theorem dX8_swaps_24 : decode cX8_swaps 24 = .ok (.getfield 23, 3) := by decide +kernel
theorem dX8_swaps_27 : decode cX8_swaps 27 = .ok (.getfield 126, 3) := by decide +kernel
theorem dX8_swaps_30 : decode cX8_swaps 30 = .ok (.invokevirtual 129, 3) := by decide +kernel
theorem dX8_swaps_33 : decode cX8_swaps 33 = .ok (.aload_n 0, 1) := by decide +kernel
theorem dX8_swaps_34 : decode cX8_swaps 34 = .ok (.getfield 44, 3) := by decide +kernel
theorem dX8_swaps_37 : decode cX8_swaps 37 = .ok (.aload_n 0, 1) := by decide +kernel
theorem dX8_swaps_38 : decode cX8_swaps 38 = .ok (.getfield 23, 3) := by decide +kernel
theorem dX8_swaps_41 : decode cX8_swaps 41 = .ok (.invokevirtual 176, 3) := by decide +kernel
theorem dX8_swaps_44 : decode cX8_swaps 44 = .ok (.istore_n 2, 1) := by decide +kernel
theorem dX8_swaps_45 : decode cX8_swaps 45 = .ok (.iload_n 1, 1) := by decide +kernel
theorem dX8_swaps_46 : decode cX8_swaps 46 = .ok (.iconst (-1), 1) := by decide +kernel
theorem dX8_swaps_47 : decode cX8_swaps 47 = .ok (.if_icmp .ne 7, 3) := by decide +kernel
theorem dX8_swaps_50 : decode cX8_swaps 50 = .ok (.iload_n 2, 1) := by decide +kernel
theorem dX8_swaps_51 : decode cX8_swaps 51 = .ok (.goto 12, 3) := by decide +kernel
theorem dX8_swaps_54 : decode cX8_swaps 54 = .ok (.aload_n 0, 1) := by decide +kernel
theorem dX8_swaps_55 : decode cX8_swaps 55 = .ok (.getfield 44, 3) := by decide +kernel
theorem dX8_swaps_58 : decode cX8_swaps 58 = .ok (.getfield 133, 3) := by decide +kernel
theorem dX8_swaps_61 : decode cX8_swaps 61 = .ok (.iload_n 1, 1) := by decide +kernel
theorem dX8_swaps_62 : decode cX8_swaps 62 = .ok (.iaload, 1) := by decide +kernel
theorem dX8_swaps_63 : decode cX8_swaps 63 = .ok (.ireturn, 1) := by decide +kernel
theorem dX8_gift_0 : decode cX8_gift 0 = .ok (.aload_n 0, 1) := by decide +kernel
theorem dX8_gift_1 : decode cX8_gift 1 = .ok (.iload_n 1, 1) := by decide +kernel
theorem dX8_gift_2 : decode cX8_gift 2 = .ok (.invokevirtual 116, 3) := by decide +kernel
theorem dX8_gift_5 : decode cX8_gift 5 = .ok (.ifCond .ne 5, 3) := by decide +kernel
theorem dX8_gift_8 : decode cX8_gift 8 = .ok (.iconst (-1), 1) := by decide +kernel
theorem dX8_gift_9 : decode cX8_gift 9 = .ok (.ireturn, 1) := by decide +kernel
theorem dX8_gift_10 : decode cX8_gift 10 = .ok (.aload_n 0, 1) := by decide +kernel
theorem dX8_gift_11 : decode cX8_gift 11 = .ok (.getfield 33, 3) := by decide +kernel
theorem dX8_gift_14 : decode cX8_gift 14 = .ok (.getfield 180, 3) := by decide +kernel
theorem dX8_gift_17 : decode cX8_gift 17 = .ok (.bipush 10, 2) := by decide +kernel
theorem dX8_gift_19 : decode cX8_gift 19 = .ok (.if_icmp .lt 6, 3) := by decide +kernel
theorem dX8_gift_22 : decode cX8_gift 22 = .ok (.bipush (-3), 2) := by decide +kernel
theorem dX8_gift_24 : decode cX8_gift 24 = .ok (.ireturn, 1) := by decide +kernel
theorem dX8_gift_25 : decode cX8_gift 25 = .ok (.aload_n 0, 1) := by decide +kernel
theorem dX8_gift_26 : decode cX8_gift 26 = .ok (.getfield 33, 3) := by decide +kernel
theorem dX8_gift_29 : decode cX8_gift 29 = .ok (.getfield 183, 3) := by decide +kernel
theorem dX8_gift_32 : decode cX8_gift 32 = .ok (.aload_n 0, 1) := by decide +kernel
theorem dX8_gift_33 : decode cX8_gift 33 = .ok (.getfield 33, 3) := by decide +kernel
theorem dX8_gift_36 : decode cX8_gift 36 = .ok (.getfield 180, 3) := by decide +kernel
theorem dX8_gift_39 : decode cX8_gift 39 = .ok (.iload_n 1, 1) := by decide +kernel
theorem dX8_gift_40 : decode cX8_gift 40 = .ok (.iastore, 1) := by decide +kernel
theorem dX8_gift_41 : decode cX8_gift 41 = .ok (.aload_n 0, 1) := by decide +kernel
theorem dX8_gift_42 : decode cX8_gift 42 = .ok (.getfield 33, 3) := by decide +kernel
theorem dX8_gift_45 : decode cX8_gift 45 = .ok (.dup, 1) := by decide +kernel
theorem dX8_gift_46 : decode cX8_gift 46 = .ok (.getfield 180, 3) := by decide +kernel
theorem dX8_gift_49 : decode cX8_gift 49 = .ok (.iconst 1, 1) := by decide +kernel
theorem dX8_gift_50 : decode cX8_gift 50 = .ok (.iadd, 1) := by decide +kernel
theorem dX8_gift_51 : decode cX8_gift 51 = .ok (.putfield 180, 3) := by decide +kernel
theorem dX8_gift_54 : decode cX8_gift 54 = .ok (.aload_n 0, 1) := by decide +kernel
theorem dX8_gift_55 : decode cX8_gift 55 = .ok (.getfield 33, 3) := by decide +kernel
theorem dX8_gift_58 : decode cX8_gift 58 = .ok (.getfield 180, 3) := by decide +kernel
theorem dX8_gift_61 : decode cX8_gift 61 = .ok (.ireturn, 1) := by decide +kernel
theorem dX8_noGifts_0 : decode cX8_noGifts 0 = .ok (.aload_n 0, 1) := by decide +kernel
theorem dX8_noGifts_1 : decode cX8_noGifts 1 = .ok (.getfield 33, 3) := by decide +kernel
theorem dX8_noGifts_4 : decode cX8_noGifts 4 = .ok (.getfield 180, 3) := by decide +kernel
theorem dX8_noGifts_7 : decode cX8_noGifts 7 = .ok (.istore_n 1, 1) := by decide +kernel
theorem dX8_noGifts_8 : decode cX8_noGifts 8 = .ok (.aload_n 0, 1) := by decide +kernel
theorem dX8_noGifts_9 : decode cX8_noGifts 9 = .ok (.getfield 33, 3) := by decide +kernel
theorem dX8_noGifts_12 : decode cX8_noGifts 12 = .ok (.iconst 0, 1) := by decide +kernel
theorem dX8_noGifts_13 : decode cX8_noGifts 13 = .ok (.putfield 180, 3) := by decide +kernel
theorem dX8_noGifts_16 : decode cX8_noGifts 16 = .ok (.iload_n 1, 1) := by decide +kernel
theorem dX8_noGifts_17 : decode cX8_noGifts 17 = .ok (.ireturn, 1) := by decide +kernel
theorem dX8_rows_0 : decode cX8_rows 0 = .ok (.iload_n 1, 1) := by decide +kernel
theorem dX8_rows_1 : decode cX8_rows 1 = .ok (.iconst 0, 1) := by decide +kernel
theorem dX8_rows_2 : decode cX8_rows 2 = .ok (.iconst 1, 1) := by decide +kernel
theorem dX8_rows_3 : decode cX8_rows 3 = .ok (.invokestatic 87, 3) := by decide +kernel
theorem dX8_rows_6 : decode cX8_rows 6 = .ok (.ifCond .ne 7, 3) := by decide +kernel
theorem dX8_rows_9 : decode cX8_rows 9 = .ok (.ldc2_w 186, 3) := by decide +kernel
theorem dX8_rows_12 : decode cX8_rows 12 = .ok (.lreturn, 1) := by decide +kernel
theorem dX8_rows_13 : decode cX8_rows 13 = .ok (.aload_n 0, 1) := by decide +kernel
theorem dX8_rows_14 : decode cX8_rows 14 = .ok (.getfield 23, 3) := by decide +kernel
theorem dX8_rows_17 : decode cX8_rows 17 = .ok (.invokevirtual 147, 3) := by decide +kernel
theorem dX8_rows_20 : decode cX8_rows 20 = .ok (.ifCond .ne 7, 3) := by decide +kernel
theorem dX8_rows_23 : decode cX8_rows 23 = .ok (.ldc2_w 188, 3) := by decide +kernel
theorem dX8_rows_26 : decode cX8_rows 26 = .ok (.lreturn, 1) := by decide +kernel
theorem dX8_rows_27 : decode cX8_rows 27 = .ok (.iload_n 1, 1) := by decide +kernel
theorem dX8_rows_28 : decode cX8_rows 28 = .ok (.ifCond .ne 21, 3) := by decide +kernel
theorem dX8_rows_31 : decode cX8_rows 31 = .ok (.aload_n 0, 1) := by decide +kernel
theorem dX8_rows_32 : decode cX8_rows 32 = .ok (.getfield 65, 3) := by decide +kernel
theorem dX8_rows_35 : decode cX8_rows 35 = .ok (.aload_n 0, 1) := by decide +kernel
theorem dX8_rows_36 : decode cX8_rows 36 = .ok (.getfield 23, 3) := by decide +kernel
theorem dX8_rows_39 : decode cX8_rows 39 = .ok (.aload_n 0, 1) := by decide +kernel
theorem dX8_rows_40 : decode cX8_rows 40 = .ok (.getfield 33, 3) := by decide +kernel
theorem dX8_rows_43 : decode cX8_rows 43 = .ok (.invokevirtual 190, 3) := by decide +kernel
theorem dX8_rows_46 : decode cX8_rows 46 = .ok (.goto 18, 3) := by decide +kernel
theorem dX8_rows_49 : decode cX8_rows 49 = .ok (.aload_n 0, 1) := by decide +kernel
theorem dX8_rows_50 : decode cX8_rows 50 = .ok (.getfield 65, 3) := by decide +kernel
theorem dX8_rows_53 : decode cX8_rows 53 = .ok (.aload_n 0, 1) := by decide +kernel
theorem dX8_rows_54 : decode cX8_rows 54 = .ok (.getfield 23, 3) := by decide +kernel
theorem dX8_rows_57 : decode cX8_rows 57 = .ok (.aload_n 0, 1) := by decide +kernel
theorem dX8_rows_58 : decode cX8_rows 58 = .ok (.getfield 33, 3) := by decide +kernel
theorem dX8_rows_61 : decode cX8_rows 61 = .ok (.invokevirtual 194, 3) := by decide +kernel
theorem dX8_rows_64 : decode cX8_rows 64 = .ok (.lreturn, 1) := by decide +kernel
theorem dX8_odds_0 : decode cX8_odds 0 = .ok (.aload_n 0, 1) := by decide +kernel
theorem dX8_odds_1 : decode cX8_odds 1 = .ok (.iload_n 1, 1) := by decide +kernel
theorem dX8_odds_2 : decode cX8_odds 2 = .ok (.invokevirtual 197, 3) := by decide +kernel
theorem dX8_odds_5 : decode cX8_odds 5 = .ok (.ifCond .eq 20, 3) := by decide +kernel
theorem dX8_odds_8 : decode cX8_odds 8 = .ok (.aload_n 0, 1) := by decide +kernel
theorem dX8_odds_9 : decode cX8_odds 9 = .ok (.iload_n 2, 1) := by decide +kernel
theorem dX8_odds_10 : decode cX8_odds 10 = .ok (.invokevirtual 113, 3) := by decide +kernel
theorem dX8_odds_13 : decode cX8_odds 13 = .ok (.ifCond .eq 12, 3) := by decide +kernel
theorem dX8_odds_16 : decode cX8_odds 16 = .ok (.iload_n 3, 1) := by decide +kernel
theorem dX8_odds_17 : decode cX8_odds 17 = .ok (.iconst 0, 1) := by decide +kernel
theorem dX8_odds_18 : decode cX8_odds 18 = .ok (.iconst 1, 1) := by decide +kernel
theorem dX8_odds_19 : decode cX8_odds 19 = .ok (.invokestatic 87, 3) := by decide +kernel
theorem dX8_odds_22 : decode cX8_odds 22 = .ok (.ifCond .ne 7, 3) := by decide +kernel
theorem dX8_odds_25 : decode cX8_odds 25 = .ok (.ldc2_w 186, 3) := by decide +kernel
theorem dX8_odds_28 : decode cX8_odds 28 = .ok (.lreturn, 1) := by decide +kernel
theorem dX8_odds_29 : decode cX8_odds 29 = .ok (.aload_n 0, 1) := by decide +kernel
theorem dX8_odds_30 : decode cX8_odds 30 = .ok (.getfield 23, 3) := by decide +kernel
theorem dX8_odds_33 : decode cX8_odds 33 = .ok (.invokevirtual 147, 3) := by decide +kernel
theorem dX8_odds_36 : decode cX8_odds 36 = .ok (.ifCond .ne 7, 3) := by decide +kernel
theorem dX8_odds_39 : decode cX8_odds 39 = .ok (.ldc2_w 188, 3) := by decide +kernel
theorem dX8_odds_42 : decode cX8_odds 42 = .ok (.lreturn, 1) := by decide +kernel
theorem dX8_odds_43 : decode cX8_odds 43 = .ok (.aload_n 0, 1) := by decide +kernel
theorem dX8_odds_44 : decode cX8_odds 44 = .ok (.getfield 65, 3) := by decide +kernel
theorem dX8_odds_47 : decode cX8_odds 47 = .ok (.aload_n 0, 1) := by decide +kernel
theorem dX8_odds_48 : decode cX8_odds 48 = .ok (.getfield 23, 3) := by decide +kernel
theorem dX8_odds_51 : decode cX8_odds 51 = .ok (.aload_n 0, 1) := by decide +kernel
theorem dX8_odds_52 : decode cX8_odds 52 = .ok (.getfield 33, 3) := by decide +kernel
theorem dX8_odds_55 : decode cX8_odds 55 = .ok (.invokevirtual 194, 3) := by decide +kernel
theorem dX8_odds_58 : decode cX8_odds 58 = .ok (.lstore 4, 2) := by decide +kernel
theorem dX8_odds_60 : decode cX8_odds 60 = .ok (.lload 4, 2) := by decide +kernel
theorem dX8_odds_62 : decode cX8_odds 62 = .ok (.lconst 0, 1) := by decide +kernel
theorem dX8_odds_63 : decode cX8_odds 63 = .ok (.lcmp, 1) := by decide +kernel
theorem dX8_odds_64 : decode cX8_odds 64 = .ok (.ifCond .gt 7, 3) := by decide +kernel
theorem dX8_odds_67 : decode cX8_odds 67 = .ok (.ldc2_w 200, 3) := by decide +kernel
theorem dX8_odds_70 : decode cX8_odds 70 = .ok (.lreturn, 1) := by decide +kernel
theorem dX8_odds_71 : decode cX8_odds 71 = .ok (.aload_n 0, 1) := by decide +kernel
theorem dX8_odds_72 : decode cX8_odds 72 = .ok (.getfield 65, 3) := by decide +kernel
theorem dX8_odds_75 : decode cX8_odds 75 = .ok (.aload_n 0, 1) := by decide +kernel
theorem dX8_odds_76 : decode cX8_odds 76 = .ok (.getfield 23, 3) := by decide +kernel
theorem dX8_odds_79 : decode cX8_odds 79 = .ok (.aload_n 0, 1) := by decide +kernel
theorem dX8_odds_80 : decode cX8_odds 80 = .ok (.getfield 33, 3) := by decide +kernel
theorem dX8_odds_83 : decode cX8_odds 83 = .ok (.iload_n 1, 1) := by decide +kernel
theorem dX8_odds_84 : decode cX8_odds 84 = .ok (.iload_n 2, 1) := by decide +kernel
theorem dX8_odds_85 : decode cX8_odds 85 = .ok (.invokevirtual 202, 3) := by decide +kernel
theorem dX8_odds_88 : decode cX8_odds 88 = .ok (.lstore 6, 2) := by decide +kernel
theorem dX8_odds_90 : decode cX8_odds 90 = .ok (.lload 4, 2) := by decide +kernel
theorem dX8_odds_92 : decode cX8_odds 92 = .ok (.lload 6, 2) := by decide +kernel
theorem dX8_odds_94 : decode cX8_odds 94 = .ok (.invokestatic 206, 3) := by decide +kernel
theorem dX8_odds_97 : decode cX8_odds 97 = .ok (.lstore 8, 2) := by decide +kernel
theorem dX8_odds_99 : decode cX8_odds 99 = .ok (.lload 8, 2) := by decide +kernel
theorem dX8_odds_101 : decode cX8_odds 101 = .ok (.lconst 0, 1) := by decide +kernel
theorem dX8_odds_102 : decode cX8_odds 102 = .ok (.lcmp, 1) := by decide +kernel
theorem dX8_odds_103 : decode cX8_odds 103 = .ok (.ifCond .gt 7, 3) := by decide +kernel
theorem dX8_odds_106 : decode cX8_odds 106 = .ok (.ldc2_w 200, 3) := by decide +kernel
theorem dX8_odds_109 : decode cX8_odds 109 = .ok (.lreturn, 1) := by decide +kernel
theorem dX8_odds_110 : decode cX8_odds 110 = .ok (.iload_n 3, 1) := by decide +kernel
theorem dX8_odds_111 : decode cX8_odds 111 = .ok (.ifCond .ne 8, 3) := by decide +kernel
theorem dX8_odds_114 : decode cX8_odds 114 = .ok (.lload 6, 2) := by decide +kernel
theorem dX8_odds_116 : decode cX8_odds 116 = .ok (.goto 5, 3) := by decide +kernel
theorem dX8_odds_119 : decode cX8_odds 119 = .ok (.lload 4, 2) := by decide +kernel
theorem dX8_odds_121 : decode cX8_odds 121 = .ok (.lload 8, 2) := by decide +kernel
theorem dX8_odds_123 : decode cX8_odds 123 = .ok (.ldiv, 1) := by decide +kernel
theorem dX8_odds_124 : decode cX8_odds 124 = .ok (.lreturn, 1) := by decide +kernel
theorem dX8_likeliest_0 : decode cX8_likeliest 0 = .ok (.aload_n 0, 1) := by decide +kernel
theorem dX8_likeliest_1 : decode cX8_likeliest 1 = .ok (.iload_n 1, 1) := by decide +kernel
theorem dX8_likeliest_2 : decode cX8_likeliest 2 = .ok (.invokevirtual 197, 3) := by decide +kernel
theorem dX8_likeliest_5 : decode cX8_likeliest 5 = .ok (.ifCond .ne 5, 3) := by decide +kernel
theorem dX8_likeliest_8 : decode cX8_likeliest 8 = .ok (.iconst (-1), 1) := by decide +kernel
theorem dX8_likeliest_9 : decode cX8_likeliest 9 = .ok (.ireturn, 1) := by decide +kernel
theorem dX8_likeliest_10 : decode cX8_likeliest 10 = .ok (.aload_n 0, 1) := by decide +kernel
theorem dX8_likeliest_11 : decode cX8_likeliest 11 = .ok (.getfield 23, 3) := by decide +kernel
theorem dX8_likeliest_14 : decode cX8_likeliest 14 = .ok (.invokevirtual 147, 3) := by decide +kernel
theorem dX8_likeliest_17 : decode cX8_likeliest 17 = .ok (.ifCond .ne 6, 3) := by decide +kernel
theorem dX8_likeliest_20 : decode cX8_likeliest 20 = .ok (.bipush (-2), 2) := by decide +kernel
theorem dX8_likeliest_22 : decode cX8_likeliest 22 = .ok (.ireturn, 1) := by decide +kernel
theorem dX8_likeliest_23 : decode cX8_likeliest 23 = .ok (.aload_n 0, 1) := by decide +kernel
theorem dX8_likeliest_24 : decode cX8_likeliest 24 = .ok (.getfield 65, 3) := by decide +kernel
theorem dX8_likeliest_27 : decode cX8_likeliest 27 = .ok (.aload_n 0, 1) := by decide +kernel
theorem dX8_likeliest_28 : decode cX8_likeliest 28 = .ok (.getfield 23, 3) := by decide +kernel
theorem dX8_likeliest_31 : decode cX8_likeliest 31 = .ok (.aload_n 0, 1) := by decide +kernel
theorem dX8_likeliest_32 : decode cX8_likeliest 32 = .ok (.getfield 33, 3) := by decide +kernel
theorem dX8_likeliest_35 : decode cX8_likeliest 35 = .ok (.invokevirtual 210, 3) := by decide +kernel
theorem dX8_likeliest_38 : decode cX8_likeliest 38 = .ok (.ifCond .eq 15, 3) := by decide +kernel
theorem dX8_likeliest_41 : decode cX8_likeliest 41 = .ok (.aload_n 0, 1) := by decide +kernel
theorem dX8_likeliest_42 : decode cX8_likeliest 42 = .ok (.getfield 65, 3) := by decide +kernel
theorem dX8_likeliest_45 : decode cX8_likeliest 45 = .ok (.getfield 214, 3) := by decide +kernel
theorem dX8_likeliest_48 : decode cX8_likeliest 48 = .ok (.iload_n 1, 1) := by decide +kernel
theorem dX8_likeliest_49 : decode cX8_likeliest 49 = .ok (.iaload, 1) := by decide +kernel
theorem dX8_likeliest_50 : decode cX8_likeliest 50 = .ok (.goto 5, 3) := by decide +kernel
theorem dX8_likeliest_53 : decode cX8_likeliest 53 = .ok (.bipush (-4), 2) := by decide +kernel
theorem dX8_likeliest_55 : decode cX8_likeliest 55 = .ok (.ireturn, 1) := by decide +kernel
theorem dX8_post_0 : decode cX8_post 0 = .ok (.iload_n 1, 1) := by decide +kernel
theorem dX8_post_1 : decode cX8_post 1 = .ok (.iconst 0, 1) := by decide +kernel
theorem dX8_post_2 : decode cX8_post 2 = .ok (.aload_n 0, 1) := by decide +kernel
theorem dX8_post_3 : decode cX8_post 3 = .ok (.getfield 23, 3) := by decide +kernel
theorem dX8_post_6 : decode cX8_post 6 = .ok (.getfield 215, 3) := by decide +kernel
theorem dX8_post_9 : decode cX8_post 9 = .ok (.iconst 1, 1) := by decide +kernel
theorem dX8_post_10 : decode cX8_post 10 = .ok (.isub, 1) := by decide +kernel
theorem dX8_post_11 : decode cX8_post 11 = .ok (.invokestatic 87, 3) := by decide +kernel
theorem dX8_post_14 : decode cX8_post 14 = .ok (.ifCond .eq 12, 3) := by decide +kernel
theorem dX8_post_17 : decode cX8_post 17 = .ok (.iload_n 2, 1) := by decide +kernel
theorem dX8_post_18 : decode cX8_post 18 = .ok (.iconst 0, 1) := by decide +kernel
theorem dX8_post_19 : decode cX8_post 19 = .ok (.iconst 3, 1) := by decide +kernel
theorem dX8_post_20 : decode cX8_post 20 = .ok (.invokestatic 87, 3) := by decide +kernel
theorem dX8_post_23 : decode cX8_post 23 = .ok (.ifCond .ne 5, 3) := by decide +kernel
theorem dX8_post_26 : decode cX8_post 26 = .ok (.iconst (-1), 1) := by decide +kernel
theorem dX8_post_27 : decode cX8_post 27 = .ok (.ireturn, 1) := by decide +kernel
theorem dX8_post_28 : decode cX8_post 28 = .ok (.iload_n 2, 1) := by decide +kernel
theorem dX8_post_29 : decode cX8_post 29 = .ok (.tableswitch 57 0 2 #[27, 37, 47], 27) := by decide +kernel
theorem dX8_post_56 : decode cX8_post 56 = .ok (.aload_n 0, 1) := by decide +kernel
theorem dX8_post_57 : decode cX8_post 57 = .ok (.getfield 23, 3) := by decide +kernel
theorem dX8_post_60 : decode cX8_post 60 = .ok (.getfield 218, 3) := by decide +kernel
theorem dX8_post_63 : decode cX8_post 63 = .ok (.iload_n 1, 1) := by decide +kernel
theorem dX8_post_64 : decode cX8_post 64 = .ok (.iaload, 1) := by decide +kernel
theorem dX8_post_65 : decode cX8_post 65 = .ok (.ireturn, 1) := by decide +kernel
theorem dX8_post_66 : decode cX8_post 66 = .ok (.aload_n 0, 1) := by decide +kernel
theorem dX8_post_67 : decode cX8_post 67 = .ok (.getfield 33, 3) := by decide +kernel
theorem dX8_post_70 : decode cX8_post 70 = .ok (.getfield 221, 3) := by decide +kernel
theorem dX8_post_73 : decode cX8_post 73 = .ok (.iload_n 1, 1) := by decide +kernel
theorem dX8_post_74 : decode cX8_post 74 = .ok (.iaload, 1) := by decide +kernel
theorem dX8_post_75 : decode cX8_post 75 = .ok (.ireturn, 1) := by decide +kernel
theorem dX8_post_76 : decode cX8_post 76 = .ok (.aload_n 0, 1) := by decide +kernel
theorem dX8_post_77 : decode cX8_post 77 = .ok (.getfield 33, 3) := by decide +kernel
theorem dX8_post_80 : decode cX8_post 80 = .ok (.getfield 224, 3) := by decide +kernel
theorem dX8_post_83 : decode cX8_post 83 = .ok (.iload_n 1, 1) := by decide +kernel
theorem dX8_post_84 : decode cX8_post 84 = .ok (.iaload, 1) := by decide +kernel
theorem dX8_post_85 : decode cX8_post 85 = .ok (.ireturn, 1) := by decide +kernel
theorem dX8_post_86 : decode cX8_post 86 = .ok (.aload_n 0, 1) := by decide +kernel
theorem dX8_post_87 : decode cX8_post 87 = .ok (.getfield 33, 3) := by decide +kernel
theorem dX8_post_90 : decode cX8_post 90 = .ok (.getfield 227, 3) := by decide +kernel
theorem dX8_post_93 : decode cX8_post 93 = .ok (.iload_n 1, 1) := by decide +kernel
theorem dX8_post_94 : decode cX8_post 94 = .ok (.iaload, 1) := by decide +kernel
theorem dX8_post_95 : decode cX8_post 95 = .ok (.ireturn, 1) := by decide +kernel
theorem dX8_round_0 : decode cX8_round 0 = .ok (.aload_n 0, 1) := by decide +kernel
theorem dX8_round_1 : decode cX8_round 1 = .ok (.getfield 23, 3) := by decide +kernel
theorem dX8_round_4 : decode cX8_round 4 = .ok (.getfield 215, 3) := by decide +kernel
theorem dX8_round_7 : decode cX8_round 7 = .ok (.ifCond .ne 8, 3) := by decide +kernel
theorem dX8_round_10 : decode cX8_round 10 = .ok (.bipush (-2), 2) := by decide +kernel
theorem dX8_round_12 : decode cX8_round 12 = .ok (.goto 18, 3) := by decide +kernel
theorem dX8_round_15 : decode cX8_round 15 = .ok (.aload_n 0, 1) := by decide +kernel
theorem dX8_round_16 : decode cX8_round 16 = .ok (.getfield 72, 3) := by decide +kernel
theorem dX8_round_19 : decode cX8_round 19 = .ok (.aload_n 0, 1) := by decide +kernel
theorem dX8_round_20 : decode cX8_round 20 = .ok (.getfield 23, 3) := by decide +kernel
theorem dX8_round_23 : decode cX8_round 23 = .ok (.aload_n 0, 1) := by decide +kernel
theorem dX8_round_24 : decode cX8_round 24 = .ok (.getfield 33, 3) := by decide +kernel
theorem dX8_round_27 : decode cX8_round 27 = .ok (.invokevirtual 230, 3) := by decide +kernel
theorem dX8_round_30 : decode cX8_round 30 = .ok (.ireturn, 1) := by decide +kernel
theorem dX8_ring_0 : decode cX8_ring 0 = .ok (.iload_n 1, 1) := by decide +kernel
theorem dX8_ring_1 : decode cX8_ring 1 = .ok (.iconst 0, 1) := by decide +kernel
theorem dX8_ring_2 : decode cX8_ring 2 = .ok (.iconst 1, 1) := by decide +kernel
theorem dX8_ring_3 : decode cX8_ring 3 = .ok (.invokestatic 87, 3) := by decide +kernel
theorem dX8_ring_6 : decode cX8_ring 6 = .ok (.ifCond .ne 5, 3) := by decide +kernel
theorem dX8_ring_9 : decode cX8_ring 9 = .ok (.iconst (-1), 1) := by decide +kernel
theorem dX8_ring_10 : decode cX8_ring 10 = .ok (.ireturn, 1) := by decide +kernel
theorem dX8_ring_11 : decode cX8_ring 11 = .ok (.aload_n 0, 1) := by decide +kernel
theorem dX8_ring_12 : decode cX8_ring 12 = .ok (.getfield 23, 3) := by decide +kernel
theorem dX8_ring_15 : decode cX8_ring 15 = .ok (.getfield 215, 3) := by decide +kernel
theorem dX8_ring_18 : decode cX8_ring 18 = .ok (.ifCond .ne 6, 3) := by decide +kernel
theorem dX8_ring_21 : decode cX8_ring 21 = .ok (.bipush (-2), 2) := by decide +kernel
theorem dX8_ring_23 : decode cX8_ring 23 = .ok (.ireturn, 1) := by decide +kernel
theorem dX8_ring_24 : decode cX8_ring 24 = .ok (.aload_n 0, 1) := by decide +kernel
theorem dX8_ring_25 : decode cX8_ring 25 = .ok (.getfield 72, 3) := by decide +kernel
theorem dX8_ring_28 : decode cX8_ring 28 = .ok (.aload_n 0, 1) := by decide +kernel
theorem dX8_ring_29 : decode cX8_ring 29 = .ok (.getfield 23, 3) := by decide +kernel
theorem dX8_ring_32 : decode cX8_ring 32 = .ok (.aload_n 0, 1) := by decide +kernel
theorem dX8_ring_33 : decode cX8_ring 33 = .ok (.getfield 33, 3) := by decide +kernel
theorem dX8_ring_36 : decode cX8_ring 36 = .ok (.invokevirtual 234, 3) := by decide +kernel
theorem dX8_ring_39 : decode cX8_ring 39 = .ok (.ifCond .ne 6, 3) := by decide +kernel
theorem dX8_ring_42 : decode cX8_ring 42 = .ok (.bipush (-4), 2) := by decide +kernel
theorem dX8_ring_44 : decode cX8_ring 44 = .ok (.ireturn, 1) := by decide +kernel
theorem dX8_ring_45 : decode cX8_ring 45 = .ok (.iload_n 1, 1) := by decide +kernel
theorem dX8_ring_46 : decode cX8_ring 46 = .ok (.ifCond .ne 13, 3) := by decide +kernel
theorem dX8_ring_49 : decode cX8_ring 49 = .ok (.aload_n 0, 1) := by decide +kernel
theorem dX8_ring_50 : decode cX8_ring 50 = .ok (.getfield 72, 3) := by decide +kernel
theorem dX8_ring_53 : decode cX8_ring 53 = .ok (.getfield 237, 3) := by decide +kernel
theorem dX8_ring_56 : decode cX8_ring 56 = .ok (.goto 10, 3) := by decide +kernel
theorem dX8_ring_59 : decode cX8_ring 59 = .ok (.aload_n 0, 1) := by decide +kernel
theorem dX8_ring_60 : decode cX8_ring 60 = .ok (.getfield 72, 3) := by decide +kernel
theorem dX8_ring_63 : decode cX8_ring 63 = .ok (.getfield 240, 3) := by decide +kernel
theorem dX8_ring_66 : decode cX8_ring 66 = .ok (.ireturn, 1) := by decide +kernel
theorem dX8_before_0 : decode cX8_before 0 = .ok (.aload_n 0, 1) := by decide +kernel
theorem dX8_before_1 : decode cX8_before 1 = .ok (.getfield 23, 3) := by decide +kernel
theorem dX8_before_4 : decode cX8_before 4 = .ok (.getfield 215, 3) := by decide +kernel
theorem dX8_before_7 : decode cX8_before 7 = .ok (.ifCond .ne 9, 3) := by decide +kernel
theorem dX8_before_10 : decode cX8_before 10 = .ok (.ldc2_w 188, 3) := by decide +kernel
theorem dX8_before_13 : decode cX8_before 13 = .ok (.goto 18, 3) := by decide +kernel
theorem dX8_before_16 : decode cX8_before 16 = .ok (.aload_n 0, 1) := by decide +kernel
theorem dX8_before_17 : decode cX8_before 17 = .ok (.getfield 72, 3) := by decide +kernel
theorem dX8_before_20 : decode cX8_before 20 = .ok (.aload_n 0, 1) := by decide +kernel
theorem dX8_before_21 : decode cX8_before 21 = .ok (.getfield 23, 3) := by decide +kernel
theorem dX8_before_24 : decode cX8_before 24 = .ok (.aload_n 0, 1) := by decide +kernel
theorem dX8_before_25 : decode cX8_before 25 = .ok (.getfield 33, 3) := by decide +kernel
theorem dX8_before_28 : decode cX8_before 28 = .ok (.invokevirtual 243, 3) := by decide +kernel
theorem dX8_before_31 : decode cX8_before 31 = .ok (.lreturn, 1) := by decide +kernel
theorem dX8_keep_0 : decode cX8_keep 0 = .ok (.aload_n 0, 1) := by decide +kernel
theorem dX8_keep_1 : decode cX8_keep 1 = .ok (.getfield 103, 3) := by decide +kernel
theorem dX8_keep_4 : decode cX8_keep 4 = .ok (.iconst 2, 1) := by decide +kernel
theorem dX8_keep_5 : decode cX8_keep 5 = .ok (.if_icmp .lt 6, 3) := by decide +kernel
theorem dX8_keep_8 : decode cX8_keep 8 = .ok (.bipush (-3), 2) := by decide +kernel
theorem dX8_keep_10 : decode cX8_keep 10 = .ok (.ireturn, 1) := by decide +kernel
theorem dX8_keep_11 : decode cX8_keep 11 = .ok (.aload_n 0, 1) := by decide +kernel
theorem dX8_keep_12 : decode cX8_keep 12 = .ok (.getfield 37, 3) := by decide +kernel
theorem dX8_keep_15 : decode cX8_keep 15 = .ok (.aload_n 0, 1) := by decide +kernel
theorem dX8_keep_16 : decode cX8_keep 16 = .ok (.getfield 103, 3) := by decide +kernel
theorem dX8_keep_19 : decode cX8_keep 19 = .ok (.aaload, 1) := by decide +kernel
theorem dX8_keep_20 : decode cX8_keep 20 = .ok (.aload_n 0, 1) := by decide +kernel
theorem dX8_keep_21 : decode cX8_keep 21 = .ok (.getfield 33, 3) := by decide +kernel
theorem dX8_keep_24 : decode cX8_keep 24 = .ok (.invokevirtual 246, 3) := by decide +kernel
theorem dX8_keep_27 : decode cX8_keep 27 = .ok (.aload_n 0, 1) := by decide +kernel
theorem dX8_keep_28 : decode cX8_keep 28 = .ok (.dup, 1) := by decide +kernel
theorem dX8_keep_29 : decode cX8_keep 29 = .ok (.getfield 103, 3) := by decide +kernel
theorem dX8_keep_32 : decode cX8_keep 32 = .ok (.iconst 1, 1) := by decide +kernel
theorem dX8_keep_33 : decode cX8_keep 33 = .ok (.iadd, 1) := by decide +kernel
theorem dX8_keep_34 : decode cX8_keep 34 = .ok (.putfield 103, 3) := by decide +kernel
theorem dX8_keep_37 : decode cX8_keep 37 = .ok (.aload_n 0, 1) := by decide +kernel
theorem dX8_keep_38 : decode cX8_keep 38 = .ok (.getfield 103, 3) := by decide +kernel
theorem dX8_keep_41 : decode cX8_keep 41 = .ok (.ireturn, 1) := by decide +kernel
theorem dX8_back_0 : decode cX8_back 0 = .ok (.aload_n 0, 1) := by decide +kernel
theorem dX8_back_1 : decode cX8_back 1 = .ok (.getfield 103, 3) := by decide +kernel
theorem dX8_back_4 : decode cX8_back 4 = .ok (.ifCond .gt 6, 3) := by decide +kernel
theorem dX8_back_7 : decode cX8_back 7 = .ok (.bipush (-2), 2) := by decide +kernel
theorem dX8_back_9 : decode cX8_back 9 = .ok (.ireturn, 1) := by decide +kernel
theorem dX8_back_10 : decode cX8_back 10 = .ok (.aload_n 0, 1) := by decide +kernel
theorem dX8_back_11 : decode cX8_back 11 = .ok (.dup, 1) := by decide +kernel
theorem dX8_back_12 : decode cX8_back 12 = .ok (.getfield 103, 3) := by decide +kernel
theorem dX8_back_15 : decode cX8_back 15 = .ok (.iconst 1, 1) := by decide +kernel
theorem dX8_back_16 : decode cX8_back 16 = .ok (.isub, 1) := by decide +kernel
theorem dX8_back_17 : decode cX8_back 17 = .ok (.putfield 103, 3) := by decide +kernel
theorem dX8_back_20 : decode cX8_back 20 = .ok (.aload_n 0, 1) := by decide +kernel
theorem dX8_back_21 : decode cX8_back 21 = .ok (.getfield 33, 3) := by decide +kernel
theorem dX8_back_24 : decode cX8_back 24 = .ok (.aload_n 0, 1) := by decide +kernel
theorem dX8_back_25 : decode cX8_back 25 = .ok (.getfield 37, 3) := by decide +kernel
theorem dX8_back_28 : decode cX8_back 28 = .ok (.aload_n 0, 1) := by decide +kernel
theorem dX8_back_29 : decode cX8_back 29 = .ok (.getfield 103, 3) := by decide +kernel
theorem dX8_back_32 : decode cX8_back 32 = .ok (.aaload, 1) := by decide +kernel
theorem dX8_back_33 : decode cX8_back 33 = .ok (.invokevirtual 246, 3) := by decide +kernel
theorem dX8_back_36 : decode cX8_back 36 = .ok (.aload_n 0, 1) := by decide +kernel
theorem dX8_back_37 : decode cX8_back 37 = .ok (.getfield 103, 3) := by decide +kernel
theorem dX8_back_40 : decode cX8_back 40 = .ok (.ireturn, 1) := by decide +kernel
theorem dX8_count_0 : decode cX8_count 0 = .ok (.iload_n 1, 1) := by decide +kernel
theorem dX8_count_1 : decode cX8_count 1 = .ok (.tableswitch 105 0 7 #[47, 55, 63, 71, 79, 87, 92, 97], 47) := by decide +kernel
theorem dX8_count_48 : decode cX8_count 48 = .ok (.aload_n 0, 1) := by decide +kernel
theorem dX8_count_49 : decode cX8_count 49 = .ok (.getfield 23, 3) := by decide +kernel
theorem dX8_count_52 : decode cX8_count 52 = .ok (.getfield 110, 3) := by decide +kernel
theorem dX8_count_55 : decode cX8_count 55 = .ok (.ireturn, 1) := by decide +kernel
theorem dX8_count_56 : decode cX8_count 56 = .ok (.aload_n 0, 1) := by decide +kernel
theorem dX8_count_57 : decode cX8_count 57 = .ok (.getfield 23, 3) := by decide +kernel
theorem dX8_count_60 : decode cX8_count 60 = .ok (.getfield 250, 3) := by decide +kernel
theorem dX8_count_63 : decode cX8_count 63 = .ok (.ireturn, 1) := by decide +kernel
theorem dX8_count_64 : decode cX8_count 64 = .ok (.aload_n 0, 1) := by decide +kernel
theorem dX8_count_65 : decode cX8_count 65 = .ok (.getfield 23, 3) := by decide +kernel
theorem dX8_count_68 : decode cX8_count 68 = .ok (.getfield 253, 3) := by decide +kernel
theorem dX8_count_71 : decode cX8_count 71 = .ok (.ireturn, 1) := by decide +kernel
theorem dX8_count_72 : decode cX8_count 72 = .ok (.aload_n 0, 1) := by decide +kernel
theorem dX8_count_73 : decode cX8_count 73 = .ok (.getfield 23, 3) := by decide +kernel
theorem dX8_count_76 : decode cX8_count 76 = .ok (.getfield 215, 3) := by decide +kernel
theorem dX8_count_79 : decode cX8_count 79 = .ok (.ireturn, 1) := by decide +kernel
theorem dX8_count_80 : decode cX8_count 80 = .ok (.aload_n 0, 1) := by decide +kernel
theorem dX8_count_81 : decode cX8_count 81 = .ok (.getfield 33, 3) := by decide +kernel
theorem dX8_count_84 : decode cX8_count 84 = .ok (.getfield 180, 3) := by decide +kernel
theorem dX8_count_87 : decode cX8_count 87 = .ok (.ireturn, 1) := by decide +kernel
theorem dX8_count_88 : decode cX8_count 88 = .ok (.aload_n 0, 1) := by decide +kernel
theorem dX8_count_89 : decode cX8_count 89 = .ok (.getfield 91, 3) := by decide +kernel
theorem dX8_count_92 : decode cX8_count 92 = .ok (.ireturn, 1) := by decide +kernel
theorem dX8_count_93 : decode cX8_count 93 = .ok (.aload_n 0, 1) := by decide +kernel
theorem dX8_count_94 : decode cX8_count 94 = .ok (.getfield 103, 3) := by decide +kernel
theorem dX8_count_97 : decode cX8_count 97 = .ok (.ireturn, 1) := by decide +kernel
theorem dX8_count_98 : decode cX8_count 98 = .ok (.aload_n 0, 1) := by decide +kernel
theorem dX8_count_99 : decode cX8_count 99 = .ok (.getfield 23, 3) := by decide +kernel
theorem dX8_count_102 : decode cX8_count 102 = .ok (.getfield 126, 3) := by decide +kernel
theorem dX8_count_105 : decode cX8_count 105 = .ok (.ireturn, 1) := by decide +kernel
theorem dX8_count_106 : decode cX8_count 106 = .ok (.iconst (-1), 1) := by decide +kernel
theorem dX8_count_107 : decode cX8_count 107 = .ok (.ireturn, 1) := by decide +kernel
theorem dX8_within_0 : decode cX8_within 0 = .ok (.iload_n 0, 1) := by decide +kernel
theorem dX8_within_1 : decode cX8_within 1 = .ok (.iload_n 1, 1) := by decide +kernel
theorem dX8_within_2 : decode cX8_within 2 = .ok (.if_icmp .lt 12, 3) := by decide +kernel
theorem dX8_within_5 : decode cX8_within 5 = .ok (.iload_n 0, 1) := by decide +kernel
theorem dX8_within_6 : decode cX8_within 6 = .ok (.iload_n 2, 1) := by decide +kernel
theorem dX8_within_7 : decode cX8_within 7 = .ok (.if_icmp .gt 7, 3) := by decide +kernel
theorem dX8_within_10 : decode cX8_within 10 = .ok (.iconst 1, 1) := by decide +kernel
theorem dX8_within_11 : decode cX8_within 11 = .ok (.goto 4, 3) := by decide +kernel
theorem dX8_within_14 : decode cX8_within 14 = .ok (.iconst 0, 1) := by decide +kernel
theorem dX8_within_15 : decode cX8_within 15 = .ok (.ireturn, 1) := by decide +kernel
theorem dX8_isThing_0 : decode cX8_isThing 0 = .ok (.iload_n 1, 1) := by decide +kernel
theorem dX8_isThing_1 : decode cX8_isThing 1 = .ok (.iconst 0, 1) := by decide +kernel
theorem dX8_isThing_2 : decode cX8_isThing 2 = .ok (.aload_n 0, 1) := by decide +kernel
theorem dX8_isThing_3 : decode cX8_isThing 3 = .ok (.getfield 23, 3) := by decide +kernel
theorem dX8_isThing_6 : decode cX8_isThing 6 = .ok (.getfield 250, 3) := by decide +kernel
theorem dX8_isThing_9 : decode cX8_isThing 9 = .ok (.iconst 1, 1) := by decide +kernel
theorem dX8_isThing_10 : decode cX8_isThing 10 = .ok (.isub, 1) := by decide +kernel
theorem dX8_isThing_11 : decode cX8_isThing 11 = .ok (.invokestatic 87, 3) := by decide +kernel
theorem dX8_isThing_14 : decode cX8_isThing 14 = .ok (.ireturn, 1) := by decide +kernel
theorem dX8_isSign_0 : decode cX8_isSign 0 = .ok (.aload_n 0, 1) := by decide +kernel
theorem dX8_isSign_1 : decode cX8_isSign 1 = .ok (.iload_n 1, 1) := by decide +kernel
theorem dX8_isSign_2 : decode cX8_isSign 2 = .ok (.invokevirtual 113, 3) := by decide +kernel
theorem dX8_isSign_5 : decode cX8_isSign 5 = .ok (.ifCond .ne 9, 3) := by decide +kernel
theorem dX8_isSign_8 : decode cX8_isSign 8 = .ok (.iload_n 1, 1) := by decide +kernel
theorem dX8_isSign_9 : decode cX8_isSign 9 = .ok (.bipush 6, 2) := by decide +kernel
theorem dX8_isSign_11 : decode cX8_isSign 11 = .ok (.if_icmp .ne 7, 3) := by decide +kernel
theorem dX8_isSign_14 : decode cX8_isSign 14 = .ok (.iconst 1, 1) := by decide +kernel
theorem dX8_isSign_15 : decode cX8_isSign 15 = .ok (.goto 4, 3) := by decide +kernel
theorem dX8_isSign_18 : decode cX8_isSign 18 = .ok (.iconst 0, 1) := by decide +kernel
theorem dX8_isSign_19 : decode cX8_isSign 19 = .ok (.ireturn, 1) := by decide +kernel
theorem dX8_isQueued_0 : decode cX8_isQueued 0 = .ok (.iload_n 1, 1) := by decide +kernel
theorem dX8_isQueued_1 : decode cX8_isQueued 1 = .ok (.iconst 0, 1) := by decide +kernel
theorem dX8_isQueued_2 : decode cX8_isQueued 2 = .ok (.aload_n 0, 1) := by decide +kernel
theorem dX8_isQueued_3 : decode cX8_isQueued 3 = .ok (.getfield 23, 3) := by decide +kernel
theorem dX8_isQueued_6 : decode cX8_isQueued 6 = .ok (.getfield 110, 3) := by decide +kernel
theorem dX8_isQueued_9 : decode cX8_isQueued 9 = .ok (.iconst 1, 1) := by decide +kernel
theorem dX8_isQueued_10 : decode cX8_isQueued 10 = .ok (.isub, 1) := by decide +kernel
theorem dX8_isQueued_11 : decode cX8_isQueued 11 = .ok (.invokestatic 87, 3) := by decide +kernel
theorem dX8_isQueued_14 : decode cX8_isQueued 14 = .ok (.ireturn, 1) := by decide +kernel
theorem dX8_isGift_0 : decode cX8_isGift 0 = .ok (.iload_n 1, 1) := by decide +kernel
theorem dX8_isGift_1 : decode cX8_isGift 1 = .ok (.iconst 0, 1) := by decide +kernel
theorem dX8_isGift_2 : decode cX8_isGift 2 = .ok (.aload_n 0, 1) := by decide +kernel
theorem dX8_isGift_3 : decode cX8_isGift 3 = .ok (.getfield 33, 3) := by decide +kernel
theorem dX8_isGift_6 : decode cX8_isGift 6 = .ok (.getfield 180, 3) := by decide +kernel
theorem dX8_isGift_9 : decode cX8_isGift 9 = .ok (.iconst 1, 1) := by decide +kernel
theorem dX8_isGift_10 : decode cX8_isGift 10 = .ok (.isub, 1) := by decide +kernel
theorem dX8_isGift_11 : decode cX8_isGift 11 = .ok (.invokestatic 87, 3) := by decide +kernel
theorem dX8_isGift_14 : decode cX8_isGift 14 = .ok (.ireturn, 1) := by decide +kernel
theorem dX8_isSet_0 : decode cX8_isSet 0 = .ok (.iload_n 1, 1) := by decide +kernel
theorem dX8_isSet_1 : decode cX8_isSet 1 = .ok (.iconst 0, 1) := by decide +kernel
theorem dX8_isSet_2 : decode cX8_isSet 2 = .ok (.iconst 1, 1) := by decide +kernel
theorem dX8_isSet_3 : decode cX8_isSet 3 = .ok (.aload_n 0, 1) := by decide +kernel
theorem dX8_isSet_4 : decode cX8_isSet 4 = .ok (.getfield 23, 3) := by decide +kernel
theorem dX8_isSet_7 : decode cX8_isSet 7 = .ok (.getfield 110, 3) := by decide +kernel
theorem dX8_isSet_10 : decode cX8_isSet 10 = .ok (.ishl, 1) := by decide +kernel
theorem dX8_isSet_11 : decode cX8_isSet 11 = .ok (.iconst 1, 1) := by decide +kernel
theorem dX8_isSet_12 : decode cX8_isSet 12 = .ok (.isub, 1) := by decide +kernel
theorem dX8_isSet_13 : decode cX8_isSet 13 = .ok (.invokestatic 87, 3) := by decide +kernel
theorem dX8_isSet_16 : decode cX8_isSet 16 = .ok (.ireturn, 1) := by decide +kernel
theorem dX8_majority_0 : decode cX8_majority 0 = .ok (.iload_n 2, 1) := by decide +kernel
theorem dX8_majority_1 : decode cX8_majority 1 = .ok (.iload_n 0, 1) := by decide +kernel
theorem dX8_majority_2 : decode cX8_majority 2 = .ok (.if_icmp .eq 8, 3) := by decide +kernel
theorem dX8_majority_5 : decode cX8_majority 5 = .ok (.iload_n 2, 1) := by decide +kernel
theorem dX8_majority_6 : decode cX8_majority 6 = .ok (.iload_n 1, 1) := by decide +kernel
theorem dX8_majority_7 : decode cX8_majority 7 = .ok (.if_icmp .ne 5, 3) := by decide +kernel
theorem dX8_majority_10 : decode cX8_majority 10 = .ok (.iload_n 2, 1) := by decide +kernel
theorem dX8_majority_11 : decode cX8_majority 11 = .ok (.ireturn, 1) := by decide +kernel
theorem dX8_majority_12 : decode cX8_majority 12 = .ok (.iload_n 0, 1) := by decide +kernel
theorem dX8_majority_13 : decode cX8_majority 13 = .ok (.iload_n 1, 1) := by decide +kernel
theorem dX8_majority_14 : decode cX8_majority 14 = .ok (.if_icmp .ne 7, 3) := by decide +kernel
theorem dX8_majority_17 : decode cX8_majority 17 = .ok (.iload_n 0, 1) := by decide +kernel
theorem dX8_majority_18 : decode cX8_majority 18 = .ok (.goto 5, 3) := by decide +kernel
theorem dX8_majority_21 : decode cX8_majority 21 = .ok (.bipush 6, 2) := by decide +kernel
theorem dX8_majority_23 : decode cX8_majority 23 = .ok (.ireturn, 1) := by decide +kernel
theorem dX8_givesBehind_0 : decode cX8_givesBehind 0 = .ok (.iload_n 0, 1) := by decide +kernel
theorem dX8_givesBehind_1 : decode cX8_givesBehind 1 = .ok (.iconst 3, 1) := by decide +kernel
theorem dX8_givesBehind_2 : decode cX8_givesBehind 2 = .ok (.if_icmp .ne 7, 3) := by decide +kernel
theorem dX8_givesBehind_5 : decode cX8_givesBehind 5 = .ok (.iload_n 2, 1) := by decide +kernel
theorem dX8_givesBehind_6 : decode cX8_givesBehind 6 = .ok (.goto 9, 3) := by decide +kernel
theorem dX8_givesBehind_9 : decode cX8_givesBehind 9 = .ok (.iload_n 1, 1) := by decide +kernel
theorem dX8_givesBehind_10 : decode cX8_givesBehind 10 = .ok (.iload_n 2, 1) := by decide +kernel
theorem dX8_givesBehind_11 : decode cX8_givesBehind 11 = .ok (.iload_n 3, 1) := by decide +kernel
theorem dX8_givesBehind_12 : decode cX8_givesBehind 12 = .ok (.invokestatic 256, 3) := by decide +kernel
theorem dX8_givesBehind_15 : decode cX8_givesBehind 15 = .ok (.ireturn, 1) := by decide +kernel
theorem dX8_givesFor_0 : decode cX8_givesFor 0 = .ok (.iload_n 2, 1) := by decide +kernel
theorem dX8_givesFor_1 : decode cX8_givesFor 1 = .ok (.aload_n 1, 1) := by decide +kernel
theorem dX8_givesFor_2 : decode cX8_givesFor 2 = .ok (.arraylength, 1) := by decide +kernel
theorem dX8_givesFor_3 : decode cX8_givesFor 3 = .ok (.if_icmp .le 6, 3) := by decide +kernel
theorem dX8_givesFor_6 : decode cX8_givesFor 6 = .ok (.bipush 6, 2) := by decide +kernel
theorem dX8_givesFor_8 : decode cX8_givesFor 8 = .ok (.ireturn, 1) := by decide +kernel
theorem dX8_givesFor_9 : decode cX8_givesFor 9 = .ok (.iload_n 0, 1) := by decide +kernel
theorem dX8_givesFor_10 : decode cX8_givesFor 10 = .ok (.iconst 3, 1) := by decide +kernel
theorem dX8_givesFor_11 : decode cX8_givesFor 11 = .ok (.if_icmp .ne 19, 3) := by decide +kernel
theorem dX8_givesFor_14 : decode cX8_givesFor 14 = .ok (.iload_n 2, 1) := by decide +kernel
theorem dX8_givesFor_15 : decode cX8_givesFor 15 = .ok (.iconst 2, 1) := by decide +kernel
theorem dX8_givesFor_16 : decode cX8_givesFor 16 = .ok (.if_icmp .lt 11, 3) := by decide +kernel
theorem dX8_givesFor_19 : decode cX8_givesFor 19 = .ok (.aload_n 1, 1) := by decide +kernel
theorem dX8_givesFor_20 : decode cX8_givesFor 20 = .ok (.iload_n 2, 1) := by decide +kernel
theorem dX8_givesFor_21 : decode cX8_givesFor 21 = .ok (.iconst 2, 1) := by decide +kernel
theorem dX8_givesFor_22 : decode cX8_givesFor 22 = .ok (.isub, 1) := by decide +kernel
theorem dX8_givesFor_23 : decode cX8_givesFor 23 = .ok (.iaload, 1) := by decide +kernel
theorem dX8_givesFor_24 : decode cX8_givesFor 24 = .ok (.goto 5, 3) := by decide +kernel
theorem dX8_givesFor_27 : decode cX8_givesFor 27 = .ok (.bipush 6, 2) := by decide +kernel
theorem dX8_givesFor_29 : decode cX8_givesFor 29 = .ok (.ireturn, 1) := by decide +kernel
theorem dX8_givesFor_30 : decode cX8_givesFor 30 = .ok (.iconst 0, 1) := by decide +kernel
theorem dX8_givesFor_31 : decode cX8_givesFor 31 = .ok (.iload_n 2, 1) := by decide +kernel
theorem dX8_givesFor_32 : decode cX8_givesFor 32 = .ok (.iconst 3, 1) := by decide +kernel
theorem dX8_givesFor_33 : decode cX8_givesFor 33 = .ok (.isub, 1) := by decide +kernel
theorem dX8_givesFor_34 : decode cX8_givesFor 34 = .ok (.iconst 2, 1) := by decide +kernel
theorem dX8_givesFor_35 : decode cX8_givesFor 35 = .ok (.iload_n 0, 1) := by decide +kernel
theorem dX8_givesFor_36 : decode cX8_givesFor 36 = .ok (.imul, 1) := by decide +kernel
theorem dX8_givesFor_37 : decode cX8_givesFor 37 = .ok (.isub, 1) := by decide +kernel
theorem dX8_givesFor_38 : decode cX8_givesFor 38 = .ok (.invokestatic 260, 3) := by decide +kernel
theorem dX8_givesFor_41 : decode cX8_givesFor 41 = .ok (.istore_n 3, 1) := by decide +kernel
theorem dX8_givesFor_42 : decode cX8_givesFor 42 = .ok (.iconst 0, 1) := by decide +kernel
theorem dX8_givesFor_43 : decode cX8_givesFor 43 = .ok (.istore 4, 2) := by decide +kernel
theorem dX8_givesFor_45 : decode cX8_givesFor 45 = .ok (.iload 4, 2) := by decide +kernel
theorem dX8_givesFor_47 : decode cX8_givesFor 47 = .ok (.bipush 6, 2) := by decide +kernel
theorem dX8_givesFor_49 : decode cX8_givesFor 49 = .ok (.if_icmp .ge 50, 3) := by decide +kernel
theorem dX8_givesFor_52 : decode cX8_givesFor 52 = .ok (.iconst 0, 1) := by decide +kernel
theorem dX8_givesFor_53 : decode cX8_givesFor 53 = .ok (.istore 5, 2) := by decide +kernel
theorem dX8_givesFor_55 : decode cX8_givesFor 55 = .ok (.iload_n 3, 1) := by decide +kernel
theorem dX8_givesFor_56 : decode cX8_givesFor 56 = .ok (.istore 6, 2) := by decide +kernel
theorem dX8_givesFor_58 : decode cX8_givesFor 58 = .ok (.iload 6, 2) := by decide +kernel
theorem dX8_givesFor_60 : decode cX8_givesFor 60 = .ok (.iload_n 2, 1) := by decide +kernel
theorem dX8_givesFor_61 : decode cX8_givesFor 61 = .ok (.if_icmp .ge 21, 3) := by decide +kernel
theorem dX8_givesFor_64 : decode cX8_givesFor 64 = .ok (.aload_n 1, 1) := by decide +kernel
theorem dX8_givesFor_65 : decode cX8_givesFor 65 = .ok (.iload 6, 2) := by decide +kernel
theorem dX8_givesFor_67 : decode cX8_givesFor 67 = .ok (.iaload, 1) := by decide +kernel
theorem dX8_givesFor_68 : decode cX8_givesFor 68 = .ok (.iload 4, 2) := by decide +kernel
theorem dX8_givesFor_70 : decode cX8_givesFor 70 = .ok (.if_icmp .ne 6, 3) := by decide +kernel
theorem dX8_givesFor_73 : decode cX8_givesFor 73 = .ok (.iinc 5 1, 3) := by decide +kernel
theorem dX8_givesFor_76 : decode cX8_givesFor 76 = .ok (.iinc 6 1, 3) := by decide +kernel
theorem dX8_givesFor_79 : decode cX8_givesFor 79 = .ok (.goto (-21), 3) := by decide +kernel
theorem dX8_givesFor_82 : decode cX8_givesFor 82 = .ok (.iload 5, 2) := by decide +kernel
theorem dX8_givesFor_84 : decode cX8_givesFor 84 = .ok (.iconst 2, 1) := by decide +kernel
theorem dX8_givesFor_85 : decode cX8_givesFor 85 = .ok (.iload_n 0, 1) := by decide +kernel
theorem dX8_givesFor_86 : decode cX8_givesFor 86 = .ok (.iadd, 1) := by decide +kernel
theorem dX8_givesFor_87 : decode cX8_givesFor 87 = .ok (.if_icmp .lt 6, 3) := by decide +kernel
theorem dX8_givesFor_90 : decode cX8_givesFor 90 = .ok (.iload 4, 2) := by decide +kernel
theorem dX8_givesFor_92 : decode cX8_givesFor 92 = .ok (.ireturn, 1) := by decide +kernel
theorem dX8_givesFor_93 : decode cX8_givesFor 93 = .ok (.iinc 4 1, 3) := by decide +kernel
theorem dX8_givesFor_96 : decode cX8_givesFor 96 = .ok (.goto (-51), 3) := by decide +kernel
theorem dX8_givesFor_99 : decode cX8_givesFor 99 = .ok (.bipush 6, 2) := by decide +kernel
theorem dX8_givesFor_101 : decode cX8_givesFor 101 = .ok (.ireturn, 1) := by decide +kernel
theorem dX8_commonDivisor_0 : decode cX8_commonDivisor 0 = .ok (.iconst 0, 1) := by decide +kernel
theorem dX8_commonDivisor_1 : decode cX8_commonDivisor 1 = .ok (.istore 4, 2) := by decide +kernel
theorem dX8_commonDivisor_3 : decode cX8_commonDivisor 3 = .ok (.iload 4, 2) := by decide +kernel
theorem dX8_commonDivisor_5 : decode cX8_commonDivisor 5 = .ok (.sipush 1000, 3) := by decide +kernel
theorem dX8_commonDivisor_8 : decode cX8_commonDivisor 8 = .ok (.if_icmp .ge 25, 3) := by decide +kernel
theorem dX8_commonDivisor_11 : decode cX8_commonDivisor 11 = .ok (.lload_n 2, 1) := by decide +kernel
theorem dX8_commonDivisor_12 : decode cX8_commonDivisor 12 = .ok (.lconst 0, 1) := by decide +kernel
theorem dX8_commonDivisor_13 : decode cX8_commonDivisor 13 = .ok (.lcmp, 1) := by decide +kernel
theorem dX8_commonDivisor_14 : decode cX8_commonDivisor 14 = .ok (.ifCond .eq 19, 3) := by decide +kernel
theorem dX8_commonDivisor_17 : decode cX8_commonDivisor 17 = .ok (.lload_n 0, 1) := by decide +kernel
theorem dX8_commonDivisor_18 : decode cX8_commonDivisor 18 = .ok (.lload_n 2, 1) := by decide +kernel
theorem dX8_commonDivisor_19 : decode cX8_commonDivisor 19 = .ok (.lrem, 1) := by decide +kernel
theorem dX8_commonDivisor_20 : decode cX8_commonDivisor 20 = .ok (.lstore 5, 2) := by decide +kernel
theorem dX8_commonDivisor_22 : decode cX8_commonDivisor 22 = .ok (.lload_n 2, 1) := by decide +kernel
theorem dX8_commonDivisor_23 : decode cX8_commonDivisor 23 = .ok (.lstore_n 0, 1) := by decide +kernel
theorem dX8_commonDivisor_24 : decode cX8_commonDivisor 24 = .ok (.lload 5, 2) := by decide +kernel
theorem dX8_commonDivisor_26 : decode cX8_commonDivisor 26 = .ok (.lstore_n 2, 1) := by decide +kernel
theorem dX8_commonDivisor_27 : decode cX8_commonDivisor 27 = .ok (.iinc 4 1, 3) := by decide +kernel
theorem dX8_commonDivisor_30 : decode cX8_commonDivisor 30 = .ok (.goto (-27), 3) := by decide +kernel
theorem dX8_commonDivisor_33 : decode cX8_commonDivisor 33 = .ok (.lload_n 0, 1) := by decide +kernel
theorem dX8_commonDivisor_34 : decode cX8_commonDivisor 34 = .ok (.lreturn, 1) := by decide +kernel
theorem dX9_init_0 : decode cX9_init 0 = .ok (.aload_n 0, 1) := by decide +kernel
theorem dX9_init_1 : decode cX9_init 1 = .ok (.invokespecial 1, 3) := by decide +kernel
theorem dX9_init_4 : decode cX9_init 4 = .ok (.aload_n 0, 1) := by decide +kernel
theorem dX9_init_5 : decode cX9_init 5 = .ok (.sipush 300, 3) := by decide +kernel
theorem dX9_init_8 : decode cX9_init 8 = .ok (.newarray .int, 2) := by decide +kernel
theorem dX9_init_10 : decode cX9_init 10 = .ok (.putfield 7, 3) := by decide +kernel
theorem dX9_init_13 : decode cX9_init 13 = .ok (.aload_n 0, 1) := by decide +kernel
theorem dX9_init_14 : decode cX9_init 14 = .ok (.iconst 2, 1) := by decide +kernel
theorem dX9_init_15 : decode cX9_init 15 = .ok (.newarray .int, 2) := by decide +kernel
theorem dX9_init_17 : decode cX9_init 17 = .ok (.putfield 13, 3) := by decide +kernel
theorem dX9_init_20 : decode cX9_init 20 = .ok (.aload_n 0, 1) := by decide +kernel
theorem dX9_init_21 : decode cX9_init 21 = .ok (.iconst 2, 1) := by decide +kernel
theorem dX9_init_22 : decode cX9_init 22 = .ok (.newarray .int, 2) := by decide +kernel
theorem dX9_init_24 : decode cX9_init 24 = .ok (.putfield 16, 3) := by decide +kernel
theorem dX9_init_27 : decode cX9_init 27 = .ok (.aload_n 0, 1) := by decide +kernel
theorem dX9_init_28 : decode cX9_init 28 = .ok (.iconst 2, 1) := by decide +kernel
theorem dX9_init_29 : decode cX9_init 29 = .ok (.newarray .int, 2) := by decide +kernel
theorem dX9_init_31 : decode cX9_init 31 = .ok (.putfield 19, 3) := by decide +kernel
theorem dX9_init_34 : decode cX9_init 34 = .ok (.aload_n 0, 1) := by decide +kernel
theorem dX9_init_35 : decode cX9_init 35 = .ok (.bipush 12, 2) := by decide +kernel
theorem dX9_init_37 : decode cX9_init 37 = .ok (.newarray .int, 2) := by decide +kernel
theorem dX9_init_39 : decode cX9_init 39 = .ok (.putfield 22, 3) := by decide +kernel
theorem dX9_init_42 : decode cX9_init 42 = .ok (.aload_n 0, 1) := by decide +kernel
theorem dX9_init_43 : decode cX9_init 43 = .ok (.iconst 2, 1) := by decide +kernel
theorem dX9_init_44 : decode cX9_init 44 = .ok (.newarray .int, 2) := by decide +kernel
theorem dX9_init_46 : decode cX9_init 46 = .ok (.putfield 25, 3) := by decide +kernel
theorem dX9_init_49 : decode cX9_init 49 = .ok (.aload_n 0, 1) := by decide +kernel
theorem dX9_init_50 : decode cX9_init 50 = .ok (.bipush 20, 2) := by decide +kernel
theorem dX9_init_52 : decode cX9_init 52 = .ok (.newarray .int, 2) := by decide +kernel
theorem dX9_init_54 : decode cX9_init 54 = .ok (.putfield 28, 3) := by decide +kernel
theorem dX9_init_57 : decode cX9_init 57 = .ok (.aload_n 0, 1) := by decide +kernel
theorem dX9_init_58 : decode cX9_init 58 = .ok (.bipush 84, 2) := by decide +kernel
theorem dX9_init_60 : decode cX9_init 60 = .ok (.newarray .int, 2) := by decide +kernel
theorem dX9_init_62 : decode cX9_init 62 = .ok (.putfield 31, 3) := by decide +kernel
theorem dX9_init_65 : decode cX9_init 65 = .ok (.aload_n 0, 1) := by decide +kernel
theorem dX9_init_66 : decode cX9_init 66 = .ok (.bipush 12, 2) := by decide +kernel
theorem dX9_init_68 : decode cX9_init 68 = .ok (.newarray .int, 2) := by decide +kernel
theorem dX9_init_70 : decode cX9_init 70 = .ok (.putfield 34, 3) := by decide +kernel
theorem dX9_init_73 : decode cX9_init 73 = .ok (.aload_n 0, 1) := by decide +kernel
theorem dX9_init_74 : decode cX9_init 74 = .ok (.iconst 2, 1) := by decide +kernel
theorem dX9_init_75 : decode cX9_init 75 = .ok (.newarray .int, 2) := by decide +kernel
theorem dX9_init_77 : decode cX9_init 77 = .ok (.putfield 37, 3) := by decide +kernel
theorem dX9_init_80 : decode cX9_init 80 = .ok (.aload_n 0, 1) := by decide +kernel
theorem dX9_init_81 : decode cX9_init 81 = .ok (.bipush 12, 2) := by decide +kernel
theorem dX9_init_83 : decode cX9_init 83 = .ok (.newarray .int, 2) := by decide +kernel
theorem dX9_init_85 : decode cX9_init 85 = .ok (.putfield 40, 3) := by decide +kernel
theorem dX9_init_88 : decode cX9_init 88 = .ok (.aload_n 0, 1) := by decide +kernel
theorem dX9_init_89 : decode cX9_init 89 = .ok (.bipush 36, 2) := by decide +kernel
theorem dX9_init_91 : decode cX9_init 91 = .ok (.newarray .int, 2) := by decide +kernel
theorem dX9_init_93 : decode cX9_init 93 = .ok (.putfield 43, 3) := by decide +kernel
theorem dX9_init_96 : decode cX9_init 96 = .ok (.aload_n 0, 1) := by decide +kernel
theorem dX9_init_97 : decode cX9_init 97 = .ok (.bipush 54, 2) := by decide +kernel
theorem dX9_init_99 : decode cX9_init 99 = .ok (.newarray .int, 2) := by decide +kernel
theorem dX9_init_101 : decode cX9_init 101 = .ok (.putfield 46, 3) := by decide +kernel
theorem dX9_init_104 : decode cX9_init 104 = .ok (.aload_n 0, 1) := by decide +kernel
theorem dX9_init_105 : decode cX9_init 105 = .ok (.iconst 3, 1) := by decide +kernel
theorem dX9_init_106 : decode cX9_init 106 = .ok (.newarray .int, 2) := by decide +kernel
theorem dX9_init_108 : decode cX9_init 108 = .ok (.putfield 49, 3) := by decide +kernel
theorem dX9_init_111 : decode cX9_init 111 = .ok (.aload_n 0, 1) := by decide +kernel
theorem dX9_init_112 : decode cX9_init 112 = .ok (.bipush 30, 2) := by decide +kernel
theorem dX9_init_114 : decode cX9_init 114 = .ok (.newarray .int, 2) := by decide +kernel
theorem dX9_init_116 : decode cX9_init 116 = .ok (.putfield 52, 3) := by decide +kernel
theorem dX9_init_119 : decode cX9_init 119 = .ok (.aload_n 0, 1) := by decide +kernel
theorem dX9_init_120 : decode cX9_init 120 = .ok (.iconst 4, 1) := by decide +kernel
theorem dX9_init_121 : decode cX9_init 121 = .ok (.newarray .int, 2) := by decide +kernel
theorem dX9_init_123 : decode cX9_init 123 = .ok (.putfield 55, 3) := by decide +kernel
theorem dX9_init_126 : decode cX9_init 126 = .ok (.aload_n 0, 1) := by decide +kernel
theorem dX9_init_127 : decode cX9_init 127 = .ok (.bipush 16, 2) := by decide +kernel
theorem dX9_init_129 : decode cX9_init 129 = .ok (.newarray .int, 2) := by decide +kernel
theorem dX9_init_131 : decode cX9_init 131 = .ok (.putfield 58, 3) := by decide +kernel
theorem dX9_init_134 : decode cX9_init 134 = .ok (.aload_n 0, 1) := by decide +kernel
theorem dX9_init_135 : decode cX9_init 135 = .ok (.ldc 61, 2) := by decide +kernel
theorem dX9_init_137 : decode cX9_init 137 = .ok (.newarray .int, 2) := by decide +kernel
theorem dX9_init_139 : decode cX9_init 139 = .ok (.putfield 62, 3) := by decide +kernel
theorem dX9_init_142 : decode cX9_init 142 = .ok (.aload_n 0, 1) := by decide +kernel
theorem dX9_init_143 : decode cX9_init 143 = .ok (.sipush 704, 3) := by decide +kernel
theorem dX9_init_146 : decode cX9_init 146 = .ok (.newarray .int, 2) := by decide +kernel
theorem dX9_init_148 : decode cX9_init 148 = .ok (.putfield 65, 3) := by decide +kernel
theorem dX9_init_151 : decode cX9_init 151 = .ok (.aload_n 0, 1) := by decide +kernel
theorem dX9_init_152 : decode cX9_init 152 = .ok (.bipush 12, 2) := by decide +kernel
theorem dX9_init_154 : decode cX9_init 154 = .ok (.newarray .int, 2) := by decide +kernel
theorem dX9_init_156 : decode cX9_init 156 = .ok (.putfield 68, 3) := by decide +kernel
theorem dX9_init_159 : decode cX9_init 159 = .ok (.aload_n 0, 1) := by decide +kernel
theorem dX9_init_160 : decode cX9_init 160 = .ok (.bipush 12, 2) := by decide +kernel
theorem dX9_init_162 : decode cX9_init 162 = .ok (.newarray .int, 2) := by decide +kernel
theorem dX9_init_164 : decode cX9_init 164 = .ok (.putfield 71, 3) := by decide +kernel
theorem dX9_init_167 : decode cX9_init 167 = .ok (.aload_n 0, 1) := by decide +kernel
theorem dX9_init_168 : decode cX9_init 168 = .ok (.bipush 10, 2) := by decide +kernel
theorem dX9_init_170 : decode cX9_init 170 = .ok (.newarray .int, 2) := by decide +kernel
theorem dX9_init_172 : decode cX9_init 172 = .ok (.putfield 74, 3) := by decide +kernel
theorem dX9_init_175 : decode cX9_init 175 = .ok (.aload_n 0, 1) := by decide +kernel
theorem dX9_init_176 : decode cX9_init 176 = .ok (.sipush 704, 3) := by decide +kernel
theorem dX9_init_179 : decode cX9_init 179 = .ok (.newarray .long, 2) := by decide +kernel
theorem dX9_init_181 : decode cX9_init 181 = .ok (.putfield 77, 3) := by decide +kernel
theorem dX9_init_184 : decode cX9_init 184 = .ok (.aload_n 0, 1) := by decide +kernel
theorem dX9_init_185 : decode cX9_init 185 = .ok (.sipush 704, 3) := by decide +kernel
theorem dX9_init_188 : decode cX9_init 188 = .ok (.newarray .long, 2) := by decide +kernel
theorem dX9_init_190 : decode cX9_init 190 = .ok (.putfield 81, 3) := by decide +kernel
theorem dX9_init_193 : decode cX9_init 193 = .ok (.aload_n 0, 1) := by decide +kernel
theorem dX9_init_194 : decode cX9_init 194 = .ok (.sipush 704, 3) := by decide +kernel
theorem dX9_init_197 : decode cX9_init 197 = .ok (.newarray .long, 2) := by decide +kernel
theorem dX9_init_199 : decode cX9_init 199 = .ok (.putfield 84, 3) := by decide +kernel
theorem dX9_init_202 : decode cX9_init 202 = .ok (.aload_n 0, 1) := by decide +kernel
theorem dX9_init_203 : decode cX9_init 203 = .ok (.bipush 18, 2) := by decide +kernel
theorem dX9_init_205 : decode cX9_init 205 = .ok (.newarray .int, 2) := by decide +kernel
theorem dX9_init_207 : decode cX9_init 207 = .ok (.putfield 87, 3) := by decide +kernel
theorem dX9_init_210 : decode cX9_init 210 = .ok (.aload_n 0, 1) := by decide +kernel
theorem dX9_init_211 : decode cX9_init 211 = .ok (.bipush 6, 2) := by decide +kernel
theorem dX9_init_213 : decode cX9_init 213 = .ok (.newarray .int, 2) := by decide +kernel
theorem dX9_init_215 : decode cX9_init 215 = .ok (.putfield 90, 3) := by decide +kernel
theorem dX9_init_218 : decode cX9_init 218 = .ok (.aload_n 0, 1) := by decide +kernel
theorem dX9_init_219 : decode cX9_init 219 = .ok (.sipush 601, 3) := by decide +kernel
theorem dX9_init_222 : decode cX9_init 222 = .ok (.newarray .long, 2) := by decide +kernel
theorem dX9_init_224 : decode cX9_init 224 = .ok (.putfield 93, 3) := by decide +kernel
theorem dX9_init_227 : decode cX9_init 227 = .ok (.aload_n 0, 1) := by decide +kernel
theorem dX9_init_228 : decode cX9_init 228 = .ok (.iconst 0, 1) := by decide +kernel
theorem dX9_init_229 : decode cX9_init 229 = .ok (.invokevirtual 96, 3) := by decide +kernel
theorem dX9_init_232 : decode cX9_init 232 = .ok (.aload_n 0, 1) := by decide +kernel
theorem dX9_init_233 : decode cX9_init 233 = .ok (.getfield 25, 3) := by decide +kernel
theorem dX9_init_236 : decode cX9_init 236 = .ok (.iconst 0, 1) := by decide +kernel
theorem dX9_init_237 : decode cX9_init 237 = .ok (.iconst 1, 1) := by decide +kernel
theorem dX9_init_238 : decode cX9_init 238 = .ok (.iastore, 1) := by decide +kernel
theorem dX9_init_239 : decode cX9_init 239 = .ok (.aload_n 0, 1) := by decide +kernel
theorem dX9_init_240 : decode cX9_init 240 = .ok (.getfield 28, 3) := by decide +kernel
theorem dX9_init_243 : decode cX9_init 243 = .ok (.iconst 0, 1) := by decide +kernel
theorem dX9_init_244 : decode cX9_init 244 = .ok (.iconst 0, 1) := by decide +kernel
theorem dX9_init_245 : decode cX9_init 245 = .ok (.iastore, 1) := by decide +kernel
theorem dX9_init_246 : decode cX9_init 246 = .ok (.return_, 1) := by decide +kernel
theorem dX9_in_0 : decode cX9_in 0 = .ok (.lload_n 0, 1) := by decide +kernel
theorem dX9_in_1 : decode cX9_in 1 = .ok (.lload_n 2, 1) := by decide +kernel
theorem dX9_in_2 : decode cX9_in 2 = .ok (.lcmp, 1) := by decide +kernel
theorem dX9_in_3 : decode cX9_in 3 = .ok (.ifCond .lt 14, 3) := by decide +kernel
theorem dX9_in_6 : decode cX9_in 6 = .ok (.lload_n 0, 1) := by decide +kernel
theorem dX9_in_7 : decode cX9_in 7 = .ok (.lload 4, 2) := by decide +kernel
theorem dX9_in_9 : decode cX9_in 9 = .ok (.lcmp, 1) := by decide +kernel
theorem dX9_in_10 : decode cX9_in 10 = .ok (.ifCond .gt 7, 3) := by decide +kernel
theorem dX9_in_13 : decode cX9_in 13 = .ok (.iconst 1, 1) := by decide +kernel
theorem dX9_in_14 : decode cX9_in 14 = .ok (.goto 4, 3) := by decide +kernel
theorem dX9_in_17 : decode cX9_in 17 = .ok (.iconst 0, 1) := by decide +kernel
theorem dX9_in_18 : decode cX9_in 18 = .ok (.ireturn, 1) := by decide +kernel
theorem dX9_has_0 : decode cX9_has 0 = .ok (.iload_n 0, 1) := by decide +kernel
theorem dX9_has_1 : decode cX9_has 1 = .ok (.iload_n 1, 1) := by decide +kernel
theorem dX9_has_2 : decode cX9_has 2 = .ok (.ishr, 1) := by decide +kernel
theorem dX9_has_3 : decode cX9_has 3 = .ok (.iconst 1, 1) := by decide +kernel
theorem dX9_has_4 : decode cX9_has 4 = .ok (.iand, 1) := by decide +kernel
theorem dX9_has_5 : decode cX9_has 5 = .ok (.iconst 1, 1) := by decide +kernel
theorem dX9_has_6 : decode cX9_has 6 = .ok (.if_icmp .ne 7, 3) := by decide +kernel
theorem dX9_has_9 : decode cX9_has 9 = .ok (.iconst 1, 1) := by decide +kernel
theorem dX9_has_10 : decode cX9_has 10 = .ok (.goto 4, 3) := by decide +kernel
theorem dX9_has_13 : decode cX9_has 13 = .ok (.iconst 0, 1) := by decide +kernel
theorem dX9_has_14 : decode cX9_has 14 = .ok (.ireturn, 1) := by decide +kernel
theorem dX9_noPost_0 : decode cX9_noPost 0 = .ok (.aload_n 0, 1) := by decide +kernel
theorem dX9_noPost_1 : decode cX9_noPost 1 = .ok (.getfield 13, 3) := by decide +kernel
theorem dX9_noPost_4 : decode cX9_noPost 4 = .ok (.iload_n 1, 1) := by decide +kernel
theorem dX9_noPost_5 : decode cX9_noPost 5 = .ok (.iconst 4, 1) := by decide +kernel
theorem dX9_noPost_6 : decode cX9_noPost 6 = .ok (.iastore, 1) := by decide +kernel
theorem dX9_noPost_7 : decode cX9_noPost 7 = .ok (.aload_n 0, 1) := by decide +kernel
theorem dX9_noPost_8 : decode cX9_noPost 8 = .ok (.getfield 16, 3) := by decide +kernel
theorem dX9_noPost_11 : decode cX9_noPost 11 = .ok (.iload_n 1, 1) := by decide +kernel
theorem dX9_noPost_12 : decode cX9_noPost 12 = .ok (.iconst 0, 1) := by decide +kernel
theorem dX9_noPost_13 : decode cX9_noPost 13 = .ok (.iastore, 1) := by decide +kernel
theorem dX9_noPost_14 : decode cX9_noPost 14 = .ok (.aload_n 0, 1) := by decide +kernel
theorem dX9_noPost_15 : decode cX9_noPost 15 = .ok (.getfield 19, 3) := by decide +kernel
theorem dX9_noPost_18 : decode cX9_noPost 18 = .ok (.iload_n 1, 1) := by decide +kernel
theorem dX9_noPost_19 : decode cX9_noPost 19 = .ok (.iconst 0, 1) := by decide +kernel
theorem dX9_noPost_20 : decode cX9_noPost 20 = .ok (.iastore, 1) := by decide +kernel
theorem dX9_noPost_21 : decode cX9_noPost 21 = .ok (.aload_n 0, 1) := by decide +kernel
theorem dX9_noPost_22 : decode cX9_noPost 22 = .ok (.getfield 25, 3) := by decide +kernel
theorem dX9_noPost_25 : decode cX9_noPost 25 = .ok (.iload_n 1, 1) := by decide +kernel
theorem dX9_noPost_26 : decode cX9_noPost 26 = .ok (.iconst 0, 1) := by decide +kernel
theorem dX9_noPost_27 : decode cX9_noPost 27 = .ok (.iastore, 1) := by decide +kernel
theorem dX9_noPost_28 : decode cX9_noPost 28 = .ok (.aload_n 0, 1) := by decide +kernel
theorem dX9_noPost_29 : decode cX9_noPost 29 = .ok (.getfield 37, 3) := by decide +kernel
theorem dX9_noPost_32 : decode cX9_noPost 32 = .ok (.iload_n 1, 1) := by decide +kernel
theorem dX9_noPost_33 : decode cX9_noPost 33 = .ok (.iconst 0, 1) := by decide +kernel
theorem dX9_noPost_34 : decode cX9_noPost 34 = .ok (.iastore, 1) := by decide +kernel
theorem dX9_noPost_35 : decode cX9_noPost 35 = .ok (.iconst 0, 1) := by decide +kernel
theorem dX9_noPost_36 : decode cX9_noPost 36 = .ok (.istore_n 2, 1) := by decide +kernel
theorem dX9_noPost_37 : decode cX9_noPost 37 = .ok (.iload_n 2, 1) := by decide +kernel
theorem dX9_noPost_38 : decode cX9_noPost 38 = .ok (.bipush 6, 2) := by decide +kernel
theorem dX9_noPost_40 : decode cX9_noPost 40 = .ok (.if_icmp .ge 62, 3) := by decide +kernel
theorem dX9_noPost_43 : decode cX9_noPost 43 = .ok (.iconst 0, 1) := by decide +kernel
theorem dX9_noPost_44 : decode cX9_noPost 44 = .ok (.istore_n 3, 1) := by decide +kernel
theorem dX9_noPost_45 : decode cX9_noPost 45 = .ok (.iload_n 3, 1) := by decide +kernel
theorem dX9_noPost_46 : decode cX9_noPost 46 = .ok (.bipush 7, 2) := by decide +kernel
theorem dX9_noPost_48 : decode cX9_noPost 48 = .ok (.if_icmp .ge 36, 3) := by decide +kernel
theorem dX9_noPost_51 : decode cX9_noPost 51 = .ok (.aload_n 0, 1) := by decide +kernel
theorem dX9_noPost_52 : decode cX9_noPost 52 = .ok (.getfield 31, 3) := by decide +kernel
theorem dX9_noPost_55 : decode cX9_noPost 55 = .ok (.bipush 42, 2) := by decide +kernel
theorem dX9_noPost_57 : decode cX9_noPost 57 = .ok (.iload_n 1, 1) := by decide +kernel
theorem dX9_noPost_58 : decode cX9_noPost 58 = .ok (.imul, 1) := by decide +kernel
theorem dX9_noPost_59 : decode cX9_noPost 59 = .ok (.bipush 7, 2) := by decide +kernel
theorem dX9_noPost_61 : decode cX9_noPost 61 = .ok (.iload_n 2, 1) := by decide +kernel
theorem dX9_noPost_62 : decode cX9_noPost 62 = .ok (.imul, 1) := by decide +kernel
theorem dX9_noPost_63 : decode cX9_noPost 63 = .ok (.iadd, 1) := by decide +kernel
theorem dX9_noPost_64 : decode cX9_noPost 64 = .ok (.iload_n 3, 1) := by decide +kernel
theorem dX9_noPost_65 : decode cX9_noPost 65 = .ok (.iadd, 1) := by decide +kernel
theorem dX9_noPost_66 : decode cX9_noPost 66 = .ok (.iload_n 2, 1) := by decide +kernel
theorem dX9_noPost_67 : decode cX9_noPost 67 = .ok (.iload_n 3, 1) := by decide +kernel
theorem dX9_noPost_68 : decode cX9_noPost 68 = .ok (.if_icmp .ne 8, 3) := by decide +kernel
theorem dX9_noPost_71 : decode cX9_noPost 71 = .ok (.bipush 9, 2) := by decide +kernel
theorem dX9_noPost_73 : decode cX9_noPost 73 = .ok (.goto 4, 3) := by decide +kernel
theorem dX9_noPost_76 : decode cX9_noPost 76 = .ok (.iconst 0, 1) := by decide +kernel
theorem dX9_noPost_77 : decode cX9_noPost 77 = .ok (.iastore, 1) := by decide +kernel
theorem dX9_noPost_78 : decode cX9_noPost 78 = .ok (.iinc 3 1, 3) := by decide +kernel
theorem dX9_noPost_81 : decode cX9_noPost 81 = .ok (.goto (-36), 3) := by decide +kernel
theorem dX9_noPost_84 : decode cX9_noPost 84 = .ok (.aload_n 0, 1) := by decide +kernel
theorem dX9_noPost_85 : decode cX9_noPost 85 = .ok (.getfield 34, 3) := by decide +kernel
theorem dX9_noPost_88 : decode cX9_noPost 88 = .ok (.bipush 6, 2) := by decide +kernel
theorem dX9_noPost_90 : decode cX9_noPost 90 = .ok (.iload_n 1, 1) := by decide +kernel
theorem dX9_noPost_91 : decode cX9_noPost 91 = .ok (.imul, 1) := by decide +kernel
theorem dX9_noPost_92 : decode cX9_noPost 92 = .ok (.iload_n 2, 1) := by decide +kernel
theorem dX9_noPost_93 : decode cX9_noPost 93 = .ok (.iadd, 1) := by decide +kernel
theorem dX9_noPost_94 : decode cX9_noPost 94 = .ok (.iconst 1, 1) := by decide +kernel
theorem dX9_noPost_95 : decode cX9_noPost 95 = .ok (.iastore, 1) := by decide +kernel
theorem dX9_noPost_96 : decode cX9_noPost 96 = .ok (.iinc 2 1, 3) := by decide +kernel
theorem dX9_noPost_99 : decode cX9_noPost 99 = .ok (.goto (-62), 3) := by decide +kernel
theorem dX9_noPost_102 : decode cX9_noPost 102 = .ok (.return_, 1) := by decide +kernel
theorem dX9_write_0 : decode cX9_write 0 = .ok (.iload_n 1, 1) := by decide +kernel
theorem dX9_write_1 : decode cX9_write 1 = .ok (.i2l, 1) := by decide +kernel
theorem dX9_write_2 : decode cX9_write 2 = .ok (.lconst 1, 1) := by decide +kernel
theorem dX9_write_3 : decode cX9_write 3 = .ok (.ldc2_w 100, 3) := by decide +kernel
theorem dX9_write_6 : decode cX9_write 6 = .ok (.invokestatic 102, 3) := by decide +kernel
theorem dX9_write_9 : decode cX9_write 9 = .ok (.ifCond .ne 5, 3) := by decide +kernel
theorem dX9_write_12 : decode cX9_write 12 = .ok (.iconst (-1), 1) := by decide +kernel
theorem dX9_write_13 : decode cX9_write 13 = .ok (.ireturn, 1) := by decide +kernel
theorem dX9_write_14 : decode cX9_write 14 = .ok (.aload_n 0, 1) := by decide +kernel
theorem dX9_write_15 : decode cX9_write 15 = .ok (.getfield 106, 3) := by decide +kernel
theorem dX9_write_18 : decode cX9_write 18 = .ok (.iload_n 1, 1) := by decide +kernel
theorem dX9_write_19 : decode cX9_write 19 = .ok (.iadd, 1) := by decide +kernel
theorem dX9_write_20 : decode cX9_write 20 = .ok (.sipush 300, 3) := by decide +kernel
theorem dX9_write_23 : decode cX9_write 23 = .ok (.if_icmp .le 6, 3) := by decide +kernel
theorem dX9_write_26 : decode cX9_write 26 = .ok (.bipush (-3), 2) := by decide +kernel
theorem dX9_write_28 : decode cX9_write 28 = .ok (.ireturn, 1) := by decide +kernel
theorem dX9_write_29 : decode cX9_write 29 = .ok (.iload_n 1, 1) := by decide +kernel
theorem dX9_write_30 : decode cX9_write 30 = .ok (.iconst 1, 1) := by decide +kernel
theorem dX9_write_31 : decode cX9_write 31 = .ok (.isub, 1) := by decide +kernel
theorem dX9_write_32 : decode cX9_write 32 = .ok (.istore 4, 2) := by decide +kernel
theorem dX9_write_34 : decode cX9_write 34 = .ok (.iload 4, 2) := by decide +kernel
theorem dX9_write_36 : decode cX9_write 36 = .ok (.ifCond .lt 40, 3) := by decide +kernel
theorem dX9_write_39 : decode cX9_write 39 = .ok (.aload_n 0, 1) := by decide +kernel
theorem dX9_write_40 : decode cX9_write 40 = .ok (.getfield 7, 3) := by decide +kernel
theorem dX9_write_43 : decode cX9_write 43 = .ok (.aload_n 0, 1) := by decide +kernel
theorem dX9_write_44 : decode cX9_write 44 = .ok (.getfield 106, 3) := by decide +kernel
theorem dX9_write_47 : decode cX9_write 47 = .ok (.lload_n 2, 1) := by decide +kernel
theorem dX9_write_48 : decode cX9_write 48 = .ok (.bipush 8, 2) := by decide +kernel
theorem dX9_write_50 : decode cX9_write 50 = .ok (.iload 4, 2) := by decide +kernel
theorem dX9_write_52 : decode cX9_write 52 = .ok (.imul, 1) := by decide +kernel
theorem dX9_write_53 : decode cX9_write 53 = .ok (.lshr, 1) := by decide +kernel
theorem dX9_write_54 : decode cX9_write 54 = .ok (.ldc2_w 110, 3) := by decide +kernel
theorem dX9_write_57 : decode cX9_write 57 = .ok (.land, 1) := by decide +kernel
theorem dX9_write_58 : decode cX9_write 58 = .ok (.l2i, 1) := by decide +kernel
theorem dX9_write_59 : decode cX9_write 59 = .ok (.iastore, 1) := by decide +kernel
theorem dX9_write_60 : decode cX9_write 60 = .ok (.aload_n 0, 1) := by decide +kernel
theorem dX9_write_61 : decode cX9_write 61 = .ok (.dup, 1) := by decide +kernel
theorem dX9_write_62 : decode cX9_write 62 = .ok (.getfield 106, 3) := by decide +kernel
theorem dX9_write_65 : decode cX9_write 65 = .ok (.iconst 1, 1) := by decide +kernel
theorem dX9_write_66 : decode cX9_write 66 = .ok (.iadd, 1) := by decide +kernel
theorem dX9_write_67 : decode cX9_write 67 = .ok (.putfield 106, 3) := by decide +kernel
theorem dX9_write_70 : decode cX9_write 70 = .ok (.iinc 4 (-1), 3) := by decide +kernel
theorem dX9_write_73 : decode cX9_write 73 = .ok (.goto (-39), 3) := by decide +kernel
theorem dX9_write_76 : decode cX9_write 76 = .ok (.aload_n 0, 1) := by decide +kernel
theorem dX9_write_77 : decode cX9_write 77 = .ok (.getfield 106, 3) := by decide +kernel
theorem dX9_write_80 : decode cX9_write 80 = .ok (.ireturn, 1) := by decide +kernel
theorem dX9_wipe_0 : decode cX9_wipe 0 = .ok (.aload_n 0, 1) := by decide +kernel
theorem dX9_wipe_1 : decode cX9_wipe 1 = .ok (.getfield 106, 3) := by decide +kernel
theorem dX9_wipe_4 : decode cX9_wipe 4 = .ok (.istore_n 1, 1) := by decide +kernel
theorem dX9_wipe_5 : decode cX9_wipe 5 = .ok (.aload_n 0, 1) := by decide +kernel
theorem dX9_wipe_6 : decode cX9_wipe 6 = .ok (.iconst 0, 1) := by decide +kernel
theorem dX9_wipe_7 : decode cX9_wipe 7 = .ok (.putfield 106, 3) := by decide +kernel
theorem dX9_wipe_10 : decode cX9_wipe 10 = .ok (.iload_n 1, 1) := by decide +kernel
theorem dX9_wipe_11 : decode cX9_wipe 11 = .ok (.ireturn, 1) := by decide +kernel
theorem dX9_byteAt_0 : decode cX9_byteAt 0 = .ok (.iload_n 1, 1) := by decide +kernel
theorem dX9_byteAt_1 : decode cX9_byteAt 1 = .ok (.aload_n 0, 1) := by decide +kernel
theorem dX9_byteAt_2 : decode cX9_byteAt 2 = .ok (.getfield 106, 3) := by decide +kernel
theorem dX9_byteAt_5 : decode cX9_byteAt 5 = .ok (.if_icmp .ge 12, 3) := by decide +kernel
theorem dX9_byteAt_8 : decode cX9_byteAt 8 = .ok (.aload_n 0, 1) := by decide +kernel
theorem dX9_byteAt_9 : decode cX9_byteAt 9 = .ok (.getfield 7, 3) := by decide +kernel
theorem dX9_byteAt_12 : decode cX9_byteAt 12 = .ok (.iload_n 1, 1) := by decide +kernel
theorem dX9_byteAt_13 : decode cX9_byteAt 13 = .ok (.iaload, 1) := by decide +kernel
theorem dX9_byteAt_14 : decode cX9_byteAt 14 = .ok (.goto 4, 3) := by decide +kernel
theorem dX9_byteAt_17 : decode cX9_byteAt 17 = .ok (.iconst 0, 1) := by decide +kernel
theorem dX9_byteAt_18 : decode cX9_byteAt 18 = .ok (.ireturn, 1) := by decide +kernel
theorem dX9_figures_0 : decode cX9_figures 0 = .ok (.iconst 0, 1) := by decide +kernel
theorem dX9_figures_1 : decode cX9_figures 1 = .ok (.istore_n 2, 1) := by decide +kernel
theorem dX9_figures_2 : decode cX9_figures 2 = .ok (.iload_n 2, 1) := by decide +kernel
theorem dX9_figures_3 : decode cX9_figures 3 = .ok (.iload_n 1, 1) := by decide +kernel
theorem dX9_figures_4 : decode cX9_figures 4 = .ok (.if_icmp .ge 132, 3) := by decide +kernel
theorem dX9_figures_7 : decode cX9_figures 7 = .ok (.iconst 0, 1) := by decide +kernel
theorem dX9_figures_8 : decode cX9_figures 8 = .ok (.istore_n 3, 1) := by decide +kernel
theorem dX9_figures_9 : decode cX9_figures 9 = .ok (.iconst 0, 1) := by decide +kernel
theorem dX9_figures_10 : decode cX9_figures 10 = .ok (.istore 4, 2) := by decide +kernel
theorem dX9_figures_12 : decode cX9_figures 12 = .ok (.aload_n 0, 1) := by decide +kernel
theorem dX9_figures_13 : decode cX9_figures 13 = .ok (.aload_n 0, 1) := by decide +kernel
theorem dX9_figures_14 : decode cX9_figures 14 = .ok (.getfield 112, 3) := by decide +kernel
theorem dX9_figures_17 : decode cX9_figures 17 = .ok (.invokevirtual 115, 3) := by decide +kernel
theorem dX9_figures_20 : decode cX9_figures 20 = .ok (.i2l, 1) := by decide +kernel
theorem dX9_figures_21 : decode cX9_figures 21 = .ok (.ldc2_w 119, 3) := by decide +kernel
theorem dX9_figures_24 : decode cX9_figures 24 = .ok (.ldc2_w 121, 3) := by decide +kernel
theorem dX9_figures_27 : decode cX9_figures 27 = .ok (.invokestatic 102, 3) := by decide +kernel
theorem dX9_figures_30 : decode cX9_figures 30 = .ok (.ifCond .eq 43, 3) := by decide +kernel
theorem dX9_figures_33 : decode cX9_figures 33 = .ok (.iload_n 3, 1) := by decide +kernel
theorem dX9_figures_34 : decode cX9_figures 34 = .ok (.iconst 4, 1) := by decide +kernel
theorem dX9_figures_35 : decode cX9_figures 35 = .ok (.if_icmp .ge 38, 3) := by decide +kernel
theorem dX9_figures_38 : decode cX9_figures 38 = .ok (.bipush 10, 2) := by decide +kernel
theorem dX9_figures_40 : decode cX9_figures 40 = .ok (.iload 4, 2) := by decide +kernel
theorem dX9_figures_42 : decode cX9_figures 42 = .ok (.imul, 1) := by decide +kernel
theorem dX9_figures_43 : decode cX9_figures 43 = .ok (.aload_n 0, 1) := by decide +kernel
theorem dX9_figures_44 : decode cX9_figures 44 = .ok (.aload_n 0, 1) := by decide +kernel
theorem dX9_figures_45 : decode cX9_figures 45 = .ok (.getfield 112, 3) := by decide +kernel
theorem dX9_figures_48 : decode cX9_figures 48 = .ok (.invokevirtual 115, 3) := by decide +kernel
theorem dX9_figures_51 : decode cX9_figures 51 = .ok (.iadd, 1) := by decide +kernel
theorem dX9_figures_52 : decode cX9_figures 52 = .ok (.bipush 48, 2) := by decide +kernel
theorem dX9_figures_54 : decode cX9_figures 54 = .ok (.isub, 1) := by decide +kernel
theorem dX9_figures_55 : decode cX9_figures 55 = .ok (.istore 4, 2) := by decide +kernel
theorem dX9_figures_57 : decode cX9_figures 57 = .ok (.iinc 3 1, 3) := by decide +kernel
theorem dX9_figures_60 : decode cX9_figures 60 = .ok (.aload_n 0, 1) := by decide +kernel
theorem dX9_figures_61 : decode cX9_figures 61 = .ok (.dup, 1) := by decide +kernel
theorem dX9_figures_62 : decode cX9_figures 62 = .ok (.getfield 112, 3) := by decide +kernel
theorem dX9_figures_65 : decode cX9_figures 65 = .ok (.iconst 1, 1) := by decide +kernel
theorem dX9_figures_66 : decode cX9_figures 66 = .ok (.iadd, 1) := by decide +kernel
theorem dX9_figures_67 : decode cX9_figures 67 = .ok (.putfield 112, 3) := by decide +kernel
theorem dX9_figures_70 : decode cX9_figures 70 = .ok (.goto (-58), 3) := by decide +kernel
theorem dX9_figures_73 : decode cX9_figures 73 = .ok (.iload_n 3, 1) := by decide +kernel
theorem dX9_figures_74 : decode cX9_figures 74 = .ok (.i2l, 1) := by decide +kernel
theorem dX9_figures_75 : decode cX9_figures 75 = .ok (.lconst 1, 1) := by decide +kernel
theorem dX9_figures_76 : decode cX9_figures 76 = .ok (.ldc2_w 123, 3) := by decide +kernel
theorem dX9_figures_79 : decode cX9_figures 79 = .ok (.invokestatic 102, 3) := by decide +kernel
theorem dX9_figures_82 : decode cX9_figures 82 = .ok (.ifCond .eq 28, 3) := by decide +kernel
theorem dX9_figures_85 : decode cX9_figures 85 = .ok (.aload_n 0, 1) := by decide +kernel
theorem dX9_figures_86 : decode cX9_figures 86 = .ok (.aload_n 0, 1) := by decide +kernel
theorem dX9_figures_87 : decode cX9_figures 87 = .ok (.getfield 112, 3) := by decide +kernel
theorem dX9_figures_90 : decode cX9_figures 90 = .ok (.invokevirtual 115, 3) := by decide +kernel
theorem dX9_figures_93 : decode cX9_figures 93 = .ok (.iload_n 2, 1) := by decide +kernel
theorem dX9_figures_94 : decode cX9_figures 94 = .ok (.iload_n 1, 1) := by decide +kernel
theorem dX9_figures_95 : decode cX9_figures 95 = .ok (.iconst 1, 1) := by decide +kernel
theorem dX9_figures_96 : decode cX9_figures 96 = .ok (.isub, 1) := by decide +kernel
theorem dX9_figures_97 : decode cX9_figures 97 = .ok (.if_icmp .ge 8, 3) := by decide +kernel
theorem dX9_figures_100 : decode cX9_figures 100 = .ok (.bipush 44, 2) := by decide +kernel
theorem dX9_figures_102 : decode cX9_figures 102 = .ok (.goto 5, 3) := by decide +kernel
theorem dX9_figures_105 : decode cX9_figures 105 = .ok (.bipush 59, 2) := by decide +kernel
theorem dX9_figures_107 : decode cX9_figures 107 = .ok (.if_icmp .eq 5, 3) := by decide +kernel
theorem dX9_figures_110 : decode cX9_figures 110 = .ok (.iconst 0, 1) := by decide +kernel
theorem dX9_figures_111 : decode cX9_figures 111 = .ok (.ireturn, 1) := by decide +kernel
theorem dX9_figures_112 : decode cX9_figures 112 = .ok (.aload_n 0, 1) := by decide +kernel
theorem dX9_figures_113 : decode cX9_figures 113 = .ok (.getfield 55, 3) := by decide +kernel
theorem dX9_figures_116 : decode cX9_figures 116 = .ok (.iload_n 2, 1) := by decide +kernel
theorem dX9_figures_117 : decode cX9_figures 117 = .ok (.iload 4, 2) := by decide +kernel
theorem dX9_figures_119 : decode cX9_figures 119 = .ok (.iastore, 1) := by decide +kernel
theorem dX9_figures_120 : decode cX9_figures 120 = .ok (.aload_n 0, 1) := by decide +kernel
theorem dX9_figures_121 : decode cX9_figures 121 = .ok (.dup, 1) := by decide +kernel
theorem dX9_figures_122 : decode cX9_figures 122 = .ok (.getfield 112, 3) := by decide +kernel
theorem dX9_figures_125 : decode cX9_figures 125 = .ok (.iconst 1, 1) := by decide +kernel
theorem dX9_figures_126 : decode cX9_figures 126 = .ok (.iadd, 1) := by decide +kernel
theorem dX9_figures_127 : decode cX9_figures 127 = .ok (.putfield 112, 3) := by decide +kernel
theorem dX9_figures_130 : decode cX9_figures 130 = .ok (.iinc 2 1, 3) := by decide +kernel
theorem dX9_figures_133 : decode cX9_figures 133 = .ok (.goto (-131), 3) := by decide +kernel
theorem dX9_figures_136 : decode cX9_figures 136 = .ok (.iconst 1, 1) := by decide +kernel
theorem dX9_figures_137 : decode cX9_figures 137 = .ok (.ireturn, 1) := by decide +kernel
theorem dX9_meet_0 : decode cX9_meet 0 = .ok (.aload_n 0, 1) := by decide +kernel
theorem dX9_meet_1 : decode cX9_meet 1 = .ok (.iload_n 1, 1) := by decide +kernel
theorem dX9_meet_2 : decode cX9_meet 2 = .ok (.bipush 6, 2) := by decide +kernel
theorem dX9_meet_4 : decode cX9_meet 4 = .ok (.if_icmp .ge 15, 3) := by decide +kernel
theorem dX9_meet_7 : decode cX9_meet 7 = .ok (.iload_n 1, 1) := by decide +kernel
theorem dX9_meet_8 : decode cX9_meet 8 = .ok (.aload_n 0, 1) := by decide +kernel
theorem dX9_meet_9 : decode cX9_meet 9 = .ok (.getfield 125, 3) := by decide +kernel
theorem dX9_meet_12 : decode cX9_meet 12 = .ok (.if_icmp .le 7, 3) := by decide +kernel
theorem dX9_meet_15 : decode cX9_meet 15 = .ok (.iload_n 1, 1) := by decide +kernel
theorem dX9_meet_16 : decode cX9_meet 16 = .ok (.goto 7, 3) := by decide +kernel
theorem dX9_meet_19 : decode cX9_meet 19 = .ok (.aload_n 0, 1) := by decide +kernel
theorem dX9_meet_20 : decode cX9_meet 20 = .ok (.getfield 125, 3) := by decide +kernel
theorem dX9_meet_23 : decode cX9_meet 23 = .ok (.putfield 125, 3) := by decide +kernel
theorem dX9_meet_26 : decode cX9_meet 26 = .ok (.return_, 1) := by decide +kernel
theorem dX9_aheadItem_0 : decode cX9_aheadItem 0 = .ok (.aload_n 0, 1) := by decide +kernel
theorem dX9_aheadItem_1 : decode cX9_aheadItem 1 = .ok (.iconst 1, 1) := by decide +kernel
theorem dX9_aheadItem_2 : decode cX9_aheadItem 2 = .ok (.invokevirtual 128, 3) := by decide +kernel
theorem dX9_aheadItem_5 : decode cX9_aheadItem 5 = .ok (.ifCond .eq 24, 3) := by decide +kernel
theorem dX9_aheadItem_8 : decode cX9_aheadItem 8 = .ok (.aload_n 0, 1) := by decide +kernel
theorem dX9_aheadItem_9 : decode cX9_aheadItem 9 = .ok (.getfield 19, 3) := by decide +kernel
theorem dX9_aheadItem_12 : decode cX9_aheadItem 12 = .ok (.iconst 1, 1) := by decide +kernel
theorem dX9_aheadItem_13 : decode cX9_aheadItem 13 = .ok (.iaload, 1) := by decide +kernel
theorem dX9_aheadItem_14 : decode cX9_aheadItem 14 = .ok (.bipush 6, 2) := by decide +kernel
theorem dX9_aheadItem_16 : decode cX9_aheadItem 16 = .ok (.if_icmp .eq 13, 3) := by decide +kernel
theorem dX9_aheadItem_19 : decode cX9_aheadItem 19 = .ok (.aload_n 0, 1) := by decide +kernel
theorem dX9_aheadItem_20 : decode cX9_aheadItem 20 = .ok (.getfield 55, 3) := by decide +kernel
theorem dX9_aheadItem_23 : decode cX9_aheadItem 23 = .ok (.iconst 0, 1) := by decide +kernel
theorem dX9_aheadItem_24 : decode cX9_aheadItem 24 = .ok (.iaload, 1) := by decide +kernel
theorem dX9_aheadItem_25 : decode cX9_aheadItem 25 = .ok (.iconst 5, 1) := by decide +kernel
theorem dX9_aheadItem_26 : decode cX9_aheadItem 26 = .ok (.if_icmp .le 5, 3) := by decide +kernel
theorem dX9_aheadItem_29 : decode cX9_aheadItem 29 = .ok (.iconst 0, 1) := by decide +kernel
theorem dX9_aheadItem_30 : decode cX9_aheadItem 30 = .ok (.ireturn, 1) := by decide +kernel
theorem dX9_aheadItem_31 : decode cX9_aheadItem 31 = .ok (.aload_n 0, 1) := by decide +kernel
theorem dX9_aheadItem_32 : decode cX9_aheadItem 32 = .ok (.getfield 22, 3) := by decide +kernel
theorem dX9_aheadItem_35 : decode cX9_aheadItem 35 = .ok (.bipush 6, 2) := by decide +kernel
theorem dX9_aheadItem_37 : decode cX9_aheadItem 37 = .ok (.aload_n 0, 1) := by decide +kernel
theorem dX9_aheadItem_38 : decode cX9_aheadItem 38 = .ok (.getfield 19, 3) := by decide +kernel
theorem dX9_aheadItem_41 : decode cX9_aheadItem 41 = .ok (.iconst 1, 1) := by decide +kernel
theorem dX9_aheadItem_42 : decode cX9_aheadItem 42 = .ok (.iaload, 1) := by decide +kernel
theorem dX9_aheadItem_43 : decode cX9_aheadItem 43 = .ok (.iadd, 1) := by decide +kernel
theorem dX9_aheadItem_44 : decode cX9_aheadItem 44 = .ok (.aload_n 0, 1) := by decide +kernel
theorem dX9_aheadItem_45 : decode cX9_aheadItem 45 = .ok (.getfield 55, 3) := by decide +kernel
theorem dX9_aheadItem_48 : decode cX9_aheadItem 48 = .ok (.iconst 0, 1) := by decide +kernel
theorem dX9_aheadItem_49 : decode cX9_aheadItem 49 = .ok (.iaload, 1) := by decide +kernel
theorem dX9_aheadItem_50 : decode cX9_aheadItem 50 = .ok (.iastore, 1) := by decide +kernel
theorem dX9_aheadItem_51 : decode cX9_aheadItem 51 = .ok (.aload_n 0, 1) := by decide +kernel
theorem dX9_aheadItem_52 : decode cX9_aheadItem 52 = .ok (.getfield 19, 3) := by decide +kernel
theorem dX9_aheadItem_55 : decode cX9_aheadItem 55 = .ok (.iconst 1, 1) := by decide +kernel
theorem dX9_aheadItem_56 : decode cX9_aheadItem 56 = .ok (.dup2, 1) := by decide +kernel
theorem dX9_aheadItem_57 : decode cX9_aheadItem 57 = .ok (.iaload, 1) := by decide +kernel
theorem dX9_aheadItem_58 : decode cX9_aheadItem 58 = .ok (.iconst 1, 1) := by decide +kernel
theorem dX9_aheadItem_59 : decode cX9_aheadItem 59 = .ok (.iadd, 1) := by decide +kernel
theorem dX9_aheadItem_60 : decode cX9_aheadItem 60 = .ok (.iastore, 1) := by decide +kernel
theorem dX9_aheadItem_61 : decode cX9_aheadItem 61 = .ok (.aload_n 0, 1) := by decide +kernel
theorem dX9_aheadItem_62 : decode cX9_aheadItem 62 = .ok (.aload_n 0, 1) := by decide +kernel
theorem dX9_aheadItem_63 : decode cX9_aheadItem 63 = .ok (.getfield 55, 3) := by decide +kernel
theorem dX9_aheadItem_66 : decode cX9_aheadItem 66 = .ok (.iconst 0, 1) := by decide +kernel
theorem dX9_aheadItem_67 : decode cX9_aheadItem 67 = .ok (.iaload, 1) := by decide +kernel
theorem dX9_aheadItem_68 : decode cX9_aheadItem 68 = .ok (.invokevirtual 132, 3) := by decide +kernel
theorem dX9_aheadItem_71 : decode cX9_aheadItem 71 = .ok (.iconst 1, 1) := by decide +kernel
theorem dX9_aheadItem_72 : decode cX9_aheadItem 72 = .ok (.ireturn, 1) := by decide +kernel
theorem dX9_wishItem_0 : decode cX9_wishItem 0 = .ok (.aload_n 0, 1) := by decide +kernel
theorem dX9_wishItem_1 : decode cX9_wishItem 1 = .ok (.iconst 1, 1) := by decide +kernel
theorem dX9_wishItem_2 : decode cX9_wishItem 2 = .ok (.invokevirtual 128, 3) := by decide +kernel
theorem dX9_wishItem_5 : decode cX9_wishItem 5 = .ok (.ifCond .eq 24, 3) := by decide +kernel
theorem dX9_wishItem_8 : decode cX9_wishItem 8 = .ok (.aload_n 0, 1) := by decide +kernel
theorem dX9_wishItem_9 : decode cX9_wishItem 9 = .ok (.getfield 25, 3) := by decide +kernel
theorem dX9_wishItem_12 : decode cX9_wishItem 12 = .ok (.iconst 1, 1) := by decide +kernel
theorem dX9_wishItem_13 : decode cX9_wishItem 13 = .ok (.iaload, 1) := by decide +kernel
theorem dX9_wishItem_14 : decode cX9_wishItem 14 = .ok (.bipush 10, 2) := by decide +kernel
theorem dX9_wishItem_16 : decode cX9_wishItem 16 = .ok (.if_icmp .eq 13, 3) := by decide +kernel
theorem dX9_wishItem_19 : decode cX9_wishItem 19 = .ok (.aload_n 0, 1) := by decide +kernel
theorem dX9_wishItem_20 : decode cX9_wishItem 20 = .ok (.getfield 55, 3) := by decide +kernel
theorem dX9_wishItem_23 : decode cX9_wishItem 23 = .ok (.iconst 0, 1) := by decide +kernel
theorem dX9_wishItem_24 : decode cX9_wishItem 24 = .ok (.iaload, 1) := by decide +kernel
theorem dX9_wishItem_25 : decode cX9_wishItem 25 = .ok (.iconst 5, 1) := by decide +kernel
theorem dX9_wishItem_26 : decode cX9_wishItem 26 = .ok (.if_icmp .le 5, 3) := by decide +kernel
theorem dX9_wishItem_29 : decode cX9_wishItem 29 = .ok (.iconst 0, 1) := by decide +kernel
theorem dX9_wishItem_30 : decode cX9_wishItem 30 = .ok (.ireturn, 1) := by decide +kernel
theorem dX9_wishItem_31 : decode cX9_wishItem 31 = .ok (.aload_n 0, 1) := by decide +kernel
theorem dX9_wishItem_32 : decode cX9_wishItem 32 = .ok (.getfield 28, 3) := by decide +kernel
theorem dX9_wishItem_35 : decode cX9_wishItem 35 = .ok (.bipush 10, 2) := by decide +kernel
theorem dX9_wishItem_37 : decode cX9_wishItem 37 = .ok (.aload_n 0, 1) := by decide +kernel
theorem dX9_wishItem_38 : decode cX9_wishItem 38 = .ok (.getfield 25, 3) := by decide +kernel
theorem dX9_wishItem_41 : decode cX9_wishItem 41 = .ok (.iconst 1, 1) := by decide +kernel
theorem dX9_wishItem_42 : decode cX9_wishItem 42 = .ok (.iaload, 1) := by decide +kernel
theorem dX9_wishItem_43 : decode cX9_wishItem 43 = .ok (.iadd, 1) := by decide +kernel
theorem dX9_wishItem_44 : decode cX9_wishItem 44 = .ok (.aload_n 0, 1) := by decide +kernel
theorem dX9_wishItem_45 : decode cX9_wishItem 45 = .ok (.getfield 55, 3) := by decide +kernel
theorem dX9_wishItem_48 : decode cX9_wishItem 48 = .ok (.iconst 0, 1) := by decide +kernel
theorem dX9_wishItem_49 : decode cX9_wishItem 49 = .ok (.iaload, 1) := by decide +kernel
theorem dX9_wishItem_50 : decode cX9_wishItem 50 = .ok (.iastore, 1) := by decide +kernel
theorem dX9_wishItem_51 : decode cX9_wishItem 51 = .ok (.aload_n 0, 1) := by decide +kernel
theorem dX9_wishItem_52 : decode cX9_wishItem 52 = .ok (.getfield 25, 3) := by decide +kernel
theorem dX9_wishItem_55 : decode cX9_wishItem 55 = .ok (.iconst 1, 1) := by decide +kernel
theorem dX9_wishItem_56 : decode cX9_wishItem 56 = .ok (.dup2, 1) := by decide +kernel
theorem dX9_wishItem_57 : decode cX9_wishItem 57 = .ok (.iaload, 1) := by decide +kernel
theorem dX9_wishItem_58 : decode cX9_wishItem 58 = .ok (.iconst 1, 1) := by decide +kernel
theorem dX9_wishItem_59 : decode cX9_wishItem 59 = .ok (.iadd, 1) := by decide +kernel
theorem dX9_wishItem_60 : decode cX9_wishItem 60 = .ok (.iastore, 1) := by decide +kernel
theorem dX9_wishItem_61 : decode cX9_wishItem 61 = .ok (.aload_n 0, 1) := by decide +kernel
theorem dX9_wishItem_62 : decode cX9_wishItem 62 = .ok (.aload_n 0, 1) := by decide +kernel
theorem dX9_wishItem_63 : decode cX9_wishItem 63 = .ok (.getfield 55, 3) := by decide +kernel
theorem dX9_wishItem_66 : decode cX9_wishItem 66 = .ok (.iconst 0, 1) := by decide +kernel
theorem dX9_wishItem_67 : decode cX9_wishItem 67 = .ok (.iaload, 1) := by decide +kernel
theorem dX9_wishItem_68 : decode cX9_wishItem 68 = .ok (.invokevirtual 132, 3) := by decide +kernel
theorem dX9_wishItem_71 : decode cX9_wishItem 71 = .ok (.iconst 1, 1) := by decide +kernel
theorem dX9_wishItem_72 : decode cX9_wishItem 72 = .ok (.ireturn, 1) := by decide +kernel
theorem dX9_worthItem_0 : decode cX9_worthItem 0 = .ok (.aload_n 0, 1) := by decide +kernel
theorem dX9_worthItem_1 : decode cX9_worthItem 1 = .ok (.iconst 3, 1) := by decide +kernel
theorem dX9_worthItem_2 : decode cX9_worthItem 2 = .ok (.invokevirtual 128, 3) := by decide +kernel
theorem dX9_worthItem_5 : decode cX9_worthItem 5 = .ok (.ifCond .eq 35, 3) := by decide +kernel
theorem dX9_worthItem_8 : decode cX9_worthItem 8 = .ok (.aload_n 0, 1) := by decide +kernel
theorem dX9_worthItem_9 : decode cX9_worthItem 9 = .ok (.getfield 55, 3) := by decide +kernel
theorem dX9_worthItem_12 : decode cX9_worthItem 12 = .ok (.iconst 0, 1) := by decide +kernel
theorem dX9_worthItem_13 : decode cX9_worthItem 13 = .ok (.iaload, 1) := by decide +kernel
theorem dX9_worthItem_14 : decode cX9_worthItem 14 = .ok (.iconst 5, 1) := by decide +kernel
theorem dX9_worthItem_15 : decode cX9_worthItem 15 = .ok (.if_icmp .gt 25, 3) := by decide +kernel
theorem dX9_worthItem_18 : decode cX9_worthItem 18 = .ok (.aload_n 0, 1) := by decide +kernel
theorem dX9_worthItem_19 : decode cX9_worthItem 19 = .ok (.getfield 55, 3) := by decide +kernel
theorem dX9_worthItem_22 : decode cX9_worthItem 22 = .ok (.iconst 1, 1) := by decide +kernel
theorem dX9_worthItem_23 : decode cX9_worthItem 23 = .ok (.iaload, 1) := by decide +kernel
theorem dX9_worthItem_24 : decode cX9_worthItem 24 = .ok (.bipush 6, 2) := by decide +kernel
theorem dX9_worthItem_26 : decode cX9_worthItem 26 = .ok (.if_icmp .gt 14, 3) := by decide +kernel
theorem dX9_worthItem_29 : decode cX9_worthItem 29 = .ok (.aload_n 0, 1) := by decide +kernel
theorem dX9_worthItem_30 : decode cX9_worthItem 30 = .ok (.getfield 55, 3) := by decide +kernel
theorem dX9_worthItem_33 : decode cX9_worthItem 33 = .ok (.iconst 2, 1) := by decide +kernel
theorem dX9_worthItem_34 : decode cX9_worthItem 34 = .ok (.iaload, 1) := by decide +kernel
theorem dX9_worthItem_35 : decode cX9_worthItem 35 = .ok (.bipush 9, 2) := by decide +kernel
theorem dX9_worthItem_37 : decode cX9_worthItem 37 = .ok (.if_icmp .le 5, 3) := by decide +kernel
theorem dX9_worthItem_40 : decode cX9_worthItem 40 = .ok (.iconst 0, 1) := by decide +kernel
theorem dX9_worthItem_41 : decode cX9_worthItem 41 = .ok (.ireturn, 1) := by decide +kernel
theorem dX9_worthItem_42 : decode cX9_worthItem 42 = .ok (.aload_n 0, 1) := by decide +kernel
theorem dX9_worthItem_43 : decode cX9_worthItem 43 = .ok (.getfield 31, 3) := by decide +kernel
theorem dX9_worthItem_46 : decode cX9_worthItem 46 = .ok (.bipush 42, 2) := by decide +kernel
theorem dX9_worthItem_48 : decode cX9_worthItem 48 = .ok (.bipush 7, 2) := by decide +kernel
theorem dX9_worthItem_50 : decode cX9_worthItem 50 = .ok (.aload_n 0, 1) := by decide +kernel
theorem dX9_worthItem_51 : decode cX9_worthItem 51 = .ok (.getfield 55, 3) := by decide +kernel
theorem dX9_worthItem_54 : decode cX9_worthItem 54 = .ok (.iconst 0, 1) := by decide +kernel
theorem dX9_worthItem_55 : decode cX9_worthItem 55 = .ok (.iaload, 1) := by decide +kernel
theorem dX9_worthItem_56 : decode cX9_worthItem 56 = .ok (.imul, 1) := by decide +kernel
theorem dX9_worthItem_57 : decode cX9_worthItem 57 = .ok (.iadd, 1) := by decide +kernel
theorem dX9_worthItem_58 : decode cX9_worthItem 58 = .ok (.aload_n 0, 1) := by decide +kernel
theorem dX9_worthItem_59 : decode cX9_worthItem 59 = .ok (.getfield 55, 3) := by decide +kernel
theorem dX9_worthItem_62 : decode cX9_worthItem 62 = .ok (.iconst 1, 1) := by decide +kernel
theorem dX9_worthItem_63 : decode cX9_worthItem 63 = .ok (.iaload, 1) := by decide +kernel
theorem dX9_worthItem_64 : decode cX9_worthItem 64 = .ok (.iadd, 1) := by decide +kernel
theorem dX9_worthItem_65 : decode cX9_worthItem 65 = .ok (.aload_n 0, 1) := by decide +kernel
theorem dX9_worthItem_66 : decode cX9_worthItem 66 = .ok (.getfield 55, 3) := by decide +kernel
theorem dX9_worthItem_69 : decode cX9_worthItem 69 = .ok (.iconst 2, 1) := by decide +kernel
theorem dX9_worthItem_70 : decode cX9_worthItem 70 = .ok (.iaload, 1) := by decide +kernel
theorem dX9_worthItem_71 : decode cX9_worthItem 71 = .ok (.iastore, 1) := by decide +kernel
theorem dX9_worthItem_72 : decode cX9_worthItem 72 = .ok (.aload_n 0, 1) := by decide +kernel
theorem dX9_worthItem_73 : decode cX9_worthItem 73 = .ok (.aload_n 0, 1) := by decide +kernel
theorem dX9_worthItem_74 : decode cX9_worthItem 74 = .ok (.getfield 55, 3) := by decide +kernel
theorem dX9_worthItem_77 : decode cX9_worthItem 77 = .ok (.iconst 0, 1) := by decide +kernel
theorem dX9_worthItem_78 : decode cX9_worthItem 78 = .ok (.iaload, 1) := by decide +kernel
theorem dX9_worthItem_79 : decode cX9_worthItem 79 = .ok (.invokevirtual 132, 3) := by decide +kernel
theorem dX9_worthItem_82 : decode cX9_worthItem 82 = .ok (.aload_n 0, 1) := by decide +kernel
theorem dX9_worthItem_83 : decode cX9_worthItem 83 = .ok (.aload_n 0, 1) := by decide +kernel
theorem dX9_worthItem_84 : decode cX9_worthItem 84 = .ok (.getfield 55, 3) := by decide +kernel
theorem dX9_worthItem_87 : decode cX9_worthItem 87 = .ok (.iconst 1, 1) := by decide +kernel
theorem dX9_worthItem_88 : decode cX9_worthItem 88 = .ok (.iaload, 1) := by decide +kernel
theorem dX9_worthItem_89 : decode cX9_worthItem 89 = .ok (.invokevirtual 132, 3) := by decide +kernel
theorem dX9_worthItem_92 : decode cX9_worthItem 92 = .ok (.iconst 1, 1) := by decide +kernel
theorem dX9_worthItem_93 : decode cX9_worthItem 93 = .ok (.ireturn, 1) := by decide +kernel
theorem dX9_postItem_0 : decode cX9_postItem 0 = .ok (.aload_n 0, 1) := by decide +kernel
theorem dX9_postItem_1 : decode cX9_postItem 1 = .ok (.getfield 37, 3) := by decide +kernel
theorem dX9_postItem_4 : decode cX9_postItem 4 = .ok (.iconst 1, 1) := by decide +kernel
theorem dX9_postItem_5 : decode cX9_postItem 5 = .ok (.iaload, 1) := by decide +kernel
theorem dX9_postItem_6 : decode cX9_postItem 6 = .ok (.istore_n 1, 1) := by decide +kernel
theorem dX9_postItem_7 : decode cX9_postItem 7 = .ok (.aload_n 0, 1) := by decide +kernel
theorem dX9_postItem_8 : decode cX9_postItem 8 = .ok (.iconst 4, 1) := by decide +kernel
theorem dX9_postItem_9 : decode cX9_postItem 9 = .ok (.invokevirtual 128, 3) := by decide +kernel
theorem dX9_postItem_12 : decode cX9_postItem 12 = .ok (.ifCond .eq 52, 3) := by decide +kernel
theorem dX9_postItem_15 : decode cX9_postItem 15 = .ok (.iload_n 1, 1) := by decide +kernel
theorem dX9_postItem_16 : decode cX9_postItem 16 = .ok (.bipush 6, 2) := by decide +kernel
theorem dX9_postItem_18 : decode cX9_postItem 18 = .ok (.if_icmp .eq 46, 3) := by decide +kernel
theorem dX9_postItem_21 : decode cX9_postItem 21 = .ok (.aload_n 0, 1) := by decide +kernel
theorem dX9_postItem_22 : decode cX9_postItem 22 = .ok (.getfield 55, 3) := by decide +kernel
theorem dX9_postItem_25 : decode cX9_postItem 25 = .ok (.iconst 0, 1) := by decide +kernel
theorem dX9_postItem_26 : decode cX9_postItem 26 = .ok (.iaload, 1) := by decide +kernel
theorem dX9_postItem_27 : decode cX9_postItem 27 = .ok (.iconst 5, 1) := by decide +kernel
theorem dX9_postItem_28 : decode cX9_postItem 28 = .ok (.if_icmp .gt 36, 3) := by decide +kernel
theorem dX9_postItem_31 : decode cX9_postItem 31 = .ok (.aload_n 0, 1) := by decide +kernel
theorem dX9_postItem_32 : decode cX9_postItem 32 = .ok (.getfield 55, 3) := by decide +kernel
theorem dX9_postItem_35 : decode cX9_postItem 35 = .ok (.iconst 1, 1) := by decide +kernel
theorem dX9_postItem_36 : decode cX9_postItem 36 = .ok (.iaload, 1) := by decide +kernel
theorem dX9_postItem_37 : decode cX9_postItem 37 = .ok (.bipush 6, 2) := by decide +kernel
theorem dX9_postItem_39 : decode cX9_postItem 39 = .ok (.if_icmp .gt 25, 3) := by decide +kernel
theorem dX9_postItem_42 : decode cX9_postItem 42 = .ok (.aload_n 0, 1) := by decide +kernel
theorem dX9_postItem_43 : decode cX9_postItem 43 = .ok (.getfield 55, 3) := by decide +kernel
theorem dX9_postItem_46 : decode cX9_postItem 46 = .ok (.iconst 2, 1) := by decide +kernel
theorem dX9_postItem_47 : decode cX9_postItem 47 = .ok (.iaload, 1) := by decide +kernel
theorem dX9_postItem_48 : decode cX9_postItem 48 = .ok (.bipush 6, 2) := by decide +kernel
theorem dX9_postItem_50 : decode cX9_postItem 50 = .ok (.if_icmp .gt 14, 3) := by decide +kernel
theorem dX9_postItem_53 : decode cX9_postItem 53 = .ok (.aload_n 0, 1) := by decide +kernel
theorem dX9_postItem_54 : decode cX9_postItem 54 = .ok (.getfield 55, 3) := by decide +kernel
theorem dX9_postItem_57 : decode cX9_postItem 57 = .ok (.iconst 3, 1) := by decide +kernel
theorem dX9_postItem_58 : decode cX9_postItem 58 = .ok (.iaload, 1) := by decide +kernel
theorem dX9_postItem_59 : decode cX9_postItem 59 = .ok (.bipush 6, 2) := by decide +kernel
theorem dX9_postItem_61 : decode cX9_postItem 61 = .ok (.if_icmp .le 5, 3) := by decide +kernel
theorem dX9_postItem_64 : decode cX9_postItem 64 = .ok (.iconst 0, 1) := by decide +kernel
theorem dX9_postItem_65 : decode cX9_postItem 65 = .ok (.ireturn, 1) := by decide +kernel
theorem dX9_postItem_66 : decode cX9_postItem 66 = .ok (.aload_n 0, 1) := by decide +kernel
theorem dX9_postItem_67 : decode cX9_postItem 67 = .ok (.getfield 40, 3) := by decide +kernel
theorem dX9_postItem_70 : decode cX9_postItem 70 = .ok (.bipush 6, 2) := by decide +kernel
theorem dX9_postItem_72 : decode cX9_postItem 72 = .ok (.iload_n 1, 1) := by decide +kernel
theorem dX9_postItem_73 : decode cX9_postItem 73 = .ok (.iadd, 1) := by decide +kernel
theorem dX9_postItem_74 : decode cX9_postItem 74 = .ok (.aload_n 0, 1) := by decide +kernel
theorem dX9_postItem_75 : decode cX9_postItem 75 = .ok (.getfield 55, 3) := by decide +kernel
theorem dX9_postItem_78 : decode cX9_postItem 78 = .ok (.iconst 0, 1) := by decide +kernel
theorem dX9_postItem_79 : decode cX9_postItem 79 = .ok (.iaload, 1) := by decide +kernel
theorem dX9_postItem_80 : decode cX9_postItem 80 = .ok (.iastore, 1) := by decide +kernel
theorem dX9_postItem_81 : decode cX9_postItem 81 = .ok (.aload_n 0, 1) := by decide +kernel
theorem dX9_postItem_82 : decode cX9_postItem 82 = .ok (.aload_n 0, 1) := by decide +kernel
theorem dX9_postItem_83 : decode cX9_postItem 83 = .ok (.getfield 55, 3) := by decide +kernel
theorem dX9_postItem_86 : decode cX9_postItem 86 = .ok (.iconst 0, 1) := by decide +kernel
theorem dX9_postItem_87 : decode cX9_postItem 87 = .ok (.iaload, 1) := by decide +kernel
theorem dX9_postItem_88 : decode cX9_postItem 88 = .ok (.aload_n 0, 1) := by decide +kernel
theorem dX9_postItem_89 : decode cX9_postItem 89 = .ok (.getfield 135, 3) := by decide +kernel
theorem dX9_postItem_92 : decode cX9_postItem 92 = .ok (.if_icmp .le 12, 3) := by decide +kernel
theorem dX9_postItem_95 : decode cX9_postItem 95 = .ok (.aload_n 0, 1) := by decide +kernel
theorem dX9_postItem_96 : decode cX9_postItem 96 = .ok (.getfield 55, 3) := by decide +kernel
theorem dX9_postItem_99 : decode cX9_postItem 99 = .ok (.iconst 0, 1) := by decide +kernel
theorem dX9_postItem_100 : decode cX9_postItem 100 = .ok (.iaload, 1) := by decide +kernel
theorem dX9_postItem_101 : decode cX9_postItem 101 = .ok (.goto 7, 3) := by decide +kernel
theorem dX9_postItem_104 : decode cX9_postItem 104 = .ok (.aload_n 0, 1) := by decide +kernel
theorem dX9_postItem_105 : decode cX9_postItem 105 = .ok (.getfield 135, 3) := by decide +kernel
theorem dX9_postItem_108 : decode cX9_postItem 108 = .ok (.putfield 135, 3) := by decide +kernel
theorem dX9_postItem_111 : decode cX9_postItem 111 = .ok (.iconst 0, 1) := by decide +kernel
theorem dX9_postItem_112 : decode cX9_postItem 112 = .ok (.istore_n 2, 1) := by decide +kernel
theorem dX9_postItem_113 : decode cX9_postItem 113 = .ok (.iload_n 2, 1) := by decide +kernel
theorem dX9_postItem_114 : decode cX9_postItem 114 = .ok (.iconst 3, 1) := by decide +kernel
theorem dX9_postItem_115 : decode cX9_postItem 115 = .ok (.if_icmp .ge 42, 3) := by decide +kernel
theorem dX9_postItem_118 : decode cX9_postItem 118 = .ok (.aload_n 0, 1) := by decide +kernel
theorem dX9_postItem_119 : decode cX9_postItem 119 = .ok (.getfield 43, 3) := by decide +kernel
theorem dX9_postItem_122 : decode cX9_postItem 122 = .ok (.bipush 18, 2) := by decide +kernel
theorem dX9_postItem_124 : decode cX9_postItem 124 = .ok (.iconst 3, 1) := by decide +kernel
theorem dX9_postItem_125 : decode cX9_postItem 125 = .ok (.iload_n 1, 1) := by decide +kernel
theorem dX9_postItem_126 : decode cX9_postItem 126 = .ok (.imul, 1) := by decide +kernel
theorem dX9_postItem_127 : decode cX9_postItem 127 = .ok (.iadd, 1) := by decide +kernel
theorem dX9_postItem_128 : decode cX9_postItem 128 = .ok (.iload_n 2, 1) := by decide +kernel
theorem dX9_postItem_129 : decode cX9_postItem 129 = .ok (.iadd, 1) := by decide +kernel
theorem dX9_postItem_130 : decode cX9_postItem 130 = .ok (.aload_n 0, 1) := by decide +kernel
theorem dX9_postItem_131 : decode cX9_postItem 131 = .ok (.getfield 55, 3) := by decide +kernel
theorem dX9_postItem_134 : decode cX9_postItem 134 = .ok (.iconst 1, 1) := by decide +kernel
theorem dX9_postItem_135 : decode cX9_postItem 135 = .ok (.iload_n 2, 1) := by decide +kernel
theorem dX9_postItem_136 : decode cX9_postItem 136 = .ok (.iadd, 1) := by decide +kernel
theorem dX9_postItem_137 : decode cX9_postItem 137 = .ok (.iaload, 1) := by decide +kernel
theorem dX9_postItem_138 : decode cX9_postItem 138 = .ok (.iastore, 1) := by decide +kernel
theorem dX9_postItem_139 : decode cX9_postItem 139 = .ok (.aload_n 0, 1) := by decide +kernel
theorem dX9_postItem_140 : decode cX9_postItem 140 = .ok (.aload_n 0, 1) := by decide +kernel
theorem dX9_postItem_141 : decode cX9_postItem 141 = .ok (.getfield 55, 3) := by decide +kernel
theorem dX9_postItem_144 : decode cX9_postItem 144 = .ok (.iconst 1, 1) := by decide +kernel
theorem dX9_postItem_145 : decode cX9_postItem 145 = .ok (.iload_n 2, 1) := by decide +kernel
theorem dX9_postItem_146 : decode cX9_postItem 146 = .ok (.iadd, 1) := by decide +kernel
theorem dX9_postItem_147 : decode cX9_postItem 147 = .ok (.iaload, 1) := by decide +kernel
theorem dX9_postItem_148 : decode cX9_postItem 148 = .ok (.invokevirtual 132, 3) := by decide +kernel
theorem dX9_postItem_151 : decode cX9_postItem 151 = .ok (.iinc 2 1, 3) := by decide +kernel
theorem dX9_postItem_154 : decode cX9_postItem 154 = .ok (.goto (-41), 3) := by decide +kernel
theorem dX9_postItem_157 : decode cX9_postItem 157 = .ok (.aload_n 0, 1) := by decide +kernel
theorem dX9_postItem_158 : decode cX9_postItem 158 = .ok (.getfield 37, 3) := by decide +kernel
theorem dX9_postItem_161 : decode cX9_postItem 161 = .ok (.iconst 1, 1) := by decide +kernel
theorem dX9_postItem_162 : decode cX9_postItem 162 = .ok (.dup2, 1) := by decide +kernel
theorem dX9_postItem_163 : decode cX9_postItem 163 = .ok (.iaload, 1) := by decide +kernel
theorem dX9_postItem_164 : decode cX9_postItem 164 = .ok (.iconst 1, 1) := by decide +kernel
theorem dX9_postItem_165 : decode cX9_postItem 165 = .ok (.iadd, 1) := by decide +kernel
theorem dX9_postItem_166 : decode cX9_postItem 166 = .ok (.iastore, 1) := by decide +kernel
theorem dX9_postItem_167 : decode cX9_postItem 167 = .ok (.iconst 1, 1) := by decide +kernel
theorem dX9_postItem_168 : decode cX9_postItem 168 = .ok (.ireturn, 1) := by decide +kernel
theorem dX9_item_0 : decode cX9_item 0 = .ok (.aload_n 0, 1) := by decide +kernel
theorem dX9_item_1 : decode cX9_item 1 = .ok (.aload_n 0, 1) := by decide +kernel
theorem dX9_item_2 : decode cX9_item 2 = .ok (.getfield 112, 3) := by decide +kernel
theorem dX9_item_5 : decode cX9_item 5 = .ok (.invokevirtual 115, 3) := by decide +kernel
theorem dX9_item_8 : decode cX9_item 8 = .ok (.istore_n 1, 1) := by decide +kernel
theorem dX9_item_9 : decode cX9_item 9 = .ok (.aload_n 0, 1) := by decide +kernel
theorem dX9_item_10 : decode cX9_item 10 = .ok (.dup, 1) := by decide +kernel
theorem dX9_item_11 : decode cX9_item 11 = .ok (.getfield 112, 3) := by decide +kernel
theorem dX9_item_14 : decode cX9_item 14 = .ok (.iconst 1, 1) := by decide +kernel
theorem dX9_item_15 : decode cX9_item 15 = .ok (.iadd, 1) := by decide +kernel
theorem dX9_item_16 : decode cX9_item 16 = .ok (.putfield 112, 3) := by decide +kernel
theorem dX9_item_19 : decode cX9_item 19 = .ok (.iload_n 1, 1) := by decide +kernel
theorem dX9_item_20 : decode cX9_item 20 = .ok (.tableswitch 260 98 118 #[177, 192, 260, 260, 260, 260, 260, 260, 260, 260, 260, 143, 260, 260, 255, 182, 260, 260, 100, 260, 187], 100) := by decide +kernel
theorem dX9_item_120 : decode cX9_item 120 = .ok (.aload_n 0, 1) := by decide +kernel
theorem dX9_item_121 : decode cX9_item 121 = .ok (.iconst 1, 1) := by decide +kernel
theorem dX9_item_122 : decode cX9_item 122 = .ok (.invokevirtual 128, 3) := by decide +kernel
theorem dX9_item_125 : decode cX9_item 125 = .ok (.ifCond .eq 22, 3) := by decide +kernel
theorem dX9_item_128 : decode cX9_item 128 = .ok (.aload_n 0, 1) := by decide +kernel
theorem dX9_item_129 : decode cX9_item 129 = .ok (.getfield 55, 3) := by decide +kernel
theorem dX9_item_132 : decode cX9_item 132 = .ok (.iconst 0, 1) := by decide +kernel
theorem dX9_item_133 : decode cX9_item 133 = .ok (.iaload, 1) := by decide +kernel
theorem dX9_item_134 : decode cX9_item 134 = .ok (.i2l, 1) := by decide +kernel
theorem dX9_item_135 : decode cX9_item 135 = .ok (.ldc2_w 138, 3) := by decide +kernel
theorem dX9_item_138 : decode cX9_item 138 = .ok (.ldc2_w 140, 3) := by decide +kernel
theorem dX9_item_141 : decode cX9_item 141 = .ok (.invokestatic 102, 3) := by decide +kernel
theorem dX9_item_144 : decode cX9_item 144 = .ok (.ifCond .ne 5, 3) := by decide +kernel
theorem dX9_item_147 : decode cX9_item 147 = .ok (.iconst 0, 1) := by decide +kernel
theorem dX9_item_148 : decode cX9_item 148 = .ok (.ireturn, 1) := by decide +kernel
theorem dX9_item_149 : decode cX9_item 149 = .ok (.aload_n 0, 1) := by decide +kernel
theorem dX9_item_150 : decode cX9_item 150 = .ok (.getfield 13, 3) := by decide +kernel
theorem dX9_item_153 : decode cX9_item 153 = .ok (.iconst 1, 1) := by decide +kernel
theorem dX9_item_154 : decode cX9_item 154 = .ok (.aload_n 0, 1) := by decide +kernel
theorem dX9_item_155 : decode cX9_item 155 = .ok (.getfield 55, 3) := by decide +kernel
theorem dX9_item_158 : decode cX9_item 158 = .ok (.iconst 0, 1) := by decide +kernel
theorem dX9_item_159 : decode cX9_item 159 = .ok (.iaload, 1) := by decide +kernel
theorem dX9_item_160 : decode cX9_item 160 = .ok (.iastore, 1) := by decide +kernel
theorem dX9_item_161 : decode cX9_item 161 = .ok (.iconst 1, 1) := by decide +kernel
theorem dX9_item_162 : decode cX9_item 162 = .ok (.ireturn, 1) := by decide +kernel
theorem dX9_item_163 : decode cX9_item 163 = .ok (.aload_n 0, 1) := by decide +kernel
theorem dX9_item_164 : decode cX9_item 164 = .ok (.iconst 1, 1) := by decide +kernel
theorem dX9_item_165 : decode cX9_item 165 = .ok (.invokevirtual 128, 3) := by decide +kernel
theorem dX9_item_168 : decode cX9_item 168 = .ok (.ifCond .eq 13, 3) := by decide +kernel
theorem dX9_item_171 : decode cX9_item 171 = .ok (.aload_n 0, 1) := by decide +kernel
theorem dX9_item_172 : decode cX9_item 172 = .ok (.getfield 55, 3) := by decide +kernel
theorem dX9_item_175 : decode cX9_item 175 = .ok (.iconst 0, 1) := by decide +kernel
theorem dX9_item_176 : decode cX9_item 176 = .ok (.iaload, 1) := by decide +kernel
theorem dX9_item_177 : decode cX9_item 177 = .ok (.iconst 3, 1) := by decide +kernel
theorem dX9_item_178 : decode cX9_item 178 = .ok (.if_icmp .le 5, 3) := by decide +kernel
theorem dX9_item_181 : decode cX9_item 181 = .ok (.iconst 0, 1) := by decide +kernel
theorem dX9_item_182 : decode cX9_item 182 = .ok (.ireturn, 1) := by decide +kernel
theorem dX9_item_183 : decode cX9_item 183 = .ok (.aload_n 0, 1) := by decide +kernel
theorem dX9_item_184 : decode cX9_item 184 = .ok (.getfield 16, 3) := by decide +kernel
theorem dX9_item_187 : decode cX9_item 187 = .ok (.iconst 1, 1) := by decide +kernel
theorem dX9_item_188 : decode cX9_item 188 = .ok (.aload_n 0, 1) := by decide +kernel
theorem dX9_item_189 : decode cX9_item 189 = .ok (.getfield 55, 3) := by decide +kernel
theorem dX9_item_192 : decode cX9_item 192 = .ok (.iconst 0, 1) := by decide +kernel
theorem dX9_item_193 : decode cX9_item 193 = .ok (.iaload, 1) := by decide +kernel
theorem dX9_item_194 : decode cX9_item 194 = .ok (.iastore, 1) := by decide +kernel
theorem dX9_item_195 : decode cX9_item 195 = .ok (.iconst 1, 1) := by decide +kernel
theorem dX9_item_196 : decode cX9_item 196 = .ok (.ireturn, 1) := by decide +kernel
theorem dX9_item_197 : decode cX9_item 197 = .ok (.aload_n 0, 1) := by decide +kernel
theorem dX9_item_198 : decode cX9_item 198 = .ok (.invokevirtual 142, 3) := by decide +kernel
theorem dX9_item_201 : decode cX9_item 201 = .ok (.ireturn, 1) := by decide +kernel
theorem dX9_item_202 : decode cX9_item 202 = .ok (.aload_n 0, 1) := by decide +kernel
theorem dX9_item_203 : decode cX9_item 203 = .ok (.invokevirtual 146, 3) := by decide +kernel
theorem dX9_item_206 : decode cX9_item 206 = .ok (.ireturn, 1) := by decide +kernel
theorem dX9_item_207 : decode cX9_item 207 = .ok (.aload_n 0, 1) := by decide +kernel
theorem dX9_item_208 : decode cX9_item 208 = .ok (.invokevirtual 149, 3) := by decide +kernel
theorem dX9_item_211 : decode cX9_item 211 = .ok (.ireturn, 1) := by decide +kernel
theorem dX9_item_212 : decode cX9_item 212 = .ok (.aload_n 0, 1) := by decide +kernel
theorem dX9_item_213 : decode cX9_item 213 = .ok (.iconst 2, 1) := by decide +kernel
theorem dX9_item_214 : decode cX9_item 214 = .ok (.invokevirtual 128, 3) := by decide +kernel
theorem dX9_item_217 : decode cX9_item 217 = .ok (.ifCond .eq 24, 3) := by decide +kernel
theorem dX9_item_220 : decode cX9_item 220 = .ok (.aload_n 0, 1) := by decide +kernel
theorem dX9_item_221 : decode cX9_item 221 = .ok (.getfield 55, 3) := by decide +kernel
theorem dX9_item_224 : decode cX9_item 224 = .ok (.iconst 0, 1) := by decide +kernel
theorem dX9_item_225 : decode cX9_item 225 = .ok (.iaload, 1) := by decide +kernel
theorem dX9_item_226 : decode cX9_item 226 = .ok (.iconst 5, 1) := by decide +kernel
theorem dX9_item_227 : decode cX9_item 227 = .ok (.if_icmp .gt 14, 3) := by decide +kernel
theorem dX9_item_230 : decode cX9_item 230 = .ok (.aload_n 0, 1) := by decide +kernel
theorem dX9_item_231 : decode cX9_item 231 = .ok (.getfield 55, 3) := by decide +kernel
theorem dX9_item_234 : decode cX9_item 234 = .ok (.iconst 1, 1) := by decide +kernel
theorem dX9_item_235 : decode cX9_item 235 = .ok (.iaload, 1) := by decide +kernel
theorem dX9_item_236 : decode cX9_item 236 = .ok (.bipush 9, 2) := by decide +kernel
theorem dX9_item_238 : decode cX9_item 238 = .ok (.if_icmp .le 5, 3) := by decide +kernel
theorem dX9_item_241 : decode cX9_item 241 = .ok (.iconst 0, 1) := by decide +kernel
theorem dX9_item_242 : decode cX9_item 242 = .ok (.ireturn, 1) := by decide +kernel
theorem dX9_item_243 : decode cX9_item 243 = .ok (.aload_n 0, 1) := by decide +kernel
theorem dX9_item_244 : decode cX9_item 244 = .ok (.getfield 34, 3) := by decide +kernel
theorem dX9_item_247 : decode cX9_item 247 = .ok (.bipush 6, 2) := by decide +kernel
theorem dX9_item_249 : decode cX9_item 249 = .ok (.aload_n 0, 1) := by decide +kernel
theorem dX9_item_250 : decode cX9_item 250 = .ok (.getfield 55, 3) := by decide +kernel
theorem dX9_item_253 : decode cX9_item 253 = .ok (.iconst 0, 1) := by decide +kernel
theorem dX9_item_254 : decode cX9_item 254 = .ok (.iaload, 1) := by decide +kernel
theorem dX9_item_255 : decode cX9_item 255 = .ok (.iadd, 1) := by decide +kernel
theorem dX9_item_256 : decode cX9_item 256 = .ok (.aload_n 0, 1) := by decide +kernel
theorem dX9_item_257 : decode cX9_item 257 = .ok (.getfield 55, 3) := by decide +kernel
theorem dX9_item_260 : decode cX9_item 260 = .ok (.iconst 1, 1) := by decide +kernel
theorem dX9_item_261 : decode cX9_item 261 = .ok (.iaload, 1) := by decide +kernel
theorem dX9_item_262 : decode cX9_item 262 = .ok (.iastore, 1) := by decide +kernel
theorem dX9_item_263 : decode cX9_item 263 = .ok (.aload_n 0, 1) := by decide +kernel
theorem dX9_item_264 : decode cX9_item 264 = .ok (.aload_n 0, 1) := by decide +kernel
theorem dX9_item_265 : decode cX9_item 265 = .ok (.getfield 55, 3) := by decide +kernel
theorem dX9_item_268 : decode cX9_item 268 = .ok (.iconst 0, 1) := by decide +kernel
theorem dX9_item_269 : decode cX9_item 269 = .ok (.iaload, 1) := by decide +kernel
theorem dX9_item_270 : decode cX9_item 270 = .ok (.invokevirtual 132, 3) := by decide +kernel
theorem dX9_item_273 : decode cX9_item 273 = .ok (.iconst 1, 1) := by decide +kernel
theorem dX9_item_274 : decode cX9_item 274 = .ok (.ireturn, 1) := by decide +kernel
theorem dX9_item_275 : decode cX9_item 275 = .ok (.aload_n 0, 1) := by decide +kernel
theorem dX9_item_276 : decode cX9_item 276 = .ok (.invokevirtual 152, 3) := by decide +kernel
theorem dX9_item_279 : decode cX9_item 279 = .ok (.ireturn, 1) := by decide +kernel
theorem dX9_item_280 : decode cX9_item 280 = .ok (.iconst 0, 1) := by decide +kernel
theorem dX9_item_281 : decode cX9_item 281 = .ok (.ireturn, 1) := by decide +kernel
theorem dX9_readAll_0 : decode cX9_readAll 0 = .ok (.aload_n 0, 1) := by decide +kernel
theorem dX9_readAll_1 : decode cX9_readAll 1 = .ok (.iconst 1, 1) := by decide +kernel
theorem dX9_readAll_2 : decode cX9_readAll 2 = .ok (.invokevirtual 96, 3) := by decide +kernel
theorem dX9_readAll_5 : decode cX9_readAll 5 = .ok (.aload_n 0, 1) := by decide +kernel
theorem dX9_readAll_6 : decode cX9_readAll 6 = .ok (.iconst 0, 1) := by decide +kernel
theorem dX9_readAll_7 : decode cX9_readAll 7 = .ok (.putfield 125, 3) := by decide +kernel
theorem dX9_readAll_10 : decode cX9_readAll 10 = .ok (.aload_n 0, 1) := by decide +kernel
theorem dX9_readAll_11 : decode cX9_readAll 11 = .ok (.iconst (-1), 1) := by decide +kernel
theorem dX9_readAll_12 : decode cX9_readAll 12 = .ok (.putfield 135, 3) := by decide +kernel
theorem dX9_readAll_15 : decode cX9_readAll 15 = .ok (.aload_n 0, 1) := by decide +kernel
theorem dX9_readAll_16 : decode cX9_readAll 16 = .ok (.iconst 0, 1) := by decide +kernel
theorem dX9_readAll_17 : decode cX9_readAll 17 = .ok (.putfield 112, 3) := by decide +kernel
theorem dX9_readAll_20 : decode cX9_readAll 20 = .ok (.aload_n 0, 1) := by decide +kernel
theorem dX9_readAll_21 : decode cX9_readAll 21 = .ok (.getfield 112, 3) := by decide +kernel
theorem dX9_readAll_24 : decode cX9_readAll 24 = .ok (.aload_n 0, 1) := by decide +kernel
theorem dX9_readAll_25 : decode cX9_readAll 25 = .ok (.getfield 106, 3) := by decide +kernel
theorem dX9_readAll_28 : decode cX9_readAll 28 = .ok (.if_icmp .ge 20, 3) := by decide +kernel
theorem dX9_readAll_31 : decode cX9_readAll 31 = .ok (.aload_n 0, 1) := by decide +kernel
theorem dX9_readAll_32 : decode cX9_readAll 32 = .ok (.getfield 112, 3) := by decide +kernel
theorem dX9_readAll_35 : decode cX9_readAll 35 = .ok (.istore_n 1, 1) := by decide +kernel
theorem dX9_readAll_36 : decode cX9_readAll 36 = .ok (.aload_n 0, 1) := by decide +kernel
theorem dX9_readAll_37 : decode cX9_readAll 37 = .ok (.invokevirtual 155, 3) := by decide +kernel
theorem dX9_readAll_40 : decode cX9_readAll 40 = .ok (.ifCond .ne 5, 3) := by decide +kernel
theorem dX9_readAll_43 : decode cX9_readAll 43 = .ok (.iload_n 1, 1) := by decide +kernel
theorem dX9_readAll_44 : decode cX9_readAll 44 = .ok (.ireturn, 1) := by decide +kernel
theorem dX9_readAll_45 : decode cX9_readAll 45 = .ok (.goto (-25), 3) := by decide +kernel
theorem dX9_readAll_48 : decode cX9_readAll 48 = .ok (.bipush (-4), 2) := by decide +kernel
theorem dX9_readAll_50 : decode cX9_readAll 50 = .ok (.ireturn, 1) := by decide +kernel
theorem dX9_fault_0 : decode cX9_fault 0 = .ok (.aload_n 0, 1) := by decide +kernel
theorem dX9_fault_1 : decode cX9_fault 1 = .ok (.invokevirtual 158, 3) := by decide +kernel
theorem dX9_fault_4 : decode cX9_fault 4 = .ok (.ireturn, 1) := by decide +kernel
theorem dX9_lay_0 : decode cX9_lay 0 = .ok (.aload_n 0, 1) := by decide +kernel
theorem dX9_lay_1 : decode cX9_lay 1 = .ok (.invokevirtual 158, 3) := by decide +kernel
theorem dX9_lay_4 : decode cX9_lay 4 = .ok (.bipush (-4), 2) := by decide +kernel
theorem dX9_lay_6 : decode cX9_lay 6 = .ok (.if_icmp .ne 38, 3) := by decide +kernel
theorem dX9_lay_9 : decode cX9_lay 9 = .ok (.aload_n 0, 1) := by decide +kernel
theorem dX9_lay_10 : decode cX9_lay 10 = .ok (.getfield 25, 3) := by decide +kernel
theorem dX9_lay_13 : decode cX9_lay 13 = .ok (.iconst 1, 1) := by decide +kernel
theorem dX9_lay_14 : decode cX9_lay 14 = .ok (.iaload, 1) := by decide +kernel
theorem dX9_lay_15 : decode cX9_lay 15 = .ok (.ifCond .eq 29, 3) := by decide +kernel
theorem dX9_lay_18 : decode cX9_lay 18 = .ok (.aload_n 0, 1) := by decide +kernel
theorem dX9_lay_19 : decode cX9_lay 19 = .ok (.getfield 125, 3) := by decide +kernel
theorem dX9_lay_22 : decode cX9_lay 22 = .ok (.aload_n 0, 1) := by decide +kernel
theorem dX9_lay_23 : decode cX9_lay 23 = .ok (.getfield 13, 3) := by decide +kernel
theorem dX9_lay_26 : decode cX9_lay 26 = .ok (.iconst 1, 1) := by decide +kernel
theorem dX9_lay_27 : decode cX9_lay 27 = .ok (.iaload, 1) := by decide +kernel
theorem dX9_lay_28 : decode cX9_lay 28 = .ok (.if_icmp .ge 16, 3) := by decide +kernel
theorem dX9_lay_31 : decode cX9_lay 31 = .ok (.aload_n 0, 1) := by decide +kernel
theorem dX9_lay_32 : decode cX9_lay 32 = .ok (.getfield 135, 3) := by decide +kernel
theorem dX9_lay_35 : decode cX9_lay 35 = .ok (.aload_n 0, 1) := by decide +kernel
theorem dX9_lay_36 : decode cX9_lay 36 = .ok (.getfield 37, 3) := by decide +kernel
theorem dX9_lay_39 : decode cX9_lay 39 = .ok (.iconst 1, 1) := by decide +kernel
theorem dX9_lay_40 : decode cX9_lay 40 = .ok (.iaload, 1) := by decide +kernel
theorem dX9_lay_41 : decode cX9_lay 41 = .ok (.if_icmp .lt 6, 3) := by decide +kernel
theorem dX9_lay_44 : decode cX9_lay 44 = .ok (.bipush (-2), 2) := by decide +kernel
theorem dX9_lay_46 : decode cX9_lay 46 = .ok (.ireturn, 1) := by decide +kernel
theorem dX9_lay_47 : decode cX9_lay 47 = .ok (.aload_n 0, 1) := by decide +kernel
theorem dX9_lay_48 : decode cX9_lay 48 = .ok (.getfield 13, 3) := by decide +kernel
theorem dX9_lay_51 : decode cX9_lay 51 = .ok (.iconst 0, 1) := by decide +kernel
theorem dX9_lay_52 : decode cX9_lay 52 = .ok (.aload_n 0, 1) := by decide +kernel
theorem dX9_lay_53 : decode cX9_lay 53 = .ok (.getfield 13, 3) := by decide +kernel
theorem dX9_lay_56 : decode cX9_lay 56 = .ok (.iconst 1, 1) := by decide +kernel
theorem dX9_lay_57 : decode cX9_lay 57 = .ok (.iaload, 1) := by decide +kernel
theorem dX9_lay_58 : decode cX9_lay 58 = .ok (.iastore, 1) := by decide +kernel
theorem dX9_lay_59 : decode cX9_lay 59 = .ok (.aload_n 0, 1) := by decide +kernel
theorem dX9_lay_60 : decode cX9_lay 60 = .ok (.getfield 16, 3) := by decide +kernel
theorem dX9_lay_63 : decode cX9_lay 63 = .ok (.iconst 0, 1) := by decide +kernel
theorem dX9_lay_64 : decode cX9_lay 64 = .ok (.aload_n 0, 1) := by decide +kernel
theorem dX9_lay_65 : decode cX9_lay 65 = .ok (.getfield 16, 3) := by decide +kernel
theorem dX9_lay_68 : decode cX9_lay 68 = .ok (.iconst 1, 1) := by decide +kernel
theorem dX9_lay_69 : decode cX9_lay 69 = .ok (.iaload, 1) := by decide +kernel
theorem dX9_lay_70 : decode cX9_lay 70 = .ok (.iastore, 1) := by decide +kernel
theorem dX9_lay_71 : decode cX9_lay 71 = .ok (.aload_n 0, 1) := by decide +kernel
theorem dX9_lay_72 : decode cX9_lay 72 = .ok (.getfield 19, 3) := by decide +kernel
theorem dX9_lay_75 : decode cX9_lay 75 = .ok (.iconst 0, 1) := by decide +kernel
theorem dX9_lay_76 : decode cX9_lay 76 = .ok (.aload_n 0, 1) := by decide +kernel
theorem dX9_lay_77 : decode cX9_lay 77 = .ok (.getfield 19, 3) := by decide +kernel
theorem dX9_lay_80 : decode cX9_lay 80 = .ok (.iconst 1, 1) := by decide +kernel
theorem dX9_lay_81 : decode cX9_lay 81 = .ok (.iaload, 1) := by decide +kernel
theorem dX9_lay_82 : decode cX9_lay 82 = .ok (.iastore, 1) := by decide +kernel
theorem dX9_lay_83 : decode cX9_lay 83 = .ok (.aload_n 0, 1) := by decide +kernel
theorem dX9_lay_84 : decode cX9_lay 84 = .ok (.getfield 25, 3) := by decide +kernel
theorem dX9_lay_87 : decode cX9_lay 87 = .ok (.iconst 0, 1) := by decide +kernel
theorem dX9_lay_88 : decode cX9_lay 88 = .ok (.aload_n 0, 1) := by decide +kernel
theorem dX9_lay_89 : decode cX9_lay 89 = .ok (.getfield 25, 3) := by decide +kernel
theorem dX9_lay_92 : decode cX9_lay 92 = .ok (.iconst 1, 1) := by decide +kernel
theorem dX9_lay_93 : decode cX9_lay 93 = .ok (.iaload, 1) := by decide +kernel
theorem dX9_lay_94 : decode cX9_lay 94 = .ok (.iastore, 1) := by decide +kernel
theorem dX9_lay_95 : decode cX9_lay 95 = .ok (.aload_n 0, 1) := by decide +kernel
theorem dX9_lay_96 : decode cX9_lay 96 = .ok (.getfield 37, 3) := by decide +kernel
theorem dX9_lay_99 : decode cX9_lay 99 = .ok (.iconst 0, 1) := by decide +kernel
theorem dX9_lay_100 : decode cX9_lay 100 = .ok (.aload_n 0, 1) := by decide +kernel
theorem dX9_lay_101 : decode cX9_lay 101 = .ok (.getfield 37, 3) := by decide +kernel
theorem dX9_lay_104 : decode cX9_lay 104 = .ok (.iconst 1, 1) := by decide +kernel
theorem dX9_lay_105 : decode cX9_lay 105 = .ok (.iaload, 1) := by decide +kernel
theorem dX9_lay_106 : decode cX9_lay 106 = .ok (.iastore, 1) := by decide +kernel
theorem dX9_lay_107 : decode cX9_lay 107 = .ok (.iconst 0, 1) := by decide +kernel
theorem dX9_lay_108 : decode cX9_lay 108 = .ok (.istore_n 1, 1) := by decide +kernel
theorem dX9_lay_109 : decode cX9_lay 109 = .ok (.iload_n 1, 1) := by decide +kernel
theorem dX9_lay_110 : decode cX9_lay 110 = .ok (.bipush 6, 2) := by decide +kernel
theorem dX9_lay_112 : decode cX9_lay 112 = .ok (.if_icmp .ge 54, 3) := by decide +kernel
theorem dX9_lay_115 : decode cX9_lay 115 = .ok (.aload_n 0, 1) := by decide +kernel
theorem dX9_lay_116 : decode cX9_lay 116 = .ok (.getfield 22, 3) := by decide +kernel
theorem dX9_lay_119 : decode cX9_lay 119 = .ok (.iload_n 1, 1) := by decide +kernel
theorem dX9_lay_120 : decode cX9_lay 120 = .ok (.aload_n 0, 1) := by decide +kernel
theorem dX9_lay_121 : decode cX9_lay 121 = .ok (.getfield 22, 3) := by decide +kernel
theorem dX9_lay_124 : decode cX9_lay 124 = .ok (.bipush 6, 2) := by decide +kernel
theorem dX9_lay_126 : decode cX9_lay 126 = .ok (.iload_n 1, 1) := by decide +kernel
theorem dX9_lay_127 : decode cX9_lay 127 = .ok (.iadd, 1) := by decide +kernel
theorem dX9_lay_128 : decode cX9_lay 128 = .ok (.iaload, 1) := by decide +kernel
theorem dX9_lay_129 : decode cX9_lay 129 = .ok (.iastore, 1) := by decide +kernel
theorem dX9_lay_130 : decode cX9_lay 130 = .ok (.aload_n 0, 1) := by decide +kernel
theorem dX9_lay_131 : decode cX9_lay 131 = .ok (.getfield 34, 3) := by decide +kernel
theorem dX9_lay_134 : decode cX9_lay 134 = .ok (.iload_n 1, 1) := by decide +kernel
theorem dX9_lay_135 : decode cX9_lay 135 = .ok (.aload_n 0, 1) := by decide +kernel
theorem dX9_lay_136 : decode cX9_lay 136 = .ok (.getfield 34, 3) := by decide +kernel
theorem dX9_lay_139 : decode cX9_lay 139 = .ok (.bipush 6, 2) := by decide +kernel
theorem dX9_lay_141 : decode cX9_lay 141 = .ok (.iload_n 1, 1) := by decide +kernel
theorem dX9_lay_142 : decode cX9_lay 142 = .ok (.iadd, 1) := by decide +kernel
theorem dX9_lay_143 : decode cX9_lay 143 = .ok (.iaload, 1) := by decide +kernel
theorem dX9_lay_144 : decode cX9_lay 144 = .ok (.iastore, 1) := by decide +kernel
theorem dX9_lay_145 : decode cX9_lay 145 = .ok (.aload_n 0, 1) := by decide +kernel
theorem dX9_lay_146 : decode cX9_lay 146 = .ok (.getfield 40, 3) := by decide +kernel
theorem dX9_lay_149 : decode cX9_lay 149 = .ok (.iload_n 1, 1) := by decide +kernel
theorem dX9_lay_150 : decode cX9_lay 150 = .ok (.aload_n 0, 1) := by decide +kernel
theorem dX9_lay_151 : decode cX9_lay 151 = .ok (.getfield 40, 3) := by decide +kernel
theorem dX9_lay_154 : decode cX9_lay 154 = .ok (.bipush 6, 2) := by decide +kernel
theorem dX9_lay_156 : decode cX9_lay 156 = .ok (.iload_n 1, 1) := by decide +kernel
theorem dX9_lay_157 : decode cX9_lay 157 = .ok (.iadd, 1) := by decide +kernel
theorem dX9_lay_158 : decode cX9_lay 158 = .ok (.iaload, 1) := by decide +kernel
theorem dX9_lay_159 : decode cX9_lay 159 = .ok (.iastore, 1) := by decide +kernel
theorem dX9_lay_160 : decode cX9_lay 160 = .ok (.iinc 1 1, 3) := by decide +kernel
theorem dX9_lay_163 : decode cX9_lay 163 = .ok (.goto (-54), 3) := by decide +kernel
theorem dX9_lay_166 : decode cX9_lay 166 = .ok (.iconst 0, 1) := by decide +kernel
theorem dX9_lay_167 : decode cX9_lay 167 = .ok (.istore_n 1, 1) := by decide +kernel
theorem dX9_lay_168 : decode cX9_lay 168 = .ok (.iload_n 1, 1) := by decide +kernel
theorem dX9_lay_169 : decode cX9_lay 169 = .ok (.bipush 10, 2) := by decide +kernel
theorem dX9_lay_171 : decode cX9_lay 171 = .ok (.if_icmp .ge 24, 3) := by decide +kernel
theorem dX9_lay_174 : decode cX9_lay 174 = .ok (.aload_n 0, 1) := by decide +kernel
theorem dX9_lay_175 : decode cX9_lay 175 = .ok (.getfield 28, 3) := by decide +kernel
theorem dX9_lay_178 : decode cX9_lay 178 = .ok (.iload_n 1, 1) := by decide +kernel
theorem dX9_lay_179 : decode cX9_lay 179 = .ok (.aload_n 0, 1) := by decide +kernel
theorem dX9_lay_180 : decode cX9_lay 180 = .ok (.getfield 28, 3) := by decide +kernel
theorem dX9_lay_183 : decode cX9_lay 183 = .ok (.bipush 10, 2) := by decide +kernel
theorem dX9_lay_185 : decode cX9_lay 185 = .ok (.iload_n 1, 1) := by decide +kernel
theorem dX9_lay_186 : decode cX9_lay 186 = .ok (.iadd, 1) := by decide +kernel
theorem dX9_lay_187 : decode cX9_lay 187 = .ok (.iaload, 1) := by decide +kernel
theorem dX9_lay_188 : decode cX9_lay 188 = .ok (.iastore, 1) := by decide +kernel
theorem dX9_lay_189 : decode cX9_lay 189 = .ok (.iinc 1 1, 3) := by decide +kernel
theorem dX9_lay_192 : decode cX9_lay 192 = .ok (.goto (-24), 3) := by decide +kernel
theorem dX9_lay_195 : decode cX9_lay 195 = .ok (.iconst 0, 1) := by decide +kernel
theorem dX9_lay_196 : decode cX9_lay 196 = .ok (.istore_n 1, 1) := by decide +kernel
theorem dX9_lay_197 : decode cX9_lay 197 = .ok (.iload_n 1, 1) := by decide +kernel
theorem dX9_lay_198 : decode cX9_lay 198 = .ok (.bipush 42, 2) := by decide +kernel
theorem dX9_lay_200 : decode cX9_lay 200 = .ok (.if_icmp .ge 24, 3) := by decide +kernel
theorem dX9_lay_203 : decode cX9_lay 203 = .ok (.aload_n 0, 1) := by decide +kernel
theorem dX9_lay_204 : decode cX9_lay 204 = .ok (.getfield 31, 3) := by decide +kernel
theorem dX9_lay_207 : decode cX9_lay 207 = .ok (.iload_n 1, 1) := by decide +kernel
theorem dX9_lay_208 : decode cX9_lay 208 = .ok (.aload_n 0, 1) := by decide +kernel
theorem dX9_lay_209 : decode cX9_lay 209 = .ok (.getfield 31, 3) := by decide +kernel
theorem dX9_lay_212 : decode cX9_lay 212 = .ok (.bipush 42, 2) := by decide +kernel
theorem dX9_lay_214 : decode cX9_lay 214 = .ok (.iload_n 1, 1) := by decide +kernel
theorem dX9_lay_215 : decode cX9_lay 215 = .ok (.iadd, 1) := by decide +kernel
theorem dX9_lay_216 : decode cX9_lay 216 = .ok (.iaload, 1) := by decide +kernel
theorem dX9_lay_217 : decode cX9_lay 217 = .ok (.iastore, 1) := by decide +kernel
theorem dX9_lay_218 : decode cX9_lay 218 = .ok (.iinc 1 1, 3) := by decide +kernel
theorem dX9_lay_221 : decode cX9_lay 221 = .ok (.goto (-24), 3) := by decide +kernel
theorem dX9_lay_224 : decode cX9_lay 224 = .ok (.iconst 0, 1) := by decide +kernel
theorem dX9_lay_225 : decode cX9_lay 225 = .ok (.istore_n 1, 1) := by decide +kernel
theorem dX9_lay_226 : decode cX9_lay 226 = .ok (.iload_n 1, 1) := by decide +kernel
theorem dX9_lay_227 : decode cX9_lay 227 = .ok (.bipush 18, 2) := by decide +kernel
theorem dX9_lay_229 : decode cX9_lay 229 = .ok (.if_icmp .ge 24, 3) := by decide +kernel
theorem dX9_lay_232 : decode cX9_lay 232 = .ok (.aload_n 0, 1) := by decide +kernel
theorem dX9_lay_233 : decode cX9_lay 233 = .ok (.getfield 46, 3) := by decide +kernel
theorem dX9_lay_236 : decode cX9_lay 236 = .ok (.iload_n 1, 1) := by decide +kernel
theorem dX9_lay_237 : decode cX9_lay 237 = .ok (.aload_n 0, 1) := by decide +kernel
theorem dX9_lay_238 : decode cX9_lay 238 = .ok (.getfield 43, 3) := by decide +kernel
theorem dX9_lay_241 : decode cX9_lay 241 = .ok (.bipush 18, 2) := by decide +kernel
theorem dX9_lay_243 : decode cX9_lay 243 = .ok (.iload_n 1, 1) := by decide +kernel
theorem dX9_lay_244 : decode cX9_lay 244 = .ok (.iadd, 1) := by decide +kernel
theorem dX9_lay_245 : decode cX9_lay 245 = .ok (.iaload, 1) := by decide +kernel
theorem dX9_lay_246 : decode cX9_lay 246 = .ok (.iastore, 1) := by decide +kernel
theorem dX9_lay_247 : decode cX9_lay 247 = .ok (.iinc 1 1, 3) := by decide +kernel
theorem dX9_lay_250 : decode cX9_lay 250 = .ok (.goto (-24), 3) := by decide +kernel
theorem dX9_lay_253 : decode cX9_lay 253 = .ok (.aload_n 0, 1) := by decide +kernel
theorem dX9_lay_254 : decode cX9_lay 254 = .ok (.getfield 49, 3) := by decide +kernel
theorem dX9_lay_257 : decode cX9_lay 257 = .ok (.iconst 0, 1) := by decide +kernel
theorem dX9_lay_258 : decode cX9_lay 258 = .ok (.iconst 0, 1) := by decide +kernel
theorem dX9_lay_259 : decode cX9_lay 259 = .ok (.iastore, 1) := by decide +kernel
theorem dX9_lay_260 : decode cX9_lay 260 = .ok (.aload_n 0, 1) := by decide +kernel
theorem dX9_lay_261 : decode cX9_lay 261 = .ok (.iconst 0, 1) := by decide +kernel
theorem dX9_lay_262 : decode cX9_lay 262 = .ok (.putfield 162, 3) := by decide +kernel
theorem dX9_lay_265 : decode cX9_lay 265 = .ok (.aload_n 0, 1) := by decide +kernel
theorem dX9_lay_266 : decode cX9_lay 266 = .ok (.getfield 25, 3) := by decide +kernel
theorem dX9_lay_269 : decode cX9_lay 269 = .ok (.iconst 0, 1) := by decide +kernel
theorem dX9_lay_270 : decode cX9_lay 270 = .ok (.iaload, 1) := by decide +kernel
theorem dX9_lay_271 : decode cX9_lay 271 = .ok (.ireturn, 1) := by decide +kernel
theorem dX9_isThing_0 : decode cX9_isThing 0 = .ok (.iload_n 1, 1) := by decide +kernel
theorem dX9_isThing_1 : decode cX9_isThing 1 = .ok (.i2l, 1) := by decide +kernel
theorem dX9_isThing_2 : decode cX9_isThing 2 = .ok (.lconst 0, 1) := by decide +kernel
theorem dX9_isThing_3 : decode cX9_isThing 3 = .ok (.aload_n 0, 1) := by decide +kernel
theorem dX9_isThing_4 : decode cX9_isThing 4 = .ok (.getfield 13, 3) := by decide +kernel
theorem dX9_isThing_7 : decode cX9_isThing 7 = .ok (.iconst 0, 1) := by decide +kernel
theorem dX9_isThing_8 : decode cX9_isThing 8 = .ok (.iaload, 1) := by decide +kernel
theorem dX9_isThing_9 : decode cX9_isThing 9 = .ok (.iconst 1, 1) := by decide +kernel
theorem dX9_isThing_10 : decode cX9_isThing 10 = .ok (.isub, 1) := by decide +kernel
theorem dX9_isThing_11 : decode cX9_isThing 11 = .ok (.i2l, 1) := by decide +kernel
theorem dX9_isThing_12 : decode cX9_isThing 12 = .ok (.invokestatic 102, 3) := by decide +kernel
theorem dX9_isThing_15 : decode cX9_isThing 15 = .ok (.ireturn, 1) := by decide +kernel
theorem dX9_isGift_0 : decode cX9_isGift 0 = .ok (.aload_n 0, 1) := by decide +kernel
theorem dX9_isGift_1 : decode cX9_isGift 1 = .ok (.iload_n 1, 1) := by decide +kernel
theorem dX9_isGift_2 : decode cX9_isGift 2 = .ok (.invokevirtual 165, 3) := by decide +kernel
theorem dX9_isGift_5 : decode cX9_isGift 5 = .ok (.ifCond .ne 9, 3) := by decide +kernel
theorem dX9_isGift_8 : decode cX9_isGift 8 = .ok (.iload_n 1, 1) := by decide +kernel
theorem dX9_isGift_9 : decode cX9_isGift 9 = .ok (.bipush 6, 2) := by decide +kernel
theorem dX9_isGift_11 : decode cX9_isGift 11 = .ok (.if_icmp .ne 7, 3) := by decide +kernel
theorem dX9_isGift_14 : decode cX9_isGift 14 = .ok (.iconst 1, 1) := by decide +kernel
theorem dX9_isGift_15 : decode cX9_isGift 15 = .ok (.goto 4, 3) := by decide +kernel
theorem dX9_isGift_18 : decode cX9_isGift 18 = .ok (.iconst 0, 1) := by decide +kernel
theorem dX9_isGift_19 : decode cX9_isGift 19 = .ok (.ireturn, 1) := by decide +kernel
theorem dX9_isWish_0 : decode cX9_isWish 0 = .ok (.iload_n 1, 1) := by decide +kernel
theorem dX9_isWish_1 : decode cX9_isWish 1 = .ok (.i2l, 1) := by decide +kernel
theorem dX9_isWish_2 : decode cX9_isWish 2 = .ok (.lconst 0, 1) := by decide +kernel
theorem dX9_isWish_3 : decode cX9_isWish 3 = .ok (.aload_n 0, 1) := by decide +kernel
theorem dX9_isWish_4 : decode cX9_isWish 4 = .ok (.getfield 25, 3) := by decide +kernel
theorem dX9_isWish_7 : decode cX9_isWish 7 = .ok (.iconst 0, 1) := by decide +kernel
theorem dX9_isWish_8 : decode cX9_isWish 8 = .ok (.iaload, 1) := by decide +kernel
theorem dX9_isWish_9 : decode cX9_isWish 9 = .ok (.iconst 1, 1) := by decide +kernel
theorem dX9_isWish_10 : decode cX9_isWish 10 = .ok (.isub, 1) := by decide +kernel
theorem dX9_isWish_11 : decode cX9_isWish 11 = .ok (.i2l, 1) := by decide +kernel
theorem dX9_isWish_12 : decode cX9_isWish 12 = .ok (.invokestatic 102, 3) := by decide +kernel
theorem dX9_isWish_15 : decode cX9_isWish 15 = .ok (.ireturn, 1) := by decide +kernel
theorem dX9_worth_0 : decode cX9_worth 0 = .ok (.aload_n 0, 1) := by decide +kernel
theorem dX9_worth_1 : decode cX9_worth 1 = .ok (.iload_n 1, 1) := by decide +kernel
theorem dX9_worth_2 : decode cX9_worth 2 = .ok (.invokevirtual 165, 3) := by decide +kernel
theorem dX9_worth_5 : decode cX9_worth 5 = .ok (.ifCond .eq 25, 3) := by decide +kernel
theorem dX9_worth_8 : decode cX9_worth 8 = .ok (.aload_n 0, 1) := by decide +kernel
theorem dX9_worth_9 : decode cX9_worth 9 = .ok (.iload_n 2, 1) := by decide +kernel
theorem dX9_worth_10 : decode cX9_worth 10 = .ok (.invokevirtual 168, 3) := by decide +kernel
theorem dX9_worth_13 : decode cX9_worth 13 = .ok (.ifCond .eq 17, 3) := by decide +kernel
theorem dX9_worth_16 : decode cX9_worth 16 = .ok (.aload_n 0, 1) := by decide +kernel
theorem dX9_worth_17 : decode cX9_worth 17 = .ok (.getfield 31, 3) := by decide +kernel
theorem dX9_worth_20 : decode cX9_worth 20 = .ok (.bipush 7, 2) := by decide +kernel
theorem dX9_worth_22 : decode cX9_worth 22 = .ok (.iload_n 1, 1) := by decide +kernel
theorem dX9_worth_23 : decode cX9_worth 23 = .ok (.imul, 1) := by decide +kernel
theorem dX9_worth_24 : decode cX9_worth 24 = .ok (.iload_n 2, 1) := by decide +kernel
theorem dX9_worth_25 : decode cX9_worth 25 = .ok (.iadd, 1) := by decide +kernel
theorem dX9_worth_26 : decode cX9_worth 26 = .ok (.iaload, 1) := by decide +kernel
theorem dX9_worth_27 : decode cX9_worth 27 = .ok (.goto 4, 3) := by decide +kernel
theorem dX9_worth_30 : decode cX9_worth 30 = .ok (.iconst (-1), 1) := by decide +kernel
theorem dX9_worth_31 : decode cX9_worth 31 = .ok (.ireturn, 1) := by decide +kernel
theorem dX9_beginRow_0 : decode cX9_beginRow 0 = .ok (.aload_n 0, 1) := by decide +kernel
theorem dX9_beginRow_1 : decode cX9_beginRow 1 = .ok (.aload_n 0, 1) := by decide +kernel
theorem dX9_beginRow_2 : decode cX9_beginRow 2 = .ok (.getfield 19, 3) := by decide +kernel
theorem dX9_beginRow_5 : decode cX9_beginRow 5 = .ok (.iconst 0, 1) := by decide +kernel
theorem dX9_beginRow_6 : decode cX9_beginRow 6 = .ok (.iaload, 1) := by decide +kernel
theorem dX9_beginRow_7 : decode cX9_beginRow 7 = .ok (.putfield 171, 3) := by decide +kernel
theorem dX9_beginRow_10 : decode cX9_beginRow 10 = .ok (.iconst 0, 1) := by decide +kernel
theorem dX9_beginRow_11 : decode cX9_beginRow 11 = .ok (.istore_n 1, 1) := by decide +kernel
theorem dX9_beginRow_12 : decode cX9_beginRow 12 = .ok (.iload_n 1, 1) := by decide +kernel
theorem dX9_beginRow_13 : decode cX9_beginRow 13 = .ok (.aload_n 0, 1) := by decide +kernel
theorem dX9_beginRow_14 : decode cX9_beginRow 14 = .ok (.getfield 171, 3) := by decide +kernel
theorem dX9_beginRow_17 : decode cX9_beginRow 17 = .ok (.if_icmp .ge 21, 3) := by decide +kernel
theorem dX9_beginRow_20 : decode cX9_beginRow 20 = .ok (.aload_n 0, 1) := by decide +kernel
theorem dX9_beginRow_21 : decode cX9_beginRow 21 = .ok (.getfield 58, 3) := by decide +kernel
theorem dX9_beginRow_24 : decode cX9_beginRow 24 = .ok (.iload_n 1, 1) := by decide +kernel
theorem dX9_beginRow_25 : decode cX9_beginRow 25 = .ok (.aload_n 0, 1) := by decide +kernel
theorem dX9_beginRow_26 : decode cX9_beginRow 26 = .ok (.getfield 22, 3) := by decide +kernel
theorem dX9_beginRow_29 : decode cX9_beginRow 29 = .ok (.iload_n 1, 1) := by decide +kernel
theorem dX9_beginRow_30 : decode cX9_beginRow 30 = .ok (.iaload, 1) := by decide +kernel
theorem dX9_beginRow_31 : decode cX9_beginRow 31 = .ok (.iastore, 1) := by decide +kernel
theorem dX9_beginRow_32 : decode cX9_beginRow 32 = .ok (.iinc 1 1, 3) := by decide +kernel
theorem dX9_beginRow_35 : decode cX9_beginRow 35 = .ok (.goto (-23), 3) := by decide +kernel
theorem dX9_beginRow_38 : decode cX9_beginRow 38 = .ok (.return_, 1) := by decide +kernel
theorem dX9_askNow_0 : decode cX9_askNow 0 = .ok (.aload_n 0, 1) := by decide +kernel
theorem dX9_askNow_1 : decode cX9_askNow 1 = .ok (.getfield 58, 3) := by decide +kernel
theorem dX9_askNow_4 : decode cX9_askNow 4 = .ok (.aload_n 0, 1) := by decide +kernel
theorem dX9_askNow_5 : decode cX9_askNow 5 = .ok (.getfield 171, 3) := by decide +kernel
theorem dX9_askNow_8 : decode cX9_askNow 8 = .ok (.iload_n 1, 1) := by decide +kernel
theorem dX9_askNow_9 : decode cX9_askNow 9 = .ok (.iastore, 1) := by decide +kernel
theorem dX9_askNow_10 : decode cX9_askNow 10 = .ok (.aload_n 0, 1) := by decide +kernel
theorem dX9_askNow_11 : decode cX9_askNow 11 = .ok (.dup, 1) := by decide +kernel
theorem dX9_askNow_12 : decode cX9_askNow 12 = .ok (.getfield 171, 3) := by decide +kernel
theorem dX9_askNow_15 : decode cX9_askNow 15 = .ok (.iconst 1, 1) := by decide +kernel
theorem dX9_askNow_16 : decode cX9_askNow 16 = .ok (.iadd, 1) := by decide +kernel
theorem dX9_askNow_17 : decode cX9_askNow 17 = .ok (.putfield 171, 3) := by decide +kernel
theorem dX9_askNow_20 : decode cX9_askNow 20 = .ok (.return_, 1) := by decide +kernel
theorem dX9_mostOf_0 : decode cX9_mostOf 0 = .ok (.iconst 0, 1) := by decide +kernel
theorem dX9_mostOf_1 : decode cX9_mostOf 1 = .ok (.istore_n 3, 1) := by decide +kernel
theorem dX9_mostOf_2 : decode cX9_mostOf 2 = .ok (.iload_n 3, 1) := by decide +kernel
theorem dX9_mostOf_3 : decode cX9_mostOf 3 = .ok (.bipush 6, 2) := by decide +kernel
theorem dX9_mostOf_5 : decode cX9_mostOf 5 = .ok (.if_icmp .ge 71, 3) := by decide +kernel
theorem dX9_mostOf_8 : decode cX9_mostOf 8 = .ok (.iconst 0, 1) := by decide +kernel
theorem dX9_mostOf_9 : decode cX9_mostOf 9 = .ok (.istore 4, 2) := by decide +kernel
theorem dX9_mostOf_11 : decode cX9_mostOf 11 = .ok (.aload_n 0, 1) := by decide +kernel
theorem dX9_mostOf_12 : decode cX9_mostOf 12 = .ok (.getfield 171, 3) := by decide +kernel
theorem dX9_mostOf_15 : decode cX9_mostOf 15 = .ok (.iconst 1, 1) := by decide +kernel
theorem dX9_mostOf_16 : decode cX9_mostOf 16 = .ok (.isub, 1) := by decide +kernel
theorem dX9_mostOf_17 : decode cX9_mostOf 17 = .ok (.istore 5, 2) := by decide +kernel
theorem dX9_mostOf_19 : decode cX9_mostOf 19 = .ok (.iload 5, 2) := by decide +kernel
theorem dX9_mostOf_21 : decode cX9_mostOf 21 = .ok (.ifCond .lt 41, 3) := by decide +kernel
theorem dX9_mostOf_24 : decode cX9_mostOf 24 = .ok (.iload 5, 2) := by decide +kernel
theorem dX9_mostOf_26 : decode cX9_mostOf 26 = .ok (.aload_n 0, 1) := by decide +kernel
theorem dX9_mostOf_27 : decode cX9_mostOf 27 = .ok (.getfield 171, 3) := by decide +kernel
theorem dX9_mostOf_30 : decode cX9_mostOf 30 = .ok (.iload_n 1, 1) := by decide +kernel
theorem dX9_mostOf_31 : decode cX9_mostOf 31 = .ok (.isub, 1) := by decide +kernel
theorem dX9_mostOf_32 : decode cX9_mostOf 32 = .ok (.if_icmp .lt 30, 3) := by decide +kernel
theorem dX9_mostOf_35 : decode cX9_mostOf 35 = .ok (.iload 4, 2) := by decide +kernel
theorem dX9_mostOf_37 : decode cX9_mostOf 37 = .ok (.aload_n 0, 1) := by decide +kernel
theorem dX9_mostOf_38 : decode cX9_mostOf 38 = .ok (.getfield 58, 3) := by decide +kernel
theorem dX9_mostOf_41 : decode cX9_mostOf 41 = .ok (.iload 5, 2) := by decide +kernel
theorem dX9_mostOf_43 : decode cX9_mostOf 43 = .ok (.iaload, 1) := by decide +kernel
theorem dX9_mostOf_44 : decode cX9_mostOf 44 = .ok (.iload_n 3, 1) := by decide +kernel
theorem dX9_mostOf_45 : decode cX9_mostOf 45 = .ok (.if_icmp .ne 7, 3) := by decide +kernel
theorem dX9_mostOf_48 : decode cX9_mostOf 48 = .ok (.iconst 1, 1) := by decide +kernel
theorem dX9_mostOf_49 : decode cX9_mostOf 49 = .ok (.goto 4, 3) := by decide +kernel
theorem dX9_mostOf_52 : decode cX9_mostOf 52 = .ok (.iconst 0, 1) := by decide +kernel
theorem dX9_mostOf_53 : decode cX9_mostOf 53 = .ok (.iadd, 1) := by decide +kernel
theorem dX9_mostOf_54 : decode cX9_mostOf 54 = .ok (.istore 4, 2) := by decide +kernel
theorem dX9_mostOf_56 : decode cX9_mostOf 56 = .ok (.iinc 5 (-1), 3) := by decide +kernel
theorem dX9_mostOf_59 : decode cX9_mostOf 59 = .ok (.goto (-40), 3) := by decide +kernel
theorem dX9_mostOf_62 : decode cX9_mostOf 62 = .ok (.iload 4, 2) := by decide +kernel
theorem dX9_mostOf_64 : decode cX9_mostOf 64 = .ok (.iload_n 2, 1) := by decide +kernel
theorem dX9_mostOf_65 : decode cX9_mostOf 65 = .ok (.if_icmp .lt 5, 3) := by decide +kernel
theorem dX9_mostOf_68 : decode cX9_mostOf 68 = .ok (.iload_n 3, 1) := by decide +kernel
theorem dX9_mostOf_69 : decode cX9_mostOf 69 = .ok (.ireturn, 1) := by decide +kernel
theorem dX9_mostOf_70 : decode cX9_mostOf 70 = .ok (.iinc 3 1, 3) := by decide +kernel
theorem dX9_mostOf_73 : decode cX9_mostOf 73 = .ok (.goto (-71), 3) := by decide +kernel
theorem dX9_mostOf_76 : decode cX9_mostOf 76 = .ok (.bipush 6, 2) := by decide +kernel
theorem dX9_mostOf_78 : decode cX9_mostOf 78 = .ok (.ireturn, 1) := by decide +kernel
theorem dX9_gives_0 : decode cX9_gives 0 = .ok (.iload_n 1, 1) := by decide +kernel
theorem dX9_gives_1 : decode cX9_gives 1 = .ok (.iconst 3, 1) := by decide +kernel
theorem dX9_gives_2 : decode cX9_gives 2 = .ok (.if_icmp .ne 28, 3) := by decide +kernel
theorem dX9_gives_5 : decode cX9_gives 5 = .ok (.aload_n 0, 1) := by decide +kernel
theorem dX9_gives_6 : decode cX9_gives 6 = .ok (.getfield 171, 3) := by decide +kernel
theorem dX9_gives_9 : decode cX9_gives 9 = .ok (.iconst 1, 1) := by decide +kernel
theorem dX9_gives_10 : decode cX9_gives 10 = .ok (.if_icmp .le 17, 3) := by decide +kernel
theorem dX9_gives_13 : decode cX9_gives 13 = .ok (.aload_n 0, 1) := by decide +kernel
theorem dX9_gives_14 : decode cX9_gives 14 = .ok (.getfield 58, 3) := by decide +kernel
theorem dX9_gives_17 : decode cX9_gives 17 = .ok (.aload_n 0, 1) := by decide +kernel
theorem dX9_gives_18 : decode cX9_gives 18 = .ok (.getfield 171, 3) := by decide +kernel
theorem dX9_gives_21 : decode cX9_gives 21 = .ok (.iconst 2, 1) := by decide +kernel
theorem dX9_gives_22 : decode cX9_gives 22 = .ok (.isub, 1) := by decide +kernel
theorem dX9_gives_23 : decode cX9_gives 23 = .ok (.iaload, 1) := by decide +kernel
theorem dX9_gives_24 : decode cX9_gives 24 = .ok (.goto 5, 3) := by decide +kernel
theorem dX9_gives_27 : decode cX9_gives 27 = .ok (.bipush 6, 2) := by decide +kernel
theorem dX9_gives_29 : decode cX9_gives 29 = .ok (.ireturn, 1) := by decide +kernel
theorem dX9_gives_30 : decode cX9_gives 30 = .ok (.iload_n 1, 1) := by decide +kernel
theorem dX9_gives_31 : decode cX9_gives 31 = .ok (.ifCond .ne 12, 3) := by decide +kernel
theorem dX9_gives_34 : decode cX9_gives 34 = .ok (.aload_n 0, 1) := by decide +kernel
theorem dX9_gives_35 : decode cX9_gives 35 = .ok (.iconst 3, 1) := by decide +kernel
theorem dX9_gives_36 : decode cX9_gives 36 = .ok (.iconst 2, 1) := by decide +kernel
theorem dX9_gives_37 : decode cX9_gives 37 = .ok (.invokevirtual 174, 3) := by decide +kernel
theorem dX9_gives_40 : decode cX9_gives 40 = .ok (.goto 24, 3) := by decide +kernel
theorem dX9_gives_43 : decode cX9_gives 43 = .ok (.iload_n 1, 1) := by decide +kernel
theorem dX9_gives_44 : decode cX9_gives 44 = .ok (.iconst 1, 1) := by decide +kernel
theorem dX9_gives_45 : decode cX9_gives 45 = .ok (.if_icmp .ne 12, 3) := by decide +kernel
theorem dX9_gives_48 : decode cX9_gives 48 = .ok (.aload_n 0, 1) := by decide +kernel
theorem dX9_gives_49 : decode cX9_gives 49 = .ok (.iconst 5, 1) := by decide +kernel
theorem dX9_gives_50 : decode cX9_gives 50 = .ok (.iconst 3, 1) := by decide +kernel
theorem dX9_gives_51 : decode cX9_gives 51 = .ok (.invokevirtual 174, 3) := by decide +kernel
theorem dX9_gives_54 : decode cX9_gives 54 = .ok (.goto 10, 3) := by decide +kernel
theorem dX9_gives_57 : decode cX9_gives 57 = .ok (.aload_n 0, 1) := by decide +kernel
theorem dX9_gives_58 : decode cX9_gives 58 = .ok (.bipush 7, 2) := by decide +kernel
theorem dX9_gives_60 : decode cX9_gives 60 = .ok (.iconst 4, 1) := by decide +kernel
theorem dX9_gives_61 : decode cX9_gives 61 = .ok (.invokevirtual 174, 3) := by decide +kernel
theorem dX9_gives_64 : decode cX9_gives 64 = .ok (.ireturn, 1) := by decide +kernel
theorem dX9_givenBy_0 : decode cX9_givenBy 0 = .ok (.aload_n 0, 1) := by decide +kernel
theorem dX9_givenBy_1 : decode cX9_givenBy 1 = .ok (.invokevirtual 178, 3) := by decide +kernel
theorem dX9_givenBy_4 : decode cX9_givenBy 4 = .ok (.iconst 0, 1) := by decide +kernel
theorem dX9_givenBy_5 : decode cX9_givenBy 5 = .ok (.istore_n 3, 1) := by decide +kernel
theorem dX9_givenBy_6 : decode cX9_givenBy 6 = .ok (.iload_n 3, 1) := by decide +kernel
theorem dX9_givenBy_7 : decode cX9_givenBy 7 = .ok (.iload_n 2, 1) := by decide +kernel
theorem dX9_givenBy_8 : decode cX9_givenBy 8 = .ok (.if_icmp .gt 19, 3) := by decide +kernel
theorem dX9_givenBy_11 : decode cX9_givenBy 11 = .ok (.aload_n 0, 1) := by decide +kernel
theorem dX9_givenBy_12 : decode cX9_givenBy 12 = .ok (.aload_n 0, 1) := by decide +kernel
theorem dX9_givenBy_13 : decode cX9_givenBy 13 = .ok (.getfield 28, 3) := by decide +kernel
theorem dX9_givenBy_16 : decode cX9_givenBy 16 = .ok (.iload_n 3, 1) := by decide +kernel
theorem dX9_givenBy_17 : decode cX9_givenBy 17 = .ok (.iaload, 1) := by decide +kernel
theorem dX9_givenBy_18 : decode cX9_givenBy 18 = .ok (.invokevirtual 181, 3) := by decide +kernel
theorem dX9_givenBy_21 : decode cX9_givenBy 21 = .ok (.iinc 3 1, 3) := by decide +kernel
theorem dX9_givenBy_24 : decode cX9_givenBy 24 = .ok (.goto (-18), 3) := by decide +kernel
theorem dX9_givenBy_27 : decode cX9_givenBy 27 = .ok (.aload_n 0, 1) := by decide +kernel
theorem dX9_givenBy_28 : decode cX9_givenBy 28 = .ok (.iload_n 1, 1) := by decide +kernel
theorem dX9_givenBy_29 : decode cX9_givenBy 29 = .ok (.invokevirtual 184, 3) := by decide +kernel
theorem dX9_givenBy_32 : decode cX9_givenBy 32 = .ok (.ireturn, 1) := by decide +kernel
theorem dX9_given_0 : decode cX9_given 0 = .ok (.aload_n 0, 1) := by decide +kernel
theorem dX9_given_1 : decode cX9_given 1 = .ok (.iload_n 1, 1) := by decide +kernel
theorem dX9_given_2 : decode cX9_given 2 = .ok (.invokevirtual 187, 3) := by decide +kernel
theorem dX9_given_5 : decode cX9_given 5 = .ok (.ifCond .eq 17, 3) := by decide +kernel
theorem dX9_given_8 : decode cX9_given 8 = .ok (.aload_n 0, 1) := by decide +kernel
theorem dX9_given_9 : decode cX9_given 9 = .ok (.aload_n 0, 1) := by decide +kernel
theorem dX9_given_10 : decode cX9_given 10 = .ok (.getfield 16, 3) := by decide +kernel
theorem dX9_given_13 : decode cX9_given 13 = .ok (.iconst 0, 1) := by decide +kernel
theorem dX9_given_14 : decode cX9_given 14 = .ok (.iaload, 1) := by decide +kernel
theorem dX9_given_15 : decode cX9_given 15 = .ok (.iload_n 1, 1) := by decide +kernel
theorem dX9_given_16 : decode cX9_given 16 = .ok (.invokevirtual 190, 3) := by decide +kernel
theorem dX9_given_19 : decode cX9_given 19 = .ok (.goto 4, 3) := by decide +kernel
theorem dX9_given_22 : decode cX9_given 22 = .ok (.iconst (-1), 1) := by decide +kernel
theorem dX9_given_23 : decode cX9_given 23 = .ok (.ireturn, 1) := by decide +kernel
theorem dX9_have_0 : decode cX9_have 0 = .ok (.iconst 0, 1) := by decide +kernel
theorem dX9_have_1 : decode cX9_have 1 = .ok (.istore_n 1, 1) := by decide +kernel
theorem dX9_have_2 : decode cX9_have 2 = .ok (.iconst 0, 1) := by decide +kernel
theorem dX9_have_3 : decode cX9_have 3 = .ok (.istore_n 2, 1) := by decide +kernel
theorem dX9_have_4 : decode cX9_have 4 = .ok (.iload_n 2, 1) := by decide +kernel
theorem dX9_have_5 : decode cX9_have 5 = .ok (.aload_n 0, 1) := by decide +kernel
theorem dX9_have_6 : decode cX9_have 6 = .ok (.getfield 25, 3) := by decide +kernel
theorem dX9_have_9 : decode cX9_have 9 = .ok (.iconst 0, 1) := by decide +kernel
theorem dX9_have_10 : decode cX9_have 10 = .ok (.iaload, 1) := by decide +kernel
theorem dX9_have_11 : decode cX9_have 11 = .ok (.if_icmp .ge 37, 3) := by decide +kernel
theorem dX9_have_14 : decode cX9_have 14 = .ok (.iload_n 1, 1) := by decide +kernel
theorem dX9_have_15 : decode cX9_have 15 = .ok (.aload_n 0, 1) := by decide +kernel
theorem dX9_have_16 : decode cX9_have 16 = .ok (.aload_n 0, 1) := by decide +kernel
theorem dX9_have_17 : decode cX9_have 17 = .ok (.getfield 16, 3) := by decide +kernel
theorem dX9_have_20 : decode cX9_have 20 = .ok (.iconst 0, 1) := by decide +kernel
theorem dX9_have_21 : decode cX9_have 21 = .ok (.iaload, 1) := by decide +kernel
theorem dX9_have_22 : decode cX9_have 22 = .ok (.iload_n 2, 1) := by decide +kernel
theorem dX9_have_23 : decode cX9_have 23 = .ok (.invokevirtual 190, 3) := by decide +kernel
theorem dX9_have_26 : decode cX9_have 26 = .ok (.aload_n 0, 1) := by decide +kernel
theorem dX9_have_27 : decode cX9_have 27 = .ok (.getfield 28, 3) := by decide +kernel
theorem dX9_have_30 : decode cX9_have 30 = .ok (.iload_n 2, 1) := by decide +kernel
theorem dX9_have_31 : decode cX9_have 31 = .ok (.iaload, 1) := by decide +kernel
theorem dX9_have_32 : decode cX9_have 32 = .ok (.if_icmp .ne 7, 3) := by decide +kernel
theorem dX9_have_35 : decode cX9_have 35 = .ok (.iconst 1, 1) := by decide +kernel
theorem dX9_have_36 : decode cX9_have 36 = .ok (.goto 4, 3) := by decide +kernel
theorem dX9_have_39 : decode cX9_have 39 = .ok (.iconst 0, 1) := by decide +kernel
theorem dX9_have_40 : decode cX9_have 40 = .ok (.iadd, 1) := by decide +kernel
theorem dX9_have_41 : decode cX9_have 41 = .ok (.istore_n 1, 1) := by decide +kernel
theorem dX9_have_42 : decode cX9_have 42 = .ok (.iinc 2 1, 3) := by decide +kernel
theorem dX9_have_45 : decode cX9_have 45 = .ok (.goto (-41), 3) := by decide +kernel
theorem dX9_have_48 : decode cX9_have 48 = .ok (.iload_n 1, 1) := by decide +kernel
theorem dX9_have_49 : decode cX9_have 49 = .ok (.ireturn, 1) := by decide +kernel
theorem dX9_other_0 : decode cX9_other 0 = .ok (.iload_n 1, 1) := by decide +kernel
theorem dX9_other_1 : decode cX9_other 1 = .ok (.i2l, 1) := by decide +kernel
theorem dX9_other_2 : decode cX9_other 2 = .ok (.lconst 0, 1) := by decide +kernel
theorem dX9_other_3 : decode cX9_other 3 = .ok (.ldc2_w 123, 3) := by decide +kernel
theorem dX9_other_6 : decode cX9_other 6 = .ok (.invokestatic 102, 3) := by decide +kernel
theorem dX9_other_9 : decode cX9_other 9 = .ok (.ifCond .ne 5, 3) := by decide +kernel
theorem dX9_other_12 : decode cX9_other 12 = .ok (.iconst (-1), 1) := by decide +kernel
theorem dX9_other_13 : decode cX9_other 13 = .ok (.ireturn, 1) := by decide +kernel
theorem dX9_other_14 : decode cX9_other 14 = .ok (.iconst 0, 1) := by decide +kernel
theorem dX9_other_15 : decode cX9_other 15 = .ok (.istore_n 2, 1) := by decide +kernel
theorem dX9_other_16 : decode cX9_other 16 = .ok (.iconst 0, 1) := by decide +kernel
theorem dX9_other_17 : decode cX9_other 17 = .ok (.istore_n 3, 1) := by decide +kernel
theorem dX9_other_18 : decode cX9_other 18 = .ok (.iload_n 3, 1) := by decide +kernel
theorem dX9_other_19 : decode cX9_other 19 = .ok (.aload_n 0, 1) := by decide +kernel
theorem dX9_other_20 : decode cX9_other 20 = .ok (.getfield 25, 3) := by decide +kernel
theorem dX9_other_23 : decode cX9_other 23 = .ok (.iconst 0, 1) := by decide +kernel
theorem dX9_other_24 : decode cX9_other 24 = .ok (.iaload, 1) := by decide +kernel
theorem dX9_other_25 : decode cX9_other 25 = .ok (.if_icmp .ge 37, 3) := by decide +kernel
theorem dX9_other_28 : decode cX9_other 28 = .ok (.iload_n 2, 1) := by decide +kernel
theorem dX9_other_29 : decode cX9_other 29 = .ok (.aload_n 0, 1) := by decide +kernel
theorem dX9_other_30 : decode cX9_other 30 = .ok (.aload_n 0, 1) := by decide +kernel
theorem dX9_other_31 : decode cX9_other 31 = .ok (.getfield 16, 3) := by decide +kernel
theorem dX9_other_34 : decode cX9_other 34 = .ok (.iconst 0, 1) := by decide +kernel
theorem dX9_other_35 : decode cX9_other 35 = .ok (.iaload, 1) := by decide +kernel
theorem dX9_other_36 : decode cX9_other 36 = .ok (.iload_n 3, 1) := by decide +kernel
theorem dX9_other_37 : decode cX9_other 37 = .ok (.invokevirtual 190, 3) := by decide +kernel
theorem dX9_other_40 : decode cX9_other 40 = .ok (.aload_n 0, 1) := by decide +kernel
theorem dX9_other_41 : decode cX9_other 41 = .ok (.iload_n 1, 1) := by decide +kernel
theorem dX9_other_42 : decode cX9_other 42 = .ok (.iload_n 3, 1) := by decide +kernel
theorem dX9_other_43 : decode cX9_other 43 = .ok (.invokevirtual 190, 3) := by decide +kernel
theorem dX9_other_46 : decode cX9_other 46 = .ok (.if_icmp .eq 7, 3) := by decide +kernel
theorem dX9_other_49 : decode cX9_other 49 = .ok (.iconst 1, 1) := by decide +kernel
theorem dX9_other_50 : decode cX9_other 50 = .ok (.goto 4, 3) := by decide +kernel
theorem dX9_other_53 : decode cX9_other 53 = .ok (.iconst 0, 1) := by decide +kernel
theorem dX9_other_54 : decode cX9_other 54 = .ok (.iadd, 1) := by decide +kernel
theorem dX9_other_55 : decode cX9_other 55 = .ok (.istore_n 2, 1) := by decide +kernel
theorem dX9_other_56 : decode cX9_other 56 = .ok (.iinc 3 1, 3) := by decide +kernel
theorem dX9_other_59 : decode cX9_other 59 = .ok (.goto (-41), 3) := by decide +kernel
theorem dX9_other_62 : decode cX9_other 62 = .ok (.iload_n 2, 1) := by decide +kernel
theorem dX9_other_63 : decode cX9_other 63 = .ok (.ireturn, 1) := by decide +kernel
theorem dX9_isShort_0 : decode cX9_isShort 0 = .ok (.aload_n 0, 1) := by decide +kernel
theorem dX9_isShort_1 : decode cX9_isShort 1 = .ok (.getfield 16, 3) := by decide +kernel
theorem dX9_isShort_4 : decode cX9_isShort 4 = .ok (.iconst 0, 1) := by decide +kernel
theorem dX9_isShort_5 : decode cX9_isShort 5 = .ok (.iaload, 1) := by decide +kernel
theorem dX9_isShort_6 : decode cX9_isShort 6 = .ok (.ifCond .eq 13, 3) := by decide +kernel
theorem dX9_isShort_9 : decode cX9_isShort 9 = .ok (.aload_n 0, 1) := by decide +kernel
theorem dX9_isShort_10 : decode cX9_isShort 10 = .ok (.getfield 16, 3) := by decide +kernel
theorem dX9_isShort_13 : decode cX9_isShort 13 = .ok (.iconst 0, 1) := by decide +kernel
theorem dX9_isShort_14 : decode cX9_isShort 14 = .ok (.iaload, 1) := by decide +kernel
theorem dX9_isShort_15 : decode cX9_isShort 15 = .ok (.iconst 3, 1) := by decide +kernel
theorem dX9_isShort_16 : decode cX9_isShort 16 = .ok (.if_icmp .ne 7, 3) := by decide +kernel
theorem dX9_isShort_19 : decode cX9_isShort 19 = .ok (.iconst 1, 1) := by decide +kernel
theorem dX9_isShort_20 : decode cX9_isShort 20 = .ok (.goto 4, 3) := by decide +kernel
theorem dX9_isShort_23 : decode cX9_isShort 23 = .ok (.iconst 0, 1) := by decide +kernel
theorem dX9_isShort_24 : decode cX9_isShort 24 = .ok (.ireturn, 1) := by decide +kernel
theorem dX9_three_0 : decode cX9_three 0 = .ok (.iload_n 2, 1) := by decide +kernel
theorem dX9_three_1 : decode cX9_three 1 = .ok (.bipush 6, 2) := by decide +kernel
theorem dX9_three_3 : decode cX9_three 3 = .ok (.if_icmp .ge 17, 3) := by decide +kernel
theorem dX9_three_6 : decode cX9_three 6 = .ok (.iload_n 2, 1) := by decide +kernel
theorem dX9_three_7 : decode cX9_three 7 = .ok (.iload_n 0, 1) := by decide +kernel
theorem dX9_three_8 : decode cX9_three 8 = .ok (.if_icmp .eq 8, 3) := by decide +kernel
theorem dX9_three_11 : decode cX9_three 11 = .ok (.iload_n 2, 1) := by decide +kernel
theorem dX9_three_12 : decode cX9_three 12 = .ok (.iload_n 1, 1) := by decide +kernel
theorem dX9_three_13 : decode cX9_three 13 = .ok (.if_icmp .ne 7, 3) := by decide +kernel
theorem dX9_three_16 : decode cX9_three 16 = .ok (.iload_n 2, 1) := by decide +kernel
theorem dX9_three_17 : decode cX9_three 17 = .ok (.goto 20, 3) := by decide +kernel
theorem dX9_three_20 : decode cX9_three 20 = .ok (.iload_n 0, 1) := by decide +kernel
theorem dX9_three_21 : decode cX9_three 21 = .ok (.bipush 6, 2) := by decide +kernel
theorem dX9_three_23 : decode cX9_three 23 = .ok (.if_icmp .ge 12, 3) := by decide +kernel
theorem dX9_three_26 : decode cX9_three 26 = .ok (.iload_n 0, 1) := by decide +kernel
theorem dX9_three_27 : decode cX9_three 27 = .ok (.iload_n 1, 1) := by decide +kernel
theorem dX9_three_28 : decode cX9_three 28 = .ok (.if_icmp .ne 7, 3) := by decide +kernel
theorem dX9_three_31 : decode cX9_three 31 = .ok (.iload_n 0, 1) := by decide +kernel
theorem dX9_three_32 : decode cX9_three 32 = .ok (.goto 5, 3) := by decide +kernel
theorem dX9_three_35 : decode cX9_three 35 = .ok (.bipush 6, 2) := by decide +kernel
theorem dX9_three_37 : decode cX9_three 37 = .ok (.ireturn, 1) := by decide +kernel
theorem dX9_shortly_0 : decode cX9_shortly 0 = .ok (.aload_n 0, 1) := by decide +kernel
theorem dX9_shortly_1 : decode cX9_shortly 1 = .ok (.getfield 16, 3) := by decide +kernel
theorem dX9_shortly_4 : decode cX9_shortly 4 = .ok (.iconst 0, 1) := by decide +kernel
theorem dX9_shortly_5 : decode cX9_shortly 5 = .ok (.iaload, 1) := by decide +kernel
theorem dX9_shortly_6 : decode cX9_shortly 6 = .ok (.ifCond .ne 12, 3) := by decide +kernel
theorem dX9_shortly_9 : decode cX9_shortly 9 = .ok (.iload_n 1, 1) := by decide +kernel
theorem dX9_shortly_10 : decode cX9_shortly 10 = .ok (.iload_n 2, 1) := by decide +kernel
theorem dX9_shortly_11 : decode cX9_shortly 11 = .ok (.iload_n 3, 1) := by decide +kernel
theorem dX9_shortly_12 : decode cX9_shortly 12 = .ok (.invokestatic 193, 3) := by decide +kernel
theorem dX9_shortly_15 : decode cX9_shortly 15 = .ok (.goto 15, 3) := by decide +kernel
theorem dX9_shortly_18 : decode cX9_shortly 18 = .ok (.iload_n 2, 1) := by decide +kernel
theorem dX9_shortly_19 : decode cX9_shortly 19 = .ok (.bipush 7, 2) := by decide +kernel
theorem dX9_shortly_21 : decode cX9_shortly 21 = .ok (.if_icmp .ne 8, 3) := by decide +kernel
theorem dX9_shortly_24 : decode cX9_shortly 24 = .ok (.bipush 6, 2) := by decide +kernel
theorem dX9_shortly_26 : decode cX9_shortly 26 = .ok (.goto 4, 3) := by decide +kernel
theorem dX9_shortly_29 : decode cX9_shortly 29 = .ok (.iload_n 2, 1) := by decide +kernel
theorem dX9_shortly_30 : decode cX9_shortly 30 = .ok (.ireturn, 1) := by decide +kernel
theorem dX9_lastBut_0 : decode cX9_lastBut 0 = .ok (.aload_n 0, 1) := by decide +kernel
theorem dX9_lastBut_1 : decode cX9_lastBut 1 = .ok (.getfield 19, 3) := by decide +kernel
theorem dX9_lastBut_4 : decode cX9_lastBut 4 = .ok (.iconst 0, 1) := by decide +kernel
theorem dX9_lastBut_5 : decode cX9_lastBut 5 = .ok (.iaload, 1) := by decide +kernel
theorem dX9_lastBut_6 : decode cX9_lastBut 6 = .ok (.iload_n 1, 1) := by decide +kernel
theorem dX9_lastBut_7 : decode cX9_lastBut 7 = .ok (.if_icmp .le 21, 3) := by decide +kernel
theorem dX9_lastBut_10 : decode cX9_lastBut 10 = .ok (.aload_n 0, 1) := by decide +kernel
theorem dX9_lastBut_11 : decode cX9_lastBut 11 = .ok (.getfield 22, 3) := by decide +kernel
theorem dX9_lastBut_14 : decode cX9_lastBut 14 = .ok (.aload_n 0, 1) := by decide +kernel
theorem dX9_lastBut_15 : decode cX9_lastBut 15 = .ok (.getfield 19, 3) := by decide +kernel
theorem dX9_lastBut_18 : decode cX9_lastBut 18 = .ok (.iconst 0, 1) := by decide +kernel
theorem dX9_lastBut_19 : decode cX9_lastBut 19 = .ok (.iaload, 1) := by decide +kernel
theorem dX9_lastBut_20 : decode cX9_lastBut 20 = .ok (.iconst 1, 1) := by decide +kernel
theorem dX9_lastBut_21 : decode cX9_lastBut 21 = .ok (.isub, 1) := by decide +kernel
theorem dX9_lastBut_22 : decode cX9_lastBut 22 = .ok (.iload_n 1, 1) := by decide +kernel
theorem dX9_lastBut_23 : decode cX9_lastBut 23 = .ok (.isub, 1) := by decide +kernel
theorem dX9_lastBut_24 : decode cX9_lastBut 24 = .ok (.iaload, 1) := by decide +kernel
theorem dX9_lastBut_25 : decode cX9_lastBut 25 = .ok (.goto 5, 3) := by decide +kernel
theorem dX9_lastBut_28 : decode cX9_lastBut 28 = .ok (.bipush 7, 2) := by decide +kernel
theorem dX9_lastBut_30 : decode cX9_lastBut 30 = .ok (.ireturn, 1) := by decide +kernel
theorem dX9_isQueue_0 : decode cX9_isQueue 0 = .ok (.iload_n 1, 1) := by decide +kernel
theorem dX9_isQueue_1 : decode cX9_isQueue 1 = .ok (.i2l, 1) := by decide +kernel
theorem dX9_isQueue_2 : decode cX9_isQueue 2 = .ok (.lconst 0, 1) := by decide +kernel
theorem dX9_isQueue_3 : decode cX9_isQueue 3 = .ok (.iconst 1, 1) := by decide +kernel
theorem dX9_isQueue_4 : decode cX9_isQueue 4 = .ok (.aload_n 0, 1) := by decide +kernel
theorem dX9_isQueue_5 : decode cX9_isQueue 5 = .ok (.getfield 25, 3) := by decide +kernel
theorem dX9_isQueue_8 : decode cX9_isQueue 8 = .ok (.iconst 0, 1) := by decide +kernel
theorem dX9_isQueue_9 : decode cX9_isQueue 9 = .ok (.iaload, 1) := by decide +kernel
theorem dX9_isQueue_10 : decode cX9_isQueue 10 = .ok (.ishl, 1) := by decide +kernel
theorem dX9_isQueue_11 : decode cX9_isQueue 11 = .ok (.iconst 1, 1) := by decide +kernel
theorem dX9_isQueue_12 : decode cX9_isQueue 12 = .ok (.isub, 1) := by decide +kernel
theorem dX9_isQueue_13 : decode cX9_isQueue 13 = .ok (.i2l, 1) := by decide +kernel
theorem dX9_isQueue_14 : decode cX9_isQueue 14 = .ok (.invokestatic 102, 3) := by decide +kernel
theorem dX9_isQueue_17 : decode cX9_isQueue 17 = .ok (.ireturn, 1) := by decide +kernel
theorem dX9_spot_0 : decode cX9_spot 0 = .ok (.bipush 64, 2) := by decide +kernel
theorem dX9_spot_2 : decode cX9_spot 2 = .ok (.iload_n 0, 1) := by decide +kernel
theorem dX9_spot_3 : decode cX9_spot 3 = .ok (.imul, 1) := by decide +kernel
theorem dX9_spot_4 : decode cX9_spot 4 = .ok (.bipush 8, 2) := by decide +kernel
theorem dX9_spot_6 : decode cX9_spot 6 = .ok (.iload_n 1, 1) := by decide +kernel
theorem dX9_spot_7 : decode cX9_spot 7 = .ok (.imul, 1) := by decide +kernel
theorem dX9_spot_8 : decode cX9_spot 8 = .ok (.iadd, 1) := by decide +kernel
theorem dX9_spot_9 : decode cX9_spot 9 = .ok (.iload_n 2, 1) := by decide +kernel
theorem dX9_spot_10 : decode cX9_spot 10 = .ok (.iadd, 1) := by decide +kernel
theorem dX9_spot_11 : decode cX9_spot 11 = .ok (.ireturn, 1) := by decide +kernel
theorem dX9_bring_0 : decode cX9_bring 0 = .ok (.aload_n 0, 1) := by decide +kernel
theorem dX9_bring_1 : decode cX9_bring 1 = .ok (.getfield 28, 3) := by decide +kernel
theorem dX9_bring_4 : decode cX9_bring 4 = .ok (.iload 5, 2) := by decide +kernel
theorem dX9_bring_6 : decode cX9_bring 6 = .ok (.iaload, 1) := by decide +kernel
theorem dX9_bring_7 : decode cX9_bring 7 = .ok (.istore 6, 2) := by decide +kernel
theorem dX9_bring_9 : decode cX9_bring 9 = .ok (.aload_n 0, 1) := by decide +kernel
theorem dX9_bring_10 : decode cX9_bring 10 = .ok (.iload_n 3, 1) := by decide +kernel
theorem dX9_bring_11 : decode cX9_bring 11 = .ok (.iload 4, 2) := by decide +kernel
theorem dX9_bring_13 : decode cX9_bring 13 = .ok (.iload 6, 2) := by decide +kernel
theorem dX9_bring_15 : decode cX9_bring 15 = .ok (.invokevirtual 197, 3) := by decide +kernel
theorem dX9_bring_18 : decode cX9_bring 18 = .ok (.iload 6, 2) := by decide +kernel
theorem dX9_bring_20 : decode cX9_bring 20 = .ok (.if_icmp .ne 7, 3) := by decide +kernel
theorem dX9_bring_23 : decode cX9_bring 23 = .ok (.iconst 1, 1) := by decide +kernel
theorem dX9_bring_24 : decode cX9_bring 24 = .ok (.goto 4, 3) := by decide +kernel
theorem dX9_bring_27 : decode cX9_bring 27 = .ok (.iconst 0, 1) := by decide +kernel
theorem dX9_bring_28 : decode cX9_bring 28 = .ok (.istore 7, 2) := by decide +kernel
theorem dX9_bring_30 : decode cX9_bring 30 = .ok (.aload_n 0, 1) := by decide +kernel
theorem dX9_bring_31 : decode cX9_bring 31 = .ok (.getfield 62, 3) := by decide +kernel
theorem dX9_bring_34 : decode cX9_bring 34 = .ok (.iload_n 2, 1) := by decide +kernel
theorem dX9_bring_35 : decode cX9_bring 35 = .ok (.iconst 1, 1) := by decide +kernel
theorem dX9_bring_36 : decode cX9_bring 36 = .ok (.iload 5, 2) := by decide +kernel
theorem dX9_bring_38 : decode cX9_bring 38 = .ok (.ishl, 1) := by decide +kernel
theorem dX9_bring_39 : decode cX9_bring 39 = .ok (.ior, 1) := by decide +kernel
theorem dX9_bring_40 : decode cX9_bring 40 = .ok (.iload 4, 2) := by decide +kernel
theorem dX9_bring_42 : decode cX9_bring 42 = .ok (.iload 6, 2) := by decide +kernel
theorem dX9_bring_44 : decode cX9_bring 44 = .ok (.invokestatic 200, 3) := by decide +kernel
theorem dX9_bring_47 : decode cX9_bring 47 = .ok (.iaload, 1) := by decide +kernel
theorem dX9_bring_48 : decode cX9_bring 48 = .ok (.istore 8, 2) := by decide +kernel
theorem dX9_bring_50 : decode cX9_bring 50 = .ok (.iload 8, 2) := by decide +kernel
theorem dX9_bring_52 : decode cX9_bring 52 = .ok (.ifCond .lt 17, 3) := by decide +kernel
theorem dX9_bring_55 : decode cX9_bring 55 = .ok (.iload_n 1, 1) := by decide +kernel
theorem dX9_bring_56 : decode cX9_bring 56 = .ok (.iload 5, 2) := by decide +kernel
theorem dX9_bring_58 : decode cX9_bring 58 = .ok (.invokestatic 203, 3) := by decide +kernel
theorem dX9_bring_61 : decode cX9_bring 61 = .ok (.ifCond .eq 13, 3) := by decide +kernel
theorem dX9_bring_64 : decode cX9_bring 64 = .ok (.iload 7, 2) := by decide +kernel
theorem dX9_bring_66 : decode cX9_bring 66 = .ok (.ifCond .ne 8, 3) := by decide +kernel
theorem dX9_bring_69 : decode cX9_bring 69 = .ok (.bipush (-4), 2) := by decide +kernel
theorem dX9_bring_71 : decode cX9_bring 71 = .ok (.goto 16, 3) := by decide +kernel
theorem dX9_bring_74 : decode cX9_bring 74 = .ok (.iload 8, 2) := by decide +kernel
theorem dX9_bring_76 : decode cX9_bring 76 = .ok (.iload 7, 2) := by decide +kernel
theorem dX9_bring_78 : decode cX9_bring 78 = .ok (.ifCond .eq 7, 3) := by decide +kernel
theorem dX9_bring_81 : decode cX9_bring 81 = .ok (.iconst 1, 1) := by decide +kernel
theorem dX9_bring_82 : decode cX9_bring 82 = .ok (.goto 4, 3) := by decide +kernel
theorem dX9_bring_85 : decode cX9_bring 85 = .ok (.iconst 0, 1) := by decide +kernel
theorem dX9_bring_86 : decode cX9_bring 86 = .ok (.iadd, 1) := by decide +kernel
theorem dX9_bring_87 : decode cX9_bring 87 = .ok (.ireturn, 1) := by decide +kernel
theorem dX9_layOrders_0 : decode cX9_layOrders 0 = .ok (.iconst 1, 1) := by decide +kernel
theorem dX9_layOrders_1 : decode cX9_layOrders 1 = .ok (.aload_n 0, 1) := by decide +kernel
theorem dX9_layOrders_2 : decode cX9_layOrders 2 = .ok (.getfield 25, 3) := by decide +kernel
theorem dX9_layOrders_5 : decode cX9_layOrders 5 = .ok (.iconst 0, 1) := by decide +kernel
theorem dX9_layOrders_6 : decode cX9_layOrders 6 = .ok (.iaload, 1) := by decide +kernel
theorem dX9_layOrders_7 : decode cX9_layOrders 7 = .ok (.ishl, 1) := by decide +kernel
theorem dX9_layOrders_8 : decode cX9_layOrders 8 = .ok (.iconst 1, 1) := by decide +kernel
theorem dX9_layOrders_9 : decode cX9_layOrders 9 = .ok (.isub, 1) := by decide +kernel
theorem dX9_layOrders_10 : decode cX9_layOrders 10 = .ok (.istore_n 2, 1) := by decide +kernel
theorem dX9_layOrders_11 : decode cX9_layOrders 11 = .ok (.iload_n 2, 1) := by decide +kernel
theorem dX9_layOrders_12 : decode cX9_layOrders 12 = .ok (.istore_n 3, 1) := by decide +kernel
theorem dX9_layOrders_13 : decode cX9_layOrders 13 = .ok (.iload_n 3, 1) := by decide +kernel
theorem dX9_layOrders_14 : decode cX9_layOrders 14 = .ok (.ifCond .lt 133, 3) := by decide +kernel
theorem dX9_layOrders_17 : decode cX9_layOrders 17 = .ok (.iconst 0, 1) := by decide +kernel
theorem dX9_layOrders_18 : decode cX9_layOrders 18 = .ok (.istore 4, 2) := by decide +kernel
theorem dX9_layOrders_20 : decode cX9_layOrders 20 = .ok (.iload 4, 2) := by decide +kernel
theorem dX9_layOrders_22 : decode cX9_layOrders 22 = .ok (.bipush 8, 2) := by decide +kernel
theorem dX9_layOrders_24 : decode cX9_layOrders 24 = .ok (.if_icmp .ge 117, 3) := by decide +kernel
theorem dX9_layOrders_27 : decode cX9_layOrders 27 = .ok (.iconst 0, 1) := by decide +kernel
theorem dX9_layOrders_28 : decode cX9_layOrders 28 = .ok (.istore 5, 2) := by decide +kernel
theorem dX9_layOrders_30 : decode cX9_layOrders 30 = .ok (.iload 5, 2) := by decide +kernel
theorem dX9_layOrders_32 : decode cX9_layOrders 32 = .ok (.bipush 8, 2) := by decide +kernel
theorem dX9_layOrders_34 : decode cX9_layOrders 34 = .ok (.if_icmp .ge 101, 3) := by decide +kernel
theorem dX9_layOrders_37 : decode cX9_layOrders 37 = .ok (.iload_n 3, 1) := by decide +kernel
theorem dX9_layOrders_38 : decode cX9_layOrders 38 = .ok (.iload_n 2, 1) := by decide +kernel
theorem dX9_layOrders_39 : decode cX9_layOrders 39 = .ok (.if_icmp .ne 7, 3) := by decide +kernel
theorem dX9_layOrders_42 : decode cX9_layOrders 42 = .ok (.iconst 0, 1) := by decide +kernel
theorem dX9_layOrders_43 : decode cX9_layOrders 43 = .ok (.goto 5, 3) := by decide +kernel
theorem dX9_layOrders_46 : decode cX9_layOrders 46 = .ok (.bipush (-4), 2) := by decide +kernel
theorem dX9_layOrders_48 : decode cX9_layOrders 48 = .ok (.istore 6, 2) := by decide +kernel
theorem dX9_layOrders_50 : decode cX9_layOrders 50 = .ok (.iconst 0, 1) := by decide +kernel
theorem dX9_layOrders_51 : decode cX9_layOrders 51 = .ok (.istore 7, 2) := by decide +kernel
theorem dX9_layOrders_53 : decode cX9_layOrders 53 = .ok (.iload 7, 2) := by decide +kernel
theorem dX9_layOrders_55 : decode cX9_layOrders 55 = .ok (.aload_n 0, 1) := by decide +kernel
theorem dX9_layOrders_56 : decode cX9_layOrders 56 = .ok (.getfield 25, 3) := by decide +kernel
theorem dX9_layOrders_59 : decode cX9_layOrders 59 = .ok (.iconst 0, 1) := by decide +kernel
theorem dX9_layOrders_60 : decode cX9_layOrders 60 = .ok (.iaload, 1) := by decide +kernel
theorem dX9_layOrders_61 : decode cX9_layOrders 61 = .ok (.if_icmp .ge 53, 3) := by decide +kernel
theorem dX9_layOrders_64 : decode cX9_layOrders 64 = .ok (.iload_n 3, 1) := by decide +kernel
theorem dX9_layOrders_65 : decode cX9_layOrders 65 = .ok (.iload 7, 2) := by decide +kernel
theorem dX9_layOrders_67 : decode cX9_layOrders 67 = .ok (.invokestatic 203, 3) := by decide +kernel
theorem dX9_layOrders_70 : decode cX9_layOrders 70 = .ok (.ifCond .eq 8, 3) := by decide +kernel
theorem dX9_layOrders_73 : decode cX9_layOrders 73 = .ok (.bipush (-4), 2) := by decide +kernel
theorem dX9_layOrders_75 : decode cX9_layOrders 75 = .ok (.goto 15, 3) := by decide +kernel
theorem dX9_layOrders_78 : decode cX9_layOrders 78 = .ok (.aload_n 0, 1) := by decide +kernel
theorem dX9_layOrders_79 : decode cX9_layOrders 79 = .ok (.iload_n 1, 1) := by decide +kernel
theorem dX9_layOrders_80 : decode cX9_layOrders 80 = .ok (.iload_n 3, 1) := by decide +kernel
theorem dX9_layOrders_81 : decode cX9_layOrders 81 = .ok (.iload 4, 2) := by decide +kernel
theorem dX9_layOrders_83 : decode cX9_layOrders 83 = .ok (.iload 5, 2) := by decide +kernel
theorem dX9_layOrders_85 : decode cX9_layOrders 85 = .ok (.iload 7, 2) := by decide +kernel
theorem dX9_layOrders_87 : decode cX9_layOrders 87 = .ok (.invokevirtual 207, 3) := by decide +kernel
theorem dX9_layOrders_90 : decode cX9_layOrders 90 = .ok (.istore 8, 2) := by decide +kernel
theorem dX9_layOrders_92 : decode cX9_layOrders 92 = .ok (.iload 8, 2) := by decide +kernel
theorem dX9_layOrders_94 : decode cX9_layOrders 94 = .ok (.iload 6, 2) := by decide +kernel
theorem dX9_layOrders_96 : decode cX9_layOrders 96 = .ok (.if_icmp .le 8, 3) := by decide +kernel
theorem dX9_layOrders_99 : decode cX9_layOrders 99 = .ok (.iload 8, 2) := by decide +kernel
theorem dX9_layOrders_101 : decode cX9_layOrders 101 = .ok (.goto 5, 3) := by decide +kernel
theorem dX9_layOrders_104 : decode cX9_layOrders 104 = .ok (.iload 6, 2) := by decide +kernel
theorem dX9_layOrders_106 : decode cX9_layOrders 106 = .ok (.istore 6, 2) := by decide +kernel
theorem dX9_layOrders_108 : decode cX9_layOrders 108 = .ok (.iinc 7 1, 3) := by decide +kernel
theorem dX9_layOrders_111 : decode cX9_layOrders 111 = .ok (.goto (-58), 3) := by decide +kernel
theorem dX9_layOrders_114 : decode cX9_layOrders 114 = .ok (.aload_n 0, 1) := by decide +kernel
theorem dX9_layOrders_115 : decode cX9_layOrders 115 = .ok (.getfield 62, 3) := by decide +kernel
theorem dX9_layOrders_118 : decode cX9_layOrders 118 = .ok (.iload_n 3, 1) := by decide +kernel
theorem dX9_layOrders_119 : decode cX9_layOrders 119 = .ok (.iload 4, 2) := by decide +kernel
theorem dX9_layOrders_121 : decode cX9_layOrders 121 = .ok (.iload 5, 2) := by decide +kernel
theorem dX9_layOrders_123 : decode cX9_layOrders 123 = .ok (.invokestatic 200, 3) := by decide +kernel
theorem dX9_layOrders_126 : decode cX9_layOrders 126 = .ok (.iload 6, 2) := by decide +kernel
theorem dX9_layOrders_128 : decode cX9_layOrders 128 = .ok (.iastore, 1) := by decide +kernel
theorem dX9_layOrders_129 : decode cX9_layOrders 129 = .ok (.iinc 5 1, 3) := by decide +kernel
theorem dX9_layOrders_132 : decode cX9_layOrders 132 = .ok (.goto (-102), 3) := by decide +kernel
theorem dX9_layOrders_135 : decode cX9_layOrders 135 = .ok (.iinc 4 1, 3) := by decide +kernel
theorem dX9_layOrders_138 : decode cX9_layOrders 138 = .ok (.goto (-118), 3) := by decide +kernel
theorem dX9_layOrders_141 : decode cX9_layOrders 141 = .ok (.iinc 3 (-1), 3) := by decide +kernel
theorem dX9_layOrders_144 : decode cX9_layOrders 144 = .ok (.goto (-131), 3) := by decide +kernel
theorem dX9_layOrders_147 : decode cX9_layOrders 147 = .ok (.return_, 1) := by decide +kernel
theorem dX9_order_0 : decode cX9_order 0 = .ok (.aload_n 0, 1) := by decide +kernel
theorem dX9_order_1 : decode cX9_order 1 = .ok (.iload_n 1, 1) := by decide +kernel
theorem dX9_order_2 : decode cX9_order 2 = .ok (.invokevirtual 211, 3) := by decide +kernel
theorem dX9_order_5 : decode cX9_order 5 = .ok (.ifCond .eq 16, 3) := by decide +kernel
theorem dX9_order_8 : decode cX9_order 8 = .ok (.iload_n 2, 1) := by decide +kernel
theorem dX9_order_9 : decode cX9_order 9 = .ok (.iconst (-1), 1) := by decide +kernel
theorem dX9_order_10 : decode cX9_order 10 = .ok (.if_icmp .eq 13, 3) := by decide +kernel
theorem dX9_order_13 : decode cX9_order 13 = .ok (.aload_n 0, 1) := by decide +kernel
theorem dX9_order_14 : decode cX9_order 14 = .ok (.iload_n 2, 1) := by decide +kernel
theorem dX9_order_15 : decode cX9_order 15 = .ok (.invokevirtual 187, 3) := by decide +kernel
theorem dX9_order_18 : decode cX9_order 18 = .ok (.ifCond .ne 5, 3) := by decide +kernel
theorem dX9_order_21 : decode cX9_order 21 = .ok (.iconst (-1), 1) := by decide +kernel
theorem dX9_order_22 : decode cX9_order 22 = .ok (.ireturn, 1) := by decide +kernel
theorem dX9_order_23 : decode cX9_order 23 = .ok (.aload_n 0, 1) := by decide +kernel
theorem dX9_order_24 : decode cX9_order 24 = .ok (.invokevirtual 214, 3) := by decide +kernel
theorem dX9_order_27 : decode cX9_order 27 = .ok (.ifCond .ne 6, 3) := by decide +kernel
theorem dX9_order_30 : decode cX9_order 30 = .ok (.bipush (-2), 2) := by decide +kernel
theorem dX9_order_32 : decode cX9_order 32 = .ok (.ireturn, 1) := by decide +kernel
theorem dX9_order_33 : decode cX9_order 33 = .ok (.aload_n 0, 1) := by decide +kernel
theorem dX9_order_34 : decode cX9_order 34 = .ok (.iload_n 1, 1) := by decide +kernel
theorem dX9_order_35 : decode cX9_order 35 = .ok (.invokevirtual 217, 3) := by decide +kernel
theorem dX9_order_38 : decode cX9_order 38 = .ok (.aload_n 0, 1) := by decide +kernel
theorem dX9_order_39 : decode cX9_order 39 = .ok (.iconst 1, 1) := by decide +kernel
theorem dX9_order_40 : decode cX9_order 40 = .ok (.invokevirtual 220, 3) := by decide +kernel
theorem dX9_order_43 : decode cX9_order 43 = .ok (.istore_n 3, 1) := by decide +kernel
theorem dX9_order_44 : decode cX9_order 44 = .ok (.aload_n 0, 1) := by decide +kernel
theorem dX9_order_45 : decode cX9_order 45 = .ok (.iconst 0, 1) := by decide +kernel
theorem dX9_order_46 : decode cX9_order 46 = .ok (.invokevirtual 220, 3) := by decide +kernel
theorem dX9_order_49 : decode cX9_order 49 = .ok (.istore 4, 2) := by decide +kernel
theorem dX9_order_51 : decode cX9_order 51 = .ok (.iconst 0, 1) := by decide +kernel
theorem dX9_order_52 : decode cX9_order 52 = .ok (.istore 5, 2) := by decide +kernel
theorem dX9_order_54 : decode cX9_order 54 = .ok (.aload_n 0, 1) := by decide +kernel
theorem dX9_order_55 : decode cX9_order 55 = .ok (.getfield 62, 3) := by decide +kernel
theorem dX9_order_58 : decode cX9_order 58 = .ok (.iconst 0, 1) := by decide +kernel
theorem dX9_order_59 : decode cX9_order 59 = .ok (.iload_n 3, 1) := by decide +kernel
theorem dX9_order_60 : decode cX9_order 60 = .ok (.iload 4, 2) := by decide +kernel
theorem dX9_order_62 : decode cX9_order 62 = .ok (.invokestatic 200, 3) := by decide +kernel
theorem dX9_order_65 : decode cX9_order 65 = .ok (.iaload, 1) := by decide +kernel
theorem dX9_order_66 : decode cX9_order 66 = .ok (.istore 6, 2) := by decide +kernel
theorem dX9_order_68 : decode cX9_order 68 = .ok (.iload_n 2, 1) := by decide +kernel
theorem dX9_order_69 : decode cX9_order 69 = .ok (.ifCond .lt 8, 3) := by decide +kernel
theorem dX9_order_72 : decode cX9_order 72 = .ok (.iload 6, 2) := by decide +kernel
theorem dX9_order_74 : decode cX9_order 74 = .ok (.ifCond .ge 16, 3) := by decide +kernel
theorem dX9_order_77 : decode cX9_order 77 = .ok (.iload 6, 2) := by decide +kernel
theorem dX9_order_79 : decode cX9_order 79 = .ok (.ifCond .ge 8, 3) := by decide +kernel
theorem dX9_order_82 : decode cX9_order 82 = .ok (.bipush (-4), 2) := by decide +kernel
theorem dX9_order_84 : decode cX9_order 84 = .ok (.goto 5, 3) := by decide +kernel
theorem dX9_order_87 : decode cX9_order 87 = .ok (.iload 6, 2) := by decide +kernel
theorem dX9_order_89 : decode cX9_order 89 = .ok (.ireturn, 1) := by decide +kernel
theorem dX9_order_90 : decode cX9_order 90 = .ok (.bipush (-4), 2) := by decide +kernel
theorem dX9_order_92 : decode cX9_order 92 = .ok (.istore 7, 2) := by decide +kernel
theorem dX9_order_94 : decode cX9_order 94 = .ok (.iconst 0, 1) := by decide +kernel
theorem dX9_order_95 : decode cX9_order 95 = .ok (.istore 8, 2) := by decide +kernel
theorem dX9_order_97 : decode cX9_order 97 = .ok (.iload 8, 2) := by decide +kernel
theorem dX9_order_99 : decode cX9_order 99 = .ok (.iload_n 2, 1) := by decide +kernel
theorem dX9_order_100 : decode cX9_order 100 = .ok (.if_icmp .gt 81, 3) := by decide +kernel
theorem dX9_order_103 : decode cX9_order 103 = .ok (.aload_n 0, 1) := by decide +kernel
