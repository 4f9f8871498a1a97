theorem dX0_init_0 : decode cX0_init 0 = .ok (.aload_n 0, 1) := by decide +kernel
theorem dX0_init_1 : decode cX0_init 1 = .ok (.invokespecial 3, 3) := by decide +kernel
theorem dX0_init_4 : decode cX0_init 4 = .ok (.aload_n 0, 1) := by decide +kernel
theorem dX0_init_5 : decode cX0_init 5 = .ok (.bipush 8, 2) := by decide +kernel
theorem dX0_init_7 : decode cX0_init 7 = .ok (.newarray .int, 2) := by decide +kernel
theorem dX0_init_9 : decode cX0_init 9 = .ok (.putfield 9, 3) := by decide +kernel
theorem dX0_init_12 : decode cX0_init 12 = .ok (.aload_n 0, 1) := by decide +kernel
theorem dX0_init_13 : decode cX0_init 13 = .ok (.bipush 8, 2) := by decide +kernel
theorem dX0_init_15 : decode cX0_init 15 = .ok (.newarray .int, 2) := by decide +kernel
theorem dX0_init_17 : decode cX0_init 17 = .ok (.putfield 15, 3) := by decide +kernel
theorem dX0_init_20 : decode cX0_init 20 = .ok (.return_, 1) := by decide +kernel
theorem dX0_upperAt_0 : decode cX0_upperAt 0 = .ok (.iload_n 1, 1) := by decide +kernel
theorem dX0_upperAt_1 : decode cX0_upperAt 1 = .ok (.ifCond .lt 21, 3) := by decide +kernel
theorem dX0_upperAt_4 : decode cX0_upperAt 4 = .ok (.iload_n 1, 1) := by decide +kernel
theorem dX0_upperAt_5 : decode cX0_upperAt 5 = .ok (.aload_n 0, 1) := by decide +kernel
theorem dX0_upperAt_6 : decode cX0_upperAt 6 = .ok (.getfield 9, 3) := by decide +kernel
theorem dX0_upperAt_9 : decode cX0_upperAt 9 = .ok (.arraylength, 1) := by decide +kernel
theorem dX0_upperAt_10 : decode cX0_upperAt 10 = .ok (.if_icmp .ge 12, 3) := by decide +kernel
theorem dX0_upperAt_13 : decode cX0_upperAt 13 = .ok (.aload_n 0, 1) := by decide +kernel
theorem dX0_upperAt_14 : decode cX0_upperAt 14 = .ok (.getfield 9, 3) := by decide +kernel
theorem dX0_upperAt_17 : decode cX0_upperAt 17 = .ok (.iload_n 1, 1) := by decide +kernel
theorem dX0_upperAt_18 : decode cX0_upperAt 18 = .ok (.iaload, 1) := by decide +kernel
theorem dX0_upperAt_19 : decode cX0_upperAt 19 = .ok (.goto 4, 3) := by decide +kernel
theorem dX0_upperAt_22 : decode cX0_upperAt 22 = .ok (.iconst 0, 1) := by decide +kernel
theorem dX0_upperAt_23 : decode cX0_upperAt 23 = .ok (.ireturn, 1) := by decide +kernel
theorem dX0_lowerAt_0 : decode cX0_lowerAt 0 = .ok (.iload_n 1, 1) := by decide +kernel
theorem dX0_lowerAt_1 : decode cX0_lowerAt 1 = .ok (.ifCond .lt 21, 3) := by decide +kernel
theorem dX0_lowerAt_4 : decode cX0_lowerAt 4 = .ok (.iload_n 1, 1) := by decide +kernel
theorem dX0_lowerAt_5 : decode cX0_lowerAt 5 = .ok (.aload_n 0, 1) := by decide +kernel
theorem dX0_lowerAt_6 : decode cX0_lowerAt 6 = .ok (.getfield 15, 3) := by decide +kernel
theorem dX0_lowerAt_9 : decode cX0_lowerAt 9 = .ok (.arraylength, 1) := by decide +kernel
theorem dX0_lowerAt_10 : decode cX0_lowerAt 10 = .ok (.if_icmp .ge 12, 3) := by decide +kernel
theorem dX0_lowerAt_13 : decode cX0_lowerAt 13 = .ok (.aload_n 0, 1) := by decide +kernel
theorem dX0_lowerAt_14 : decode cX0_lowerAt 14 = .ok (.getfield 15, 3) := by decide +kernel
theorem dX0_lowerAt_17 : decode cX0_lowerAt 17 = .ok (.iload_n 1, 1) := by decide +kernel
theorem dX0_lowerAt_18 : decode cX0_lowerAt 18 = .ok (.iaload, 1) := by decide +kernel
theorem dX0_lowerAt_19 : decode cX0_lowerAt 19 = .ok (.goto 4, 3) := by decide +kernel
theorem dX0_lowerAt_22 : decode cX0_lowerAt 22 = .ok (.iconst 1, 1) := by decide +kernel
theorem dX0_lowerAt_23 : decode cX0_lowerAt 23 = .ok (.ireturn, 1) := by decide +kernel
theorem dX0_put_0 : decode cX0_put 0 = .ok (.iload_n 1, 1) := by decide +kernel
theorem dX0_put_1 : decode cX0_put 1 = .ok (.ifCond .lt 35, 3) := by decide +kernel
theorem dX0_put_4 : decode cX0_put 4 = .ok (.iload_n 1, 1) := by decide +kernel
theorem dX0_put_5 : decode cX0_put 5 = .ok (.aload_n 0, 1) := by decide +kernel
theorem dX0_put_6 : decode cX0_put 6 = .ok (.getfield 9, 3) := by decide +kernel
theorem dX0_put_9 : decode cX0_put 9 = .ok (.arraylength, 1) := by decide +kernel
theorem dX0_put_10 : decode cX0_put 10 = .ok (.if_icmp .ge 26, 3) := by decide +kernel
theorem dX0_put_13 : decode cX0_put 13 = .ok (.iload_n 1, 1) := by decide +kernel
theorem dX0_put_14 : decode cX0_put 14 = .ok (.aload_n 0, 1) := by decide +kernel
theorem dX0_put_15 : decode cX0_put 15 = .ok (.getfield 15, 3) := by decide +kernel
theorem dX0_put_18 : decode cX0_put 18 = .ok (.arraylength, 1) := by decide +kernel
theorem dX0_put_19 : decode cX0_put 19 = .ok (.if_icmp .ge 17, 3) := by decide +kernel
theorem dX0_put_22 : decode cX0_put 22 = .ok (.aload_n 0, 1) := by decide +kernel
theorem dX0_put_23 : decode cX0_put 23 = .ok (.getfield 9, 3) := by decide +kernel
theorem dX0_put_26 : decode cX0_put 26 = .ok (.iload_n 1, 1) := by decide +kernel
theorem dX0_put_27 : decode cX0_put 27 = .ok (.iload_n 2, 1) := by decide +kernel
theorem dX0_put_28 : decode cX0_put 28 = .ok (.iastore, 1) := by decide +kernel
theorem dX0_put_29 : decode cX0_put 29 = .ok (.aload_n 0, 1) := by decide +kernel
theorem dX0_put_30 : decode cX0_put 30 = .ok (.getfield 15, 3) := by decide +kernel
theorem dX0_put_33 : decode cX0_put 33 = .ok (.iload_n 1, 1) := by decide +kernel
theorem dX0_put_34 : decode cX0_put 34 = .ok (.iload_n 3, 1) := by decide +kernel
theorem dX0_put_35 : decode cX0_put 35 = .ok (.iastore, 1) := by decide +kernel
theorem dX0_put_36 : decode cX0_put 36 = .ok (.return_, 1) := by decide +kernel
theorem dX0_has_0 : decode cX0_has 0 = .ok (.iconst 0, 1) := by decide +kernel
theorem dX0_has_1 : decode cX0_has 1 = .ok (.istore 5, 2) := by decide +kernel
theorem dX0_has_3 : decode cX0_has 3 = .ok (.iload 5, 2) := by decide +kernel
theorem dX0_has_5 : decode cX0_has 5 = .ok (.aload_n 0, 1) := by decide +kernel
theorem dX0_has_6 : decode cX0_has 6 = .ok (.getfield 18, 3) := by decide +kernel
theorem dX0_has_9 : decode cX0_has 9 = .ok (.if_icmp .ge 35, 3) := by decide +kernel
theorem dX0_has_12 : decode cX0_has 12 = .ok (.aload_n 0, 1) := by decide +kernel
theorem dX0_has_13 : decode cX0_has 13 = .ok (.iload 5, 2) := by decide +kernel
theorem dX0_has_15 : decode cX0_has 15 = .ok (.invokevirtual 22, 3) := by decide +kernel
theorem dX0_has_18 : decode cX0_has 18 = .ok (.i2l, 1) := by decide +kernel
theorem dX0_has_19 : decode cX0_has 19 = .ok (.lload_n 1, 1) := by decide +kernel
theorem dX0_has_20 : decode cX0_has 20 = .ok (.lcmp, 1) := by decide +kernel
theorem dX0_has_21 : decode cX0_has 21 = .ok (.ifCond .ne 17, 3) := by decide +kernel
theorem dX0_has_24 : decode cX0_has 24 = .ok (.aload_n 0, 1) := by decide +kernel
theorem dX0_has_25 : decode cX0_has 25 = .ok (.iload 5, 2) := by decide +kernel
theorem dX0_has_27 : decode cX0_has 27 = .ok (.invokevirtual 26, 3) := by decide +kernel
theorem dX0_has_30 : decode cX0_has 30 = .ok (.i2l, 1) := by decide +kernel
theorem dX0_has_31 : decode cX0_has 31 = .ok (.lload_n 3, 1) := by decide +kernel
theorem dX0_has_32 : decode cX0_has 32 = .ok (.lcmp, 1) := by decide +kernel
theorem dX0_has_33 : decode cX0_has 33 = .ok (.ifCond .ne 5, 3) := by decide +kernel
theorem dX0_has_36 : decode cX0_has 36 = .ok (.iconst 1, 1) := by decide +kernel
theorem dX0_has_37 : decode cX0_has 37 = .ok (.ireturn, 1) := by decide +kernel
theorem dX0_has_38 : decode cX0_has 38 = .ok (.iinc 5 1, 3) := by decide +kernel
theorem dX0_has_41 : decode cX0_has 41 = .ok (.goto (-38), 3) := by decide +kernel
theorem dX0_has_44 : decode cX0_has 44 = .ok (.iconst 0, 1) := by decide +kernel
theorem dX0_has_45 : decode cX0_has 45 = .ok (.ireturn, 1) := by decide +kernel
theorem dX0_add_0 : decode cX0_add 0 = .ok (.aload_n 0, 1) := by decide +kernel
theorem dX0_add_1 : decode cX0_add 1 = .ok (.getfield 18, 3) := by decide +kernel
theorem dX0_add_4 : decode cX0_add 4 = .ok (.istore 4, 2) := by decide +kernel
theorem dX0_add_6 : decode cX0_add 6 = .ok (.iload 4, 2) := by decide +kernel
theorem dX0_add_8 : decode cX0_add 8 = .ok (.ifCond .le 60, 3) := by decide +kernel
theorem dX0_add_11 : decode cX0_add 11 = .ok (.aload_n 1, 1) := by decide +kernel
theorem dX0_add_12 : decode cX0_add 12 = .ok (.iload_n 2, 1) := by decide +kernel
theorem dX0_add_13 : decode cX0_add 13 = .ok (.i2l, 1) := by decide +kernel
theorem dX0_add_14 : decode cX0_add 14 = .ok (.iload_n 3, 1) := by decide +kernel
theorem dX0_add_15 : decode cX0_add 15 = .ok (.i2l, 1) := by decide +kernel
theorem dX0_add_16 : decode cX0_add 16 = .ok (.aload_n 0, 1) := by decide +kernel
theorem dX0_add_17 : decode cX0_add 17 = .ok (.iload 4, 2) := by decide +kernel
theorem dX0_add_19 : decode cX0_add 19 = .ok (.iconst 1, 1) := by decide +kernel
theorem dX0_add_20 : decode cX0_add 20 = .ok (.isub, 1) := by decide +kernel
theorem dX0_add_21 : decode cX0_add 21 = .ok (.invokevirtual 22, 3) := by decide +kernel
theorem dX0_add_24 : decode cX0_add 24 = .ok (.i2l, 1) := by decide +kernel
theorem dX0_add_25 : decode cX0_add 25 = .ok (.aload_n 0, 1) := by decide +kernel
theorem dX0_add_26 : decode cX0_add 26 = .ok (.iload 4, 2) := by decide +kernel
theorem dX0_add_28 : decode cX0_add 28 = .ok (.iconst 1, 1) := by decide +kernel
theorem dX0_add_29 : decode cX0_add 29 = .ok (.isub, 1) := by decide +kernel
theorem dX0_add_30 : decode cX0_add 30 = .ok (.invokevirtual 26, 3) := by decide +kernel
theorem dX0_add_33 : decode cX0_add 33 = .ok (.i2l, 1) := by decide +kernel
theorem dX0_add_34 : decode cX0_add 34 = .ok (.invokevirtual 29, 3) := by decide +kernel
theorem dX0_add_37 : decode cX0_add 37 = .ok (.ifCond .eq 31, 3) := by decide +kernel
theorem dX0_add_40 : decode cX0_add 40 = .ok (.aload_n 0, 1) := by decide +kernel
theorem dX0_add_41 : decode cX0_add 41 = .ok (.iload 4, 2) := by decide +kernel
theorem dX0_add_43 : decode cX0_add 43 = .ok (.aload_n 0, 1) := by decide +kernel
theorem dX0_add_44 : decode cX0_add 44 = .ok (.iload 4, 2) := by decide +kernel
theorem dX0_add_46 : decode cX0_add 46 = .ok (.iconst 1, 1) := by decide +kernel
theorem dX0_add_47 : decode cX0_add 47 = .ok (.isub, 1) := by decide +kernel
theorem dX0_add_48 : decode cX0_add 48 = .ok (.invokevirtual 22, 3) := by decide +kernel
theorem dX0_add_51 : decode cX0_add 51 = .ok (.aload_n 0, 1) := by decide +kernel
theorem dX0_add_52 : decode cX0_add 52 = .ok (.iload 4, 2) := by decide +kernel
theorem dX0_add_54 : decode cX0_add 54 = .ok (.iconst 1, 1) := by decide +kernel
theorem dX0_add_55 : decode cX0_add 55 = .ok (.isub, 1) := by decide +kernel
theorem dX0_add_56 : decode cX0_add 56 = .ok (.invokevirtual 26, 3) := by decide +kernel
theorem dX0_add_59 : decode cX0_add 59 = .ok (.invokevirtual 35, 3) := by decide +kernel
theorem dX0_add_62 : decode cX0_add 62 = .ok (.iinc 4 (-1), 3) := by decide +kernel
theorem dX0_add_65 : decode cX0_add 65 = .ok (.goto (-59), 3) := by decide +kernel
theorem dX0_add_68 : decode cX0_add 68 = .ok (.aload_n 0, 1) := by decide +kernel
theorem dX0_add_69 : decode cX0_add 69 = .ok (.iload 4, 2) := by decide +kernel
theorem dX0_add_71 : decode cX0_add 71 = .ok (.iload_n 2, 1) := by decide +kernel
theorem dX0_add_72 : decode cX0_add 72 = .ok (.iload_n 3, 1) := by decide +kernel
theorem dX0_add_73 : decode cX0_add 73 = .ok (.invokevirtual 35, 3) := by decide +kernel
theorem dX0_add_76 : decode cX0_add 76 = .ok (.aload_n 0, 1) := by decide +kernel
theorem dX0_add_77 : decode cX0_add 77 = .ok (.dup, 1) := by decide +kernel
theorem dX0_add_78 : decode cX0_add 78 = .ok (.getfield 18, 3) := by decide +kernel
theorem dX0_add_81 : decode cX0_add 81 = .ok (.iconst 1, 1) := by decide +kernel
theorem dX0_add_82 : decode cX0_add 82 = .ok (.iadd, 1) := by decide +kernel
theorem dX0_add_83 : decode cX0_add 83 = .ok (.putfield 18, 3) := by decide +kernel
theorem dX0_add_86 : decode cX0_add 86 = .ok (.iload 4, 2) := by decide +kernel
theorem dX0_add_88 : decode cX0_add 88 = .ok (.ireturn, 1) := by decide +kernel
theorem dX0_remove_0 : decode cX0_remove 0 = .ok (.aload_n 0, 1) := by decide +kernel
theorem dX0_remove_1 : decode cX0_remove 1 = .ok (.dup, 1) := by decide +kernel
theorem dX0_remove_2 : decode cX0_remove 2 = .ok (.getfield 18, 3) := by decide +kernel
theorem dX0_remove_5 : decode cX0_remove 5 = .ok (.iconst 1, 1) := by decide +kernel
theorem dX0_remove_6 : decode cX0_remove 6 = .ok (.isub, 1) := by decide +kernel
theorem dX0_remove_7 : decode cX0_remove 7 = .ok (.putfield 18, 3) := by decide +kernel
theorem dX0_remove_10 : decode cX0_remove 10 = .ok (.iload_n 1, 1) := by decide +kernel
theorem dX0_remove_11 : decode cX0_remove 11 = .ok (.istore_n 2, 1) := by decide +kernel
theorem dX0_remove_12 : decode cX0_remove 12 = .ok (.iload_n 2, 1) := by decide +kernel
theorem dX0_remove_13 : decode cX0_remove 13 = .ok (.aload_n 0, 1) := by decide +kernel
theorem dX0_remove_14 : decode cX0_remove 14 = .ok (.getfield 18, 3) := by decide +kernel
theorem dX0_remove_17 : decode cX0_remove 17 = .ok (.if_icmp .ge 28, 3) := by decide +kernel
theorem dX0_remove_20 : decode cX0_remove 20 = .ok (.aload_n 0, 1) := by decide +kernel
theorem dX0_remove_21 : decode cX0_remove 21 = .ok (.iload_n 2, 1) := by decide +kernel
theorem dX0_remove_22 : decode cX0_remove 22 = .ok (.aload_n 0, 1) := by decide +kernel
theorem dX0_remove_23 : decode cX0_remove 23 = .ok (.iload_n 2, 1) := by decide +kernel
theorem dX0_remove_24 : decode cX0_remove 24 = .ok (.iconst 1, 1) := by decide +kernel
theorem dX0_remove_25 : decode cX0_remove 25 = .ok (.iadd, 1) := by decide +kernel
theorem dX0_remove_26 : decode cX0_remove 26 = .ok (.invokevirtual 22, 3) := by decide +kernel
theorem dX0_remove_29 : decode cX0_remove 29 = .ok (.aload_n 0, 1) := by decide +kernel
theorem dX0_remove_30 : decode cX0_remove 30 = .ok (.iload_n 2, 1) := by decide +kernel
theorem dX0_remove_31 : decode cX0_remove 31 = .ok (.iconst 1, 1) := by decide +kernel
theorem dX0_remove_32 : decode cX0_remove 32 = .ok (.iadd, 1) := by decide +kernel
theorem dX0_remove_33 : decode cX0_remove 33 = .ok (.invokevirtual 26, 3) := by decide +kernel
theorem dX0_remove_36 : decode cX0_remove 36 = .ok (.invokevirtual 35, 3) := by decide +kernel
theorem dX0_remove_39 : decode cX0_remove 39 = .ok (.iinc 2 1, 3) := by decide +kernel
theorem dX0_remove_42 : decode cX0_remove 42 = .ok (.goto (-30), 3) := by decide +kernel
theorem dX0_remove_45 : decode cX0_remove 45 = .ok (.return_, 1) := by decide +kernel
theorem dX0_putInOrder_0 : decode cX0_putInOrder 0 = .ok (.aload_n 0, 1) := by decide +kernel
theorem dX0_putInOrder_1 : decode cX0_putInOrder 1 = .ok (.getfield 18, 3) := by decide +kernel
theorem dX0_putInOrder_4 : decode cX0_putInOrder 4 = .ok (.istore_n 2, 1) := by decide +kernel
theorem dX0_putInOrder_5 : decode cX0_putInOrder 5 = .ok (.aload_n 0, 1) := by decide +kernel
theorem dX0_putInOrder_6 : decode cX0_putInOrder 6 = .ok (.iconst 0, 1) := by decide +kernel
theorem dX0_putInOrder_7 : decode cX0_putInOrder 7 = .ok (.putfield 18, 3) := by decide +kernel
theorem dX0_putInOrder_10 : decode cX0_putInOrder 10 = .ok (.iconst 0, 1) := by decide +kernel
theorem dX0_putInOrder_11 : decode cX0_putInOrder 11 = .ok (.istore_n 3, 1) := by decide +kernel
theorem dX0_putInOrder_12 : decode cX0_putInOrder 12 = .ok (.iload_n 3, 1) := by decide +kernel
theorem dX0_putInOrder_13 : decode cX0_putInOrder 13 = .ok (.iload_n 2, 1) := by decide +kernel
theorem dX0_putInOrder_14 : decode cX0_putInOrder 14 = .ok (.if_icmp .ge 25, 3) := by decide +kernel
theorem dX0_putInOrder_17 : decode cX0_putInOrder 17 = .ok (.aload_n 0, 1) := by decide +kernel
theorem dX0_putInOrder_18 : decode cX0_putInOrder 18 = .ok (.aload_n 1, 1) := by decide +kernel
theorem dX0_putInOrder_19 : decode cX0_putInOrder 19 = .ok (.aload_n 0, 1) := by decide +kernel
theorem dX0_putInOrder_20 : decode cX0_putInOrder 20 = .ok (.iload_n 3, 1) := by decide +kernel
theorem dX0_putInOrder_21 : decode cX0_putInOrder 21 = .ok (.invokevirtual 22, 3) := by decide +kernel
theorem dX0_putInOrder_24 : decode cX0_putInOrder 24 = .ok (.aload_n 0, 1) := by decide +kernel
theorem dX0_putInOrder_25 : decode cX0_putInOrder 25 = .ok (.iload_n 3, 1) := by decide +kernel
theorem dX0_putInOrder_26 : decode cX0_putInOrder 26 = .ok (.invokevirtual 26, 3) := by decide +kernel
theorem dX0_putInOrder_29 : decode cX0_putInOrder 29 = .ok (.invokevirtual 39, 3) := by decide +kernel
theorem dX0_putInOrder_32 : decode cX0_putInOrder 32 = .ok (.pop, 1) := by decide +kernel
theorem dX0_putInOrder_33 : decode cX0_putInOrder 33 = .ok (.iinc 3 1, 3) := by decide +kernel
theorem dX0_putInOrder_36 : decode cX0_putInOrder 36 = .ok (.goto (-24), 3) := by decide +kernel
theorem dX0_putInOrder_39 : decode cX0_putInOrder 39 = .ok (.return_, 1) := by decide +kernel
theorem dX0_countAbove_0 : decode cX0_countAbove 0 = .ok (.iconst 0, 1) := by decide +kernel
theorem dX0_countAbove_1 : decode cX0_countAbove 1 = .ok (.istore_n 2, 1) := by decide +kernel
theorem dX0_countAbove_2 : decode cX0_countAbove 2 = .ok (.iconst 0, 1) := by decide +kernel
theorem dX0_countAbove_3 : decode cX0_countAbove 3 = .ok (.istore_n 3, 1) := by decide +kernel
theorem dX0_countAbove_4 : decode cX0_countAbove 4 = .ok (.iload_n 3, 1) := by decide +kernel
theorem dX0_countAbove_5 : decode cX0_countAbove 5 = .ok (.aload_n 0, 1) := by decide +kernel
theorem dX0_countAbove_6 : decode cX0_countAbove 6 = .ok (.getfield 18, 3) := by decide +kernel
theorem dX0_countAbove_9 : decode cX0_countAbove 9 = .ok (.if_icmp .ge 31, 3) := by decide +kernel
theorem dX0_countAbove_12 : decode cX0_countAbove 12 = .ok (.aload_n 1, 1) := by decide +kernel
theorem dX0_countAbove_13 : decode cX0_countAbove 13 = .ok (.aload_n 0, 1) := by decide +kernel
theorem dX0_countAbove_14 : decode cX0_countAbove 14 = .ok (.iload_n 3, 1) := by decide +kernel
theorem dX0_countAbove_15 : decode cX0_countAbove 15 = .ok (.invokevirtual 22, 3) := by decide +kernel
theorem dX0_countAbove_18 : decode cX0_countAbove 18 = .ok (.i2l, 1) := by decide +kernel
theorem dX0_countAbove_19 : decode cX0_countAbove 19 = .ok (.aload_n 0, 1) := by decide +kernel
theorem dX0_countAbove_20 : decode cX0_countAbove 20 = .ok (.iload_n 3, 1) := by decide +kernel
theorem dX0_countAbove_21 : decode cX0_countAbove 21 = .ok (.invokevirtual 26, 3) := by decide +kernel
theorem dX0_countAbove_24 : decode cX0_countAbove 24 = .ok (.i2l, 1) := by decide +kernel
theorem dX0_countAbove_25 : decode cX0_countAbove 25 = .ok (.invokevirtual 43, 3) := by decide +kernel
theorem dX0_countAbove_28 : decode cX0_countAbove 28 = .ok (.ifCond .eq 6, 3) := by decide +kernel
theorem dX0_countAbove_31 : decode cX0_countAbove 31 = .ok (.iinc 2 1, 3) := by decide +kernel
theorem dX0_countAbove_34 : decode cX0_countAbove 34 = .ok (.iinc 3 1, 3) := by decide +kernel
theorem dX0_countAbove_37 : decode cX0_countAbove 37 = .ok (.goto (-33), 3) := by decide +kernel
theorem dX0_countAbove_40 : decode cX0_countAbove 40 = .ok (.iload_n 2, 1) := by decide +kernel
theorem dX0_countAbove_41 : decode cX0_countAbove 41 = .ok (.ireturn, 1) := by decide +kernel
theorem dX0_copyFrom_0 : decode cX0_copyFrom 0 = .ok (.aload_n 0, 1) := by decide +kernel
theorem dX0_copyFrom_1 : decode cX0_copyFrom 1 = .ok (.aload_n 1, 1) := by decide +kernel
theorem dX0_copyFrom_2 : decode cX0_copyFrom 2 = .ok (.getfield 18, 3) := by decide +kernel
theorem dX0_copyFrom_5 : decode cX0_copyFrom 5 = .ok (.putfield 18, 3) := by decide +kernel
theorem dX0_copyFrom_8 : decode cX0_copyFrom 8 = .ok (.iconst 0, 1) := by decide +kernel
theorem dX0_copyFrom_9 : decode cX0_copyFrom 9 = .ok (.istore_n 2, 1) := by decide +kernel
theorem dX0_copyFrom_10 : decode cX0_copyFrom 10 = .ok (.iload_n 2, 1) := by decide +kernel
theorem dX0_copyFrom_11 : decode cX0_copyFrom 11 = .ok (.aload_n 0, 1) := by decide +kernel
theorem dX0_copyFrom_12 : decode cX0_copyFrom 12 = .ok (.getfield 18, 3) := by decide +kernel
theorem dX0_copyFrom_15 : decode cX0_copyFrom 15 = .ok (.if_icmp .ge 24, 3) := by decide +kernel
theorem dX0_copyFrom_18 : decode cX0_copyFrom 18 = .ok (.aload_n 0, 1) := by decide +kernel
theorem dX0_copyFrom_19 : decode cX0_copyFrom 19 = .ok (.iload_n 2, 1) := by decide +kernel
theorem dX0_copyFrom_20 : decode cX0_copyFrom 20 = .ok (.aload_n 1, 1) := by decide +kernel
theorem dX0_copyFrom_21 : decode cX0_copyFrom 21 = .ok (.iload_n 2, 1) := by decide +kernel
theorem dX0_copyFrom_22 : decode cX0_copyFrom 22 = .ok (.invokevirtual 22, 3) := by decide +kernel
theorem dX0_copyFrom_25 : decode cX0_copyFrom 25 = .ok (.aload_n 1, 1) := by decide +kernel
theorem dX0_copyFrom_26 : decode cX0_copyFrom 26 = .ok (.iload_n 2, 1) := by decide +kernel
theorem dX0_copyFrom_27 : decode cX0_copyFrom 27 = .ok (.invokevirtual 26, 3) := by decide +kernel
theorem dX0_copyFrom_30 : decode cX0_copyFrom 30 = .ok (.invokevirtual 35, 3) := by decide +kernel
theorem dX0_copyFrom_33 : decode cX0_copyFrom 33 = .ok (.iinc 2 1, 3) := by decide +kernel
theorem dX0_copyFrom_36 : decode cX0_copyFrom 36 = .ok (.goto (-26), 3) := by decide +kernel
theorem dX0_copyFrom_39 : decode cX0_copyFrom 39 = .ok (.return_, 1) := by decide +kernel
theorem dX1_init_0 : decode cX1_init 0 = .ok (.aload_n 0, 1) := by decide +kernel
theorem dX1_init_1 : decode cX1_init 1 = .ok (.invokespecial 3, 3) := by decide +kernel
theorem dX1_init_4 : decode cX1_init 4 = .ok (.return_, 1) := by decide +kernel
theorem dX1_begin_0 : decode cX1_begin 0 = .ok (.aload_n 0, 1) := by decide +kernel
theorem dX1_begin_1 : decode cX1_begin 1 = .ok (.lconst 1, 1) := by decide +kernel
theorem dX1_begin_2 : decode cX1_begin 2 = .ok (.putfield 9, 3) := by decide +kernel
theorem dX1_begin_5 : decode cX1_begin 5 = .ok (.aload_n 0, 1) := by decide +kernel
theorem dX1_begin_6 : decode cX1_begin 6 = .ok (.lconst 0, 1) := by decide +kernel
theorem dX1_begin_7 : decode cX1_begin 7 = .ok (.putfield 15, 3) := by decide +kernel
theorem dX1_begin_10 : decode cX1_begin 10 = .ok (.aload_n 0, 1) := by decide +kernel
theorem dX1_begin_11 : decode cX1_begin 11 = .ok (.lconst 0, 1) := by decide +kernel
theorem dX1_begin_12 : decode cX1_begin 12 = .ok (.putfield 18, 3) := by decide +kernel
theorem dX1_begin_15 : decode cX1_begin 15 = .ok (.aload_n 0, 1) := by decide +kernel
theorem dX1_begin_16 : decode cX1_begin 16 = .ok (.lconst 1, 1) := by decide +kernel
theorem dX1_begin_17 : decode cX1_begin 17 = .ok (.putfield 21, 3) := by decide +kernel
theorem dX1_begin_20 : decode cX1_begin 20 = .ok (.aload_n 0, 1) := by decide +kernel
theorem dX1_begin_21 : decode cX1_begin 21 = .ok (.iconst 0, 1) := by decide +kernel
theorem dX1_begin_22 : decode cX1_begin 22 = .ok (.putfield 24, 3) := by decide +kernel
theorem dX1_begin_25 : decode cX1_begin 25 = .ok (.return_, 1) := by decide +kernel
theorem dX1_add_0 : decode cX1_add 0 = .ok (.aload_n 0, 1) := by decide +kernel
theorem dX1_add_1 : decode cX1_add 1 = .ok (.getfield 24, 3) := by decide +kernel
theorem dX1_add_4 : decode cX1_add 4 = .ok (.ifCond .ne 33, 3) := by decide +kernel
theorem dX1_add_7 : decode cX1_add 7 = .ok (.lload_n 1, 1) := by decide +kernel
theorem dX1_add_8 : decode cX1_add 8 = .ok (.aload_n 0, 1) := by decide +kernel
theorem dX1_add_9 : decode cX1_add 9 = .ok (.getfield 9, 3) := by decide +kernel
theorem dX1_add_12 : decode cX1_add 12 = .ok (.aload_n 0, 1) := by decide +kernel
theorem dX1_add_13 : decode cX1_add 13 = .ok (.getfield 18, 3) := by decide +kernel
theorem dX1_add_16 : decode cX1_add 16 = .ok (.invokestatic 28, 3) := by decide +kernel
theorem dX1_add_19 : decode cX1_add 19 = .ok (.ifCond .ne 18, 3) := by decide +kernel
theorem dX1_add_22 : decode cX1_add 22 = .ok (.lload_n 1, 1) := by decide +kernel
theorem dX1_add_23 : decode cX1_add 23 = .ok (.aload_n 0, 1) := by decide +kernel
theorem dX1_add_24 : decode cX1_add 24 = .ok (.getfield 15, 3) := by decide +kernel
theorem dX1_add_27 : decode cX1_add 27 = .ok (.aload_n 0, 1) := by decide +kernel
theorem dX1_add_28 : decode cX1_add 28 = .ok (.getfield 21, 3) := by decide +kernel
theorem dX1_add_31 : decode cX1_add 31 = .ok (.invokestatic 28, 3) := by decide +kernel
theorem dX1_add_34 : decode cX1_add 34 = .ok (.ifCond .eq 9, 3) := by decide +kernel
theorem dX1_add_37 : decode cX1_add 37 = .ok (.aload_n 0, 1) := by decide +kernel
theorem dX1_add_38 : decode cX1_add 38 = .ok (.iconst 1, 1) := by decide +kernel
theorem dX1_add_39 : decode cX1_add 39 = .ok (.putfield 24, 3) := by decide +kernel
theorem dX1_add_42 : decode cX1_add 42 = .ok (.return_, 1) := by decide +kernel
theorem dX1_add_43 : decode cX1_add 43 = .ok (.lload_n 1, 1) := by decide +kernel
theorem dX1_add_44 : decode cX1_add 44 = .ok (.aload_n 0, 1) := by decide +kernel
theorem dX1_add_45 : decode cX1_add 45 = .ok (.getfield 9, 3) := by decide +kernel
theorem dX1_add_48 : decode cX1_add 48 = .ok (.lmul, 1) := by decide +kernel
theorem dX1_add_49 : decode cX1_add 49 = .ok (.aload_n 0, 1) := by decide +kernel
theorem dX1_add_50 : decode cX1_add 50 = .ok (.getfield 18, 3) := by decide +kernel
theorem dX1_add_53 : decode cX1_add 53 = .ok (.ladd, 1) := by decide +kernel
theorem dX1_add_54 : decode cX1_add 54 = .ok (.lstore_n 3, 1) := by decide +kernel
theorem dX1_add_55 : decode cX1_add 55 = .ok (.lload_n 1, 1) := by decide +kernel
theorem dX1_add_56 : decode cX1_add 56 = .ok (.aload_n 0, 1) := by decide +kernel
theorem dX1_add_57 : decode cX1_add 57 = .ok (.getfield 15, 3) := by decide +kernel
theorem dX1_add_60 : decode cX1_add 60 = .ok (.lmul, 1) := by decide +kernel
theorem dX1_add_61 : decode cX1_add 61 = .ok (.aload_n 0, 1) := by decide +kernel
theorem dX1_add_62 : decode cX1_add 62 = .ok (.getfield 21, 3) := by decide +kernel
theorem dX1_add_65 : decode cX1_add 65 = .ok (.ladd, 1) := by decide +kernel
theorem dX1_add_66 : decode cX1_add 66 = .ok (.lstore 5, 2) := by decide +kernel
theorem dX1_add_68 : decode cX1_add 68 = .ok (.aload_n 0, 1) := by decide +kernel
theorem dX1_add_69 : decode cX1_add 69 = .ok (.aload_n 0, 1) := by decide +kernel
theorem dX1_add_70 : decode cX1_add 70 = .ok (.getfield 9, 3) := by decide +kernel
theorem dX1_add_73 : decode cX1_add 73 = .ok (.putfield 18, 3) := by decide +kernel
theorem dX1_add_76 : decode cX1_add 76 = .ok (.aload_n 0, 1) := by decide +kernel
theorem dX1_add_77 : decode cX1_add 77 = .ok (.aload_n 0, 1) := by decide +kernel
theorem dX1_add_78 : decode cX1_add 78 = .ok (.getfield 15, 3) := by decide +kernel
theorem dX1_add_81 : decode cX1_add 81 = .ok (.putfield 21, 3) := by decide +kernel
theorem dX1_add_84 : decode cX1_add 84 = .ok (.aload_n 0, 1) := by decide +kernel
theorem dX1_add_85 : decode cX1_add 85 = .ok (.lload_n 3, 1) := by decide +kernel
theorem dX1_add_86 : decode cX1_add 86 = .ok (.putfield 9, 3) := by decide +kernel
theorem dX1_add_89 : decode cX1_add 89 = .ok (.aload_n 0, 1) := by decide +kernel
theorem dX1_add_90 : decode cX1_add 90 = .ok (.lload 5, 2) := by decide +kernel
theorem dX1_add_92 : decode cX1_add 92 = .ok (.putfield 15, 3) := by decide +kernel
theorem dX1_add_95 : decode cX1_add 95 = .ok (.return_, 1) := by decide +kernel
theorem dX1_isTooGreat_0 : decode cX1_isTooGreat 0 = .ok (.lload_n 0, 1) := by decide +kernel
theorem dX1_isTooGreat_1 : decode cX1_isTooGreat 1 = .ok (.invokestatic 32, 3) := by decide +kernel
theorem dX1_isTooGreat_4 : decode cX1_isTooGreat 4 = .ok (.lstore 6, 2) := by decide +kernel
theorem dX1_isTooGreat_6 : decode cX1_isTooGreat 6 = .ok (.lload 6, 2) := by decide +kernel
theorem dX1_isTooGreat_8 : decode cX1_isTooGreat 8 = .ok (.lconst 0, 1) := by decide +kernel
theorem dX1_isTooGreat_9 : decode cX1_isTooGreat 9 = .ok (.lcmp, 1) := by decide +kernel
theorem dX1_isTooGreat_10 : decode cX1_isTooGreat 10 = .ok (.ifCond .le 25, 3) := by decide +kernel
theorem dX1_isTooGreat_13 : decode cX1_isTooGreat 13 = .ok (.lload_n 2, 1) := by decide +kernel
theorem dX1_isTooGreat_14 : decode cX1_isTooGreat 14 = .ok (.invokestatic 32, 3) := by decide +kernel
theorem dX1_isTooGreat_17 : decode cX1_isTooGreat 17 = .ok (.ldc2_w 38, 3) := by decide +kernel
theorem dX1_isTooGreat_20 : decode cX1_isTooGreat 20 = .ok (.lload 4, 2) := by decide +kernel
theorem dX1_isTooGreat_22 : decode cX1_isTooGreat 22 = .ok (.invokestatic 32, 3) := by decide +kernel
theorem dX1_isTooGreat_25 : decode cX1_isTooGreat 25 = .ok (.ladd, 1) := by decide +kernel
theorem dX1_isTooGreat_26 : decode cX1_isTooGreat 26 = .ok (.lload 6, 2) := by decide +kernel
theorem dX1_isTooGreat_28 : decode cX1_isTooGreat 28 = .ok (.ldiv, 1) := by decide +kernel
theorem dX1_isTooGreat_29 : decode cX1_isTooGreat 29 = .ok (.lcmp, 1) := by decide +kernel
theorem dX1_isTooGreat_30 : decode cX1_isTooGreat 30 = .ok (.ifCond .le 5, 3) := by decide +kernel
theorem dX1_isTooGreat_33 : decode cX1_isTooGreat 33 = .ok (.iconst 1, 1) := by decide +kernel
theorem dX1_isTooGreat_34 : decode cX1_isTooGreat 34 = .ok (.ireturn, 1) := by decide +kernel
theorem dX1_isTooGreat_35 : decode cX1_isTooGreat 35 = .ok (.lload_n 0, 1) := by decide +kernel
theorem dX1_isTooGreat_36 : decode cX1_isTooGreat 36 = .ok (.lload_n 2, 1) := by decide +kernel
theorem dX1_isTooGreat_37 : decode cX1_isTooGreat 37 = .ok (.lmul, 1) := by decide +kernel
theorem dX1_isTooGreat_38 : decode cX1_isTooGreat 38 = .ok (.lload 4, 2) := by decide +kernel
theorem dX1_isTooGreat_40 : decode cX1_isTooGreat 40 = .ok (.ladd, 1) := by decide +kernel
theorem dX1_isTooGreat_41 : decode cX1_isTooGreat 41 = .ok (.invokestatic 32, 3) := by decide +kernel
theorem dX1_isTooGreat_44 : decode cX1_isTooGreat 44 = .ok (.ldc2_w 38, 3) := by decide +kernel
theorem dX1_isTooGreat_47 : decode cX1_isTooGreat 47 = .ok (.lcmp, 1) := by decide +kernel
theorem dX1_isTooGreat_48 : decode cX1_isTooGreat 48 = .ok (.ifCond .le 7, 3) := by decide +kernel
theorem dX1_isTooGreat_51 : decode cX1_isTooGreat 51 = .ok (.iconst 1, 1) := by decide +kernel
theorem dX1_isTooGreat_52 : decode cX1_isTooGreat 52 = .ok (.goto 4, 3) := by decide +kernel
theorem dX1_isTooGreat_55 : decode cX1_isTooGreat 55 = .ok (.iconst 0, 1) := by decide +kernel
theorem dX1_isTooGreat_56 : decode cX1_isTooGreat 56 = .ok (.ireturn, 1) := by decide +kernel
theorem dX2_init_0 : decode cX2_init 0 = .ok (.aload_n 0, 1) := by decide +kernel
theorem dX2_init_1 : decode cX2_init 1 = .ok (.invokespecial 3, 3) := by decide +kernel
theorem dX2_init_4 : decode cX2_init 4 = .ok (.aload_n 0, 1) := by decide +kernel
theorem dX2_init_5 : decode cX2_init 5 = .ok (.sipush 400, 3) := by decide +kernel
theorem dX2_init_8 : decode cX2_init 8 = .ok (.newarray .int, 2) := by decide +kernel
theorem dX2_init_10 : decode cX2_init 10 = .ok (.putfield 9, 3) := by decide +kernel
theorem dX2_init_13 : decode cX2_init 13 = .ok (.aload_n 0, 1) := by decide +kernel
theorem dX2_init_14 : decode cX2_init 14 = .ok (.sipush 400, 3) := by decide +kernel
theorem dX2_init_17 : decode cX2_init 17 = .ok (.newarray .long, 2) := by decide +kernel
theorem dX2_init_19 : decode cX2_init 19 = .ok (.putfield 15, 3) := by decide +kernel
theorem dX2_init_22 : decode cX2_init 22 = .ok (.aload_n 0, 1) := by decide +kernel
theorem dX2_init_23 : decode cX2_init 23 = .ok (.sipush 400, 3) := by decide +kernel
theorem dX2_init_26 : decode cX2_init 26 = .ok (.newarray .long, 2) := by decide +kernel
theorem dX2_init_28 : decode cX2_init 28 = .ok (.putfield 19, 3) := by decide +kernel
theorem dX2_init_31 : decode cX2_init 31 = .ok (.aload_n 0, 1) := by decide +kernel
theorem dX2_init_32 : decode cX2_init 32 = .ok (.new 22, 3) := by decide +kernel
theorem dX2_init_35 : decode cX2_init 35 = .ok (.dup, 1) := by decide +kernel
theorem dX2_init_36 : decode cX2_init 36 = .ok (.invokespecial 24, 3) := by decide +kernel
theorem dX2_init_39 : decode cX2_init 39 = .ok (.putfield 25, 3) := by decide +kernel
theorem dX2_init_42 : decode cX2_init 42 = .ok (.aload_n 0, 1) := by decide +kernel
theorem dX2_init_43 : decode cX2_init 43 = .ok (.new 29, 3) := by decide +kernel
theorem dX2_init_46 : decode cX2_init 46 = .ok (.dup, 1) := by decide +kernel
theorem dX2_init_47 : decode cX2_init 47 = .ok (.invokespecial 31, 3) := by decide +kernel
theorem dX2_init_50 : decode cX2_init 50 = .ok (.putfield 32, 3) := by decide +kernel
theorem dX2_init_53 : decode cX2_init 53 = .ok (.return_, 1) := by decide +kernel
theorem dX2_unfold_0 : decode cX2_unfold 0 = .ok (.aload_n 0, 1) := by decide +kernel
theorem dX2_unfold_1 : decode cX2_unfold 1 = .ok (.iconst (-1), 1) := by decide +kernel
theorem dX2_unfold_2 : decode cX2_unfold 2 = .ok (.putfield 36, 3) := by decide +kernel
theorem dX2_unfold_5 : decode cX2_unfold 5 = .ok (.aload_n 0, 1) := by decide +kernel
theorem dX2_unfold_6 : decode cX2_unfold 6 = .ok (.iconst 0, 1) := by decide +kernel
theorem dX2_unfold_7 : decode cX2_unfold 7 = .ok (.putfield 40, 3) := by decide +kernel
theorem dX2_unfold_10 : decode cX2_unfold 10 = .ok (.aload_n 0, 1) := by decide +kernel
theorem dX2_unfold_11 : decode cX2_unfold 11 = .ok (.getfield 25, 3) := by decide +kernel
theorem dX2_unfold_14 : decode cX2_unfold 14 = .ok (.aload_n 1, 1) := by decide +kernel
theorem dX2_unfold_15 : decode cX2_unfold 15 = .ok (.getfield 43, 3) := by decide +kernel
theorem dX2_unfold_18 : decode cX2_unfold 18 = .ok (.i2l, 1) := by decide +kernel
theorem dX2_unfold_19 : decode cX2_unfold 19 = .ok (.aload_n 1, 1) := by decide +kernel
theorem dX2_unfold_20 : decode cX2_unfold 20 = .ok (.getfield 48, 3) := by decide +kernel
theorem dX2_unfold_23 : decode cX2_unfold 23 = .ok (.i2l, 1) := by decide +kernel
theorem dX2_unfold_24 : decode cX2_unfold 24 = .ok (.aload_n 1, 1) := by decide +kernel
theorem dX2_unfold_25 : decode cX2_unfold 25 = .ok (.getfield 51, 3) := by decide +kernel
theorem dX2_unfold_28 : decode cX2_unfold 28 = .ok (.i2l, 1) := by decide +kernel
theorem dX2_unfold_29 : decode cX2_unfold 29 = .ok (.invokevirtual 54, 3) := by decide +kernel
theorem dX2_unfold_32 : decode cX2_unfold 32 = .ok (.iconst 0, 1) := by decide +kernel
theorem dX2_unfold_33 : decode cX2_unfold 33 = .ok (.istore_n 2, 1) := by decide +kernel
theorem dX2_unfold_34 : decode cX2_unfold 34 = .ok (.iload_n 2, 1) := by decide +kernel
theorem dX2_unfold_35 : decode cX2_unfold 35 = .ok (.aload_n 0, 1) := by decide +kernel
theorem dX2_unfold_36 : decode cX2_unfold 36 = .ok (.getfield 9, 3) := by decide +kernel
theorem dX2_unfold_39 : decode cX2_unfold 39 = .ok (.arraylength, 1) := by decide +kernel
theorem dX2_unfold_40 : decode cX2_unfold 40 = .ok (.if_icmp .ge 35, 3) := by decide +kernel
theorem dX2_unfold_43 : decode cX2_unfold 43 = .ok (.aload_n 0, 1) := by decide +kernel
theorem dX2_unfold_44 : decode cX2_unfold 44 = .ok (.iload_n 2, 1) := by decide +kernel
theorem dX2_unfold_45 : decode cX2_unfold 45 = .ok (.invokevirtual 58, 3) := by decide +kernel
theorem dX2_unfold_48 : decode cX2_unfold 48 = .ok (.aload_n 0, 1) := by decide +kernel
theorem dX2_unfold_49 : decode cX2_unfold 49 = .ok (.getfield 9, 3) := by decide +kernel
theorem dX2_unfold_52 : decode cX2_unfold 52 = .ok (.iload_n 2, 1) := by decide +kernel
theorem dX2_unfold_53 : decode cX2_unfold 53 = .ok (.aload_n 0, 1) := by decide +kernel
theorem dX2_unfold_54 : decode cX2_unfold 54 = .ok (.getfield 25, 3) := by decide +kernel
theorem dX2_unfold_57 : decode cX2_unfold 57 = .ok (.invokevirtual 62, 3) := by decide +kernel
theorem dX2_unfold_60 : decode cX2_unfold 60 = .ok (.l2i, 1) := by decide +kernel
theorem dX2_unfold_61 : decode cX2_unfold 61 = .ok (.iastore, 1) := by decide +kernel
theorem dX2_unfold_62 : decode cX2_unfold 62 = .ok (.aload_n 0, 1) := by decide +kernel
theorem dX2_unfold_63 : decode cX2_unfold 63 = .ok (.getfield 25, 3) := by decide +kernel
theorem dX2_unfold_66 : decode cX2_unfold 66 = .ok (.invokevirtual 66, 3) := by decide +kernel
theorem dX2_unfold_69 : decode cX2_unfold 69 = .ok (.iinc 2 1, 3) := by decide +kernel
theorem dX2_unfold_72 : decode cX2_unfold 72 = .ok (.goto (-38), 3) := by decide +kernel
theorem dX2_unfold_75 : decode cX2_unfold 75 = .ok (.aload_n 0, 1) := by decide +kernel
theorem dX2_unfold_76 : decode cX2_unfold 76 = .ok (.aload_n 0, 1) := by decide +kernel
theorem dX2_unfold_77 : decode cX2_unfold 77 = .ok (.getfield 9, 3) := by decide +kernel
theorem dX2_unfold_80 : decode cX2_unfold 80 = .ok (.arraylength, 1) := by decide +kernel
theorem dX2_unfold_81 : decode cX2_unfold 81 = .ok (.invokevirtual 58, 3) := by decide +kernel
theorem dX2_unfold_84 : decode cX2_unfold 84 = .ok (.aload_n 0, 1) := by decide +kernel
theorem dX2_unfold_85 : decode cX2_unfold 85 = .ok (.invokevirtual 69, 3) := by decide +kernel
theorem dX2_unfold_88 : decode cX2_unfold 88 = .ok (.return_, 1) := by decide +kernel
theorem dX2_lookForPeriod_0 : decode cX2_lookForPeriod 0 = .ok (.aload_n 0, 1) := by decide +kernel
theorem dX2_lookForPeriod_1 : decode cX2_lookForPeriod 1 = .ok (.getfield 36, 3) := by decide +kernel
theorem dX2_lookForPeriod_4 : decode cX2_lookForPeriod 4 = .ok (.ifCond .ge 43, 3) := by decide +kernel
theorem dX2_lookForPeriod_7 : decode cX2_lookForPeriod 7 = .ok (.aload_n 0, 1) := by decide +kernel
theorem dX2_lookForPeriod_8 : decode cX2_lookForPeriod 8 = .ok (.getfield 25, 3) := by decide +kernel
theorem dX2_lookForPeriod_11 : decode cX2_lookForPeriod 11 = .ok (.invokevirtual 72, 3) := by decide +kernel
theorem dX2_lookForPeriod_14 : decode cX2_lookForPeriod 14 = .ok (.ifCond .eq 80, 3) := by decide +kernel
theorem dX2_lookForPeriod_17 : decode cX2_lookForPeriod 17 = .ok (.aload_n 0, 1) := by decide +kernel
theorem dX2_lookForPeriod_18 : decode cX2_lookForPeriod 18 = .ok (.iload_n 1, 1) := by decide +kernel
theorem dX2_lookForPeriod_19 : decode cX2_lookForPeriod 19 = .ok (.putfield 36, 3) := by decide +kernel
theorem dX2_lookForPeriod_22 : decode cX2_lookForPeriod 22 = .ok (.aload_n 0, 1) := by decide +kernel
theorem dX2_lookForPeriod_23 : decode cX2_lookForPeriod 23 = .ok (.aload_n 0, 1) := by decide +kernel
theorem dX2_lookForPeriod_24 : decode cX2_lookForPeriod 24 = .ok (.getfield 25, 3) := by decide +kernel
theorem dX2_lookForPeriod_27 : decode cX2_lookForPeriod 27 = .ok (.getfield 76, 3) := by decide +kernel
theorem dX2_lookForPeriod_30 : decode cX2_lookForPeriod 30 = .ok (.putfield 80, 3) := by decide +kernel
theorem dX2_lookForPeriod_33 : decode cX2_lookForPeriod 33 = .ok (.aload_n 0, 1) := by decide +kernel
theorem dX2_lookForPeriod_34 : decode cX2_lookForPeriod 34 = .ok (.aload_n 0, 1) := by decide +kernel
theorem dX2_lookForPeriod_35 : decode cX2_lookForPeriod 35 = .ok (.getfield 25, 3) := by decide +kernel
theorem dX2_lookForPeriod_38 : decode cX2_lookForPeriod 38 = .ok (.getfield 83, 3) := by decide +kernel
theorem dX2_lookForPeriod_41 : decode cX2_lookForPeriod 41 = .ok (.putfield 86, 3) := by decide +kernel
theorem dX2_lookForPeriod_44 : decode cX2_lookForPeriod 44 = .ok (.goto 50, 3) := by decide +kernel
theorem dX2_lookForPeriod_47 : decode cX2_lookForPeriod 47 = .ok (.aload_n 0, 1) := by decide +kernel
theorem dX2_lookForPeriod_48 : decode cX2_lookForPeriod 48 = .ok (.getfield 40, 3) := by decide +kernel
theorem dX2_lookForPeriod_51 : decode cX2_lookForPeriod 51 = .ok (.ifCond .ne 43, 3) := by decide +kernel
theorem dX2_lookForPeriod_54 : decode cX2_lookForPeriod 54 = .ok (.aload_n 0, 1) := by decide +kernel
theorem dX2_lookForPeriod_55 : decode cX2_lookForPeriod 55 = .ok (.getfield 25, 3) := by decide +kernel
theorem dX2_lookForPeriod_58 : decode cX2_lookForPeriod 58 = .ok (.getfield 76, 3) := by decide +kernel
theorem dX2_lookForPeriod_61 : decode cX2_lookForPeriod 61 = .ok (.aload_n 0, 1) := by decide +kernel
theorem dX2_lookForPeriod_62 : decode cX2_lookForPeriod 62 = .ok (.getfield 80, 3) := by decide +kernel
theorem dX2_lookForPeriod_65 : decode cX2_lookForPeriod 65 = .ok (.lcmp, 1) := by decide +kernel
theorem dX2_lookForPeriod_66 : decode cX2_lookForPeriod 66 = .ok (.ifCond .ne 28, 3) := by decide +kernel
theorem dX2_lookForPeriod_69 : decode cX2_lookForPeriod 69 = .ok (.aload_n 0, 1) := by decide +kernel
theorem dX2_lookForPeriod_70 : decode cX2_lookForPeriod 70 = .ok (.getfield 25, 3) := by decide +kernel
theorem dX2_lookForPeriod_73 : decode cX2_lookForPeriod 73 = .ok (.getfield 83, 3) := by decide +kernel
theorem dX2_lookForPeriod_76 : decode cX2_lookForPeriod 76 = .ok (.aload_n 0, 1) := by decide +kernel
theorem dX2_lookForPeriod_77 : decode cX2_lookForPeriod 77 = .ok (.getfield 86, 3) := by decide +kernel
theorem dX2_lookForPeriod_80 : decode cX2_lookForPeriod 80 = .ok (.lcmp, 1) := by decide +kernel
theorem dX2_lookForPeriod_81 : decode cX2_lookForPeriod 81 = .ok (.ifCond .ne 13, 3) := by decide +kernel
theorem dX2_lookForPeriod_84 : decode cX2_lookForPeriod 84 = .ok (.aload_n 0, 1) := by decide +kernel
theorem dX2_lookForPeriod_85 : decode cX2_lookForPeriod 85 = .ok (.iload_n 1, 1) := by decide +kernel
theorem dX2_lookForPeriod_86 : decode cX2_lookForPeriod 86 = .ok (.aload_n 0, 1) := by decide +kernel
theorem dX2_lookForPeriod_87 : decode cX2_lookForPeriod 87 = .ok (.getfield 36, 3) := by decide +kernel
theorem dX2_lookForPeriod_90 : decode cX2_lookForPeriod 90 = .ok (.isub, 1) := by decide +kernel
theorem dX2_lookForPeriod_91 : decode cX2_lookForPeriod 91 = .ok (.putfield 40, 3) := by decide +kernel
theorem dX2_lookForPeriod_94 : decode cX2_lookForPeriod 94 = .ok (.return_, 1) := by decide +kernel
theorem dX2_chainConvergents_0 : decode cX2_chainConvergents 0 = .ok (.aload_n 0, 1) := by decide +kernel
theorem dX2_chainConvergents_1 : decode cX2_chainConvergents 1 = .ok (.iconst 0, 1) := by decide +kernel
theorem dX2_chainConvergents_2 : decode cX2_chainConvergents 2 = .ok (.putfield 89, 3) := by decide +kernel
theorem dX2_chainConvergents_5 : decode cX2_chainConvergents 5 = .ok (.aload_n 0, 1) := by decide +kernel
theorem dX2_chainConvergents_6 : decode cX2_chainConvergents 6 = .ok (.getfield 32, 3) := by decide +kernel
theorem dX2_chainConvergents_9 : decode cX2_chainConvergents 9 = .ok (.invokevirtual 92, 3) := by decide +kernel
theorem dX2_chainConvergents_12 : decode cX2_chainConvergents 12 = .ok (.iconst 0, 1) := by decide +kernel
theorem dX2_chainConvergents_13 : decode cX2_chainConvergents 13 = .ok (.istore_n 1, 1) := by decide +kernel
theorem dX2_chainConvergents_14 : decode cX2_chainConvergents 14 = .ok (.iload_n 1, 1) := by decide +kernel
theorem dX2_chainConvergents_15 : decode cX2_chainConvergents 15 = .ok (.sipush 400, 3) := by decide +kernel
theorem dX2_chainConvergents_18 : decode cX2_chainConvergents 18 = .ok (.if_icmp .ge 87, 3) := by decide +kernel
theorem dX2_chainConvergents_21 : decode cX2_chainConvergents 21 = .ok (.iload_n 1, 1) := by decide +kernel
theorem dX2_chainConvergents_22 : decode cX2_chainConvergents 22 = .ok (.aload_n 0, 1) := by decide +kernel
theorem dX2_chainConvergents_23 : decode cX2_chainConvergents 23 = .ok (.getfield 15, 3) := by decide +kernel
theorem dX2_chainConvergents_26 : decode cX2_chainConvergents 26 = .ok (.arraylength, 1) := by decide +kernel
theorem dX2_chainConvergents_27 : decode cX2_chainConvergents 27 = .ok (.if_icmp .ge 78, 3) := by decide +kernel
theorem dX2_chainConvergents_30 : decode cX2_chainConvergents 30 = .ok (.iload_n 1, 1) := by decide +kernel
theorem dX2_chainConvergents_31 : decode cX2_chainConvergents 31 = .ok (.aload_n 0, 1) := by decide +kernel
theorem dX2_chainConvergents_32 : decode cX2_chainConvergents 32 = .ok (.getfield 19, 3) := by decide +kernel
theorem dX2_chainConvergents_35 : decode cX2_chainConvergents 35 = .ok (.arraylength, 1) := by decide +kernel
theorem dX2_chainConvergents_36 : decode cX2_chainConvergents 36 = .ok (.if_icmp .ge 69, 3) := by decide +kernel
theorem dX2_chainConvergents_39 : decode cX2_chainConvergents 39 = .ok (.aload_n 0, 1) := by decide +kernel
theorem dX2_chainConvergents_40 : decode cX2_chainConvergents 40 = .ok (.getfield 32, 3) := by decide +kernel
theorem dX2_chainConvergents_43 : decode cX2_chainConvergents 43 = .ok (.aload_n 0, 1) := by decide +kernel
theorem dX2_chainConvergents_44 : decode cX2_chainConvergents 44 = .ok (.iload_n 1, 1) := by decide +kernel
theorem dX2_chainConvergents_45 : decode cX2_chainConvergents 45 = .ok (.invokevirtual 94, 3) := by decide +kernel
theorem dX2_chainConvergents_48 : decode cX2_chainConvergents 48 = .ok (.i2l, 1) := by decide +kernel
theorem dX2_chainConvergents_49 : decode cX2_chainConvergents 49 = .ok (.invokevirtual 98, 3) := by decide +kernel
theorem dX2_chainConvergents_52 : decode cX2_chainConvergents 52 = .ok (.aload_n 0, 1) := by decide +kernel
theorem dX2_chainConvergents_53 : decode cX2_chainConvergents 53 = .ok (.getfield 32, 3) := by decide +kernel
theorem dX2_chainConvergents_56 : decode cX2_chainConvergents 56 = .ok (.getfield 102, 3) := by decide +kernel
theorem dX2_chainConvergents_59 : decode cX2_chainConvergents 59 = .ok (.ifCond .eq 4, 3) := by decide +kernel
theorem dX2_chainConvergents_62 : decode cX2_chainConvergents 62 = .ok (.return_, 1) := by decide +kernel
theorem dX2_chainConvergents_63 : decode cX2_chainConvergents 63 = .ok (.aload_n 0, 1) := by decide +kernel
theorem dX2_chainConvergents_64 : decode cX2_chainConvergents 64 = .ok (.getfield 15, 3) := by decide +kernel
theorem dX2_chainConvergents_67 : decode cX2_chainConvergents 67 = .ok (.iload_n 1, 1) := by decide +kernel
theorem dX2_chainConvergents_68 : decode cX2_chainConvergents 68 = .ok (.aload_n 0, 1) := by decide +kernel
theorem dX2_chainConvergents_69 : decode cX2_chainConvergents 69 = .ok (.getfield 32, 3) := by decide +kernel
theorem dX2_chainConvergents_72 : decode cX2_chainConvergents 72 = .ok (.getfield 106, 3) := by decide +kernel
theorem dX2_chainConvergents_75 : decode cX2_chainConvergents 75 = .ok (.lastore, 1) := by decide +kernel
theorem dX2_chainConvergents_76 : decode cX2_chainConvergents 76 = .ok (.aload_n 0, 1) := by decide +kernel
theorem dX2_chainConvergents_77 : decode cX2_chainConvergents 77 = .ok (.getfield 19, 3) := by decide +kernel
theorem dX2_chainConvergents_80 : decode cX2_chainConvergents 80 = .ok (.iload_n 1, 1) := by decide +kernel
theorem dX2_chainConvergents_81 : decode cX2_chainConvergents 81 = .ok (.aload_n 0, 1) := by decide +kernel
theorem dX2_chainConvergents_82 : decode cX2_chainConvergents 82 = .ok (.getfield 32, 3) := by decide +kernel
theorem dX2_chainConvergents_85 : decode cX2_chainConvergents 85 = .ok (.getfield 109, 3) := by decide +kernel
theorem dX2_chainConvergents_88 : decode cX2_chainConvergents 88 = .ok (.lastore, 1) := by decide +kernel
theorem dX2_chainConvergents_89 : decode cX2_chainConvergents 89 = .ok (.aload_n 0, 1) := by decide +kernel
theorem dX2_chainConvergents_90 : decode cX2_chainConvergents 90 = .ok (.dup, 1) := by decide +kernel
theorem dX2_chainConvergents_91 : decode cX2_chainConvergents 91 = .ok (.getfield 89, 3) := by decide +kernel
theorem dX2_chainConvergents_94 : decode cX2_chainConvergents 94 = .ok (.iconst 1, 1) := by decide +kernel
theorem dX2_chainConvergents_95 : decode cX2_chainConvergents 95 = .ok (.iadd, 1) := by decide +kernel
theorem dX2_chainConvergents_96 : decode cX2_chainConvergents 96 = .ok (.putfield 89, 3) := by decide +kernel
theorem dX2_chainConvergents_99 : decode cX2_chainConvergents 99 = .ok (.iinc 1 1, 3) := by decide +kernel
theorem dX2_chainConvergents_102 : decode cX2_chainConvergents 102 = .ok (.goto (-88), 3) := by decide +kernel
theorem dX2_chainConvergents_105 : decode cX2_chainConvergents 105 = .ok (.return_, 1) := by decide +kernel
theorem dX2_termAt_0 : decode cX2_termAt 0 = .ok (.iload_n 1, 1) := by decide +kernel
theorem dX2_termAt_1 : decode cX2_termAt 1 = .ok (.ifCond .lt 21, 3) := by decide +kernel
theorem dX2_termAt_4 : decode cX2_termAt 4 = .ok (.iload_n 1, 1) := by decide +kernel
theorem dX2_termAt_5 : decode cX2_termAt 5 = .ok (.aload_n 0, 1) := by decide +kernel
theorem dX2_termAt_6 : decode cX2_termAt 6 = .ok (.getfield 9, 3) := by decide +kernel
theorem dX2_termAt_9 : decode cX2_termAt 9 = .ok (.arraylength, 1) := by decide +kernel
theorem dX2_termAt_10 : decode cX2_termAt 10 = .ok (.if_icmp .ge 12, 3) := by decide +kernel
theorem dX2_termAt_13 : decode cX2_termAt 13 = .ok (.aload_n 0, 1) := by decide +kernel
theorem dX2_termAt_14 : decode cX2_termAt 14 = .ok (.getfield 9, 3) := by decide +kernel
theorem dX2_termAt_17 : decode cX2_termAt 17 = .ok (.iload_n 1, 1) := by decide +kernel
theorem dX2_termAt_18 : decode cX2_termAt 18 = .ok (.iaload, 1) := by decide +kernel
theorem dX2_termAt_19 : decode cX2_termAt 19 = .ok (.goto 4, 3) := by decide +kernel
theorem dX2_termAt_22 : decode cX2_termAt 22 = .ok (.iconst 0, 1) := by decide +kernel
theorem dX2_termAt_23 : decode cX2_termAt 23 = .ok (.ireturn, 1) := by decide +kernel
theorem dX2_upperAt_0 : decode cX2_upperAt 0 = .ok (.iload_n 1, 1) := by decide +kernel
theorem dX2_upperAt_1 : decode cX2_upperAt 1 = .ok (.ifCond .lt 21, 3) := by decide +kernel
theorem dX2_upperAt_4 : decode cX2_upperAt 4 = .ok (.iload_n 1, 1) := by decide +kernel
theorem dX2_upperAt_5 : decode cX2_upperAt 5 = .ok (.aload_n 0, 1) := by decide +kernel
theorem dX2_upperAt_6 : decode cX2_upperAt 6 = .ok (.getfield 15, 3) := by decide +kernel
theorem dX2_upperAt_9 : decode cX2_upperAt 9 = .ok (.arraylength, 1) := by decide +kernel
theorem dX2_upperAt_10 : decode cX2_upperAt 10 = .ok (.if_icmp .ge 12, 3) := by decide +kernel
theorem dX2_upperAt_13 : decode cX2_upperAt 13 = .ok (.aload_n 0, 1) := by decide +kernel
theorem dX2_upperAt_14 : decode cX2_upperAt 14 = .ok (.getfield 15, 3) := by decide +kernel
theorem dX2_upperAt_17 : decode cX2_upperAt 17 = .ok (.iload_n 1, 1) := by decide +kernel
theorem dX2_upperAt_18 : decode cX2_upperAt 18 = .ok (.laload, 1) := by decide +kernel
theorem dX2_upperAt_19 : decode cX2_upperAt 19 = .ok (.goto 4, 3) := by decide +kernel
theorem dX2_upperAt_22 : decode cX2_upperAt 22 = .ok (.lconst 0, 1) := by decide +kernel
theorem dX2_upperAt_23 : decode cX2_upperAt 23 = .ok (.lreturn, 1) := by decide +kernel
theorem dX2_lowerAt_0 : decode cX2_lowerAt 0 = .ok (.iload_n 1, 1) := by decide +kernel
theorem dX2_lowerAt_1 : decode cX2_lowerAt 1 = .ok (.ifCond .lt 21, 3) := by decide +kernel
theorem dX2_lowerAt_4 : decode cX2_lowerAt 4 = .ok (.iload_n 1, 1) := by decide +kernel
theorem dX2_lowerAt_5 : decode cX2_lowerAt 5 = .ok (.aload_n 0, 1) := by decide +kernel
theorem dX2_lowerAt_6 : decode cX2_lowerAt 6 = .ok (.getfield 19, 3) := by decide +kernel
theorem dX2_lowerAt_9 : decode cX2_lowerAt 9 = .ok (.arraylength, 1) := by decide +kernel
theorem dX2_lowerAt_10 : decode cX2_lowerAt 10 = .ok (.if_icmp .ge 12, 3) := by decide +kernel
theorem dX2_lowerAt_13 : decode cX2_lowerAt 13 = .ok (.aload_n 0, 1) := by decide +kernel
theorem dX2_lowerAt_14 : decode cX2_lowerAt 14 = .ok (.getfield 19, 3) := by decide +kernel
theorem dX2_lowerAt_17 : decode cX2_lowerAt 17 = .ok (.iload_n 1, 1) := by decide +kernel
theorem dX2_lowerAt_18 : decode cX2_lowerAt 18 = .ok (.laload, 1) := by decide +kernel
theorem dX2_lowerAt_19 : decode cX2_lowerAt 19 = .ok (.goto 4, 3) := by decide +kernel
theorem dX2_lowerAt_22 : decode cX2_lowerAt 22 = .ok (.lconst 1, 1) := by decide +kernel
theorem dX2_lowerAt_23 : decode cX2_lowerAt 23 = .ok (.lreturn, 1) := by decide +kernel
theorem dX2_comesAgain_0 : decode cX2_comesAgain 0 = .ok (.aload_n 0, 1) := by decide +kernel
theorem dX2_comesAgain_1 : decode cX2_comesAgain 1 = .ok (.getfield 40, 3) := by decide +kernel
theorem dX2_comesAgain_4 : decode cX2_comesAgain 4 = .ok (.ifCond .le 7, 3) := by decide +kernel
theorem dX2_comesAgain_7 : decode cX2_comesAgain 7 = .ok (.iconst 1, 1) := by decide +kernel
theorem dX2_comesAgain_8 : decode cX2_comesAgain 8 = .ok (.goto 4, 3) := by decide +kernel
theorem dX2_comesAgain_11 : decode cX2_comesAgain 11 = .ok (.iconst 0, 1) := by decide +kernel
theorem dX2_comesAgain_12 : decode cX2_comesAgain 12 = .ok (.ireturn, 1) := by decide +kernel
theorem dX2_greatestOfPeriod_0 : decode cX2_greatestOfPeriod 0 = .ok (.iconst 0, 1) := by decide +kernel
theorem dX2_greatestOfPeriod_1 : decode cX2_greatestOfPeriod 1 = .ok (.istore_n 1, 1) := by decide +kernel
theorem dX2_greatestOfPeriod_2 : decode cX2_greatestOfPeriod 2 = .ok (.iconst 0, 1) := by decide +kernel
theorem dX2_greatestOfPeriod_3 : decode cX2_greatestOfPeriod 3 = .ok (.istore_n 2, 1) := by decide +kernel
theorem dX2_greatestOfPeriod_4 : decode cX2_greatestOfPeriod 4 = .ok (.iload_n 2, 1) := by decide +kernel
theorem dX2_greatestOfPeriod_5 : decode cX2_greatestOfPeriod 5 = .ok (.aload_n 0, 1) := by decide +kernel
theorem dX2_greatestOfPeriod_6 : decode cX2_greatestOfPeriod 6 = .ok (.getfield 40, 3) := by decide +kernel
theorem dX2_greatestOfPeriod_9 : decode cX2_greatestOfPeriod 9 = .ok (.if_icmp .ge 24, 3) := by decide +kernel
theorem dX2_greatestOfPeriod_12 : decode cX2_greatestOfPeriod 12 = .ok (.iload_n 1, 1) := by decide +kernel
theorem dX2_greatestOfPeriod_13 : decode cX2_greatestOfPeriod 13 = .ok (.aload_n 0, 1) := by decide +kernel
theorem dX2_greatestOfPeriod_14 : decode cX2_greatestOfPeriod 14 = .ok (.aload_n 0, 1) := by decide +kernel
theorem dX2_greatestOfPeriod_15 : decode cX2_greatestOfPeriod 15 = .ok (.getfield 36, 3) := by decide +kernel
theorem dX2_greatestOfPeriod_18 : decode cX2_greatestOfPeriod 18 = .ok (.iload_n 2, 1) := by decide +kernel
theorem dX2_greatestOfPeriod_19 : decode cX2_greatestOfPeriod 19 = .ok (.iadd, 1) := by decide +kernel
theorem dX2_greatestOfPeriod_20 : decode cX2_greatestOfPeriod 20 = .ok (.invokevirtual 94, 3) := by decide +kernel
theorem dX2_greatestOfPeriod_23 : decode cX2_greatestOfPeriod 23 = .ok (.invokestatic 112, 3) := by decide +kernel
theorem dX2_greatestOfPeriod_26 : decode cX2_greatestOfPeriod 26 = .ok (.istore_n 1, 1) := by decide +kernel
theorem dX2_greatestOfPeriod_27 : decode cX2_greatestOfPeriod 27 = .ok (.iinc 2 1, 3) := by decide +kernel
theorem dX2_greatestOfPeriod_30 : decode cX2_greatestOfPeriod 30 = .ok (.goto (-26), 3) := by decide +kernel
theorem dX2_greatestOfPeriod_33 : decode cX2_greatestOfPeriod 33 = .ok (.iload_n 1, 1) := by decide +kernel
theorem dX2_greatestOfPeriod_34 : decode cX2_greatestOfPeriod 34 = .ok (.ireturn, 1) := by decide +kernel
theorem dX2_unlikeOfPeriod_0 : decode cX2_unlikeOfPeriod 0 = .ok (.iconst 0, 1) := by decide +kernel
theorem dX2_unlikeOfPeriod_1 : decode cX2_unlikeOfPeriod 1 = .ok (.istore_n 1, 1) := by decide +kernel
theorem dX2_unlikeOfPeriod_2 : decode cX2_unlikeOfPeriod 2 = .ok (.iconst 0, 1) := by decide +kernel
theorem dX2_unlikeOfPeriod_3 : decode cX2_unlikeOfPeriod 3 = .ok (.istore_n 2, 1) := by decide +kernel
theorem dX2_unlikeOfPeriod_4 : decode cX2_unlikeOfPeriod 4 = .ok (.iload_n 2, 1) := by decide +kernel
theorem dX2_unlikeOfPeriod_5 : decode cX2_unlikeOfPeriod 5 = .ok (.aload_n 0, 1) := by decide +kernel
theorem dX2_unlikeOfPeriod_6 : decode cX2_unlikeOfPeriod 6 = .ok (.getfield 40, 3) := by decide +kernel
theorem dX2_unlikeOfPeriod_9 : decode cX2_unlikeOfPeriod 9 = .ok (.if_icmp .ge 20, 3) := by decide +kernel
theorem dX2_unlikeOfPeriod_12 : decode cX2_unlikeOfPeriod 12 = .ok (.aload_n 0, 1) := by decide +kernel
theorem dX2_unlikeOfPeriod_13 : decode cX2_unlikeOfPeriod 13 = .ok (.iload_n 2, 1) := by decide +kernel
theorem dX2_unlikeOfPeriod_14 : decode cX2_unlikeOfPeriod 14 = .ok (.invokevirtual 118, 3) := by decide +kernel
theorem dX2_unlikeOfPeriod_17 : decode cX2_unlikeOfPeriod 17 = .ok (.ifCond .eq 6, 3) := by decide +kernel
theorem dX2_unlikeOfPeriod_20 : decode cX2_unlikeOfPeriod 20 = .ok (.iinc 1 1, 3) := by decide +kernel
theorem dX2_unlikeOfPeriod_23 : decode cX2_unlikeOfPeriod 23 = .ok (.iinc 2 1, 3) := by decide +kernel
theorem dX2_unlikeOfPeriod_26 : decode cX2_unlikeOfPeriod 26 = .ok (.goto (-22), 3) := by decide +kernel
theorem dX2_unlikeOfPeriod_29 : decode cX2_unlikeOfPeriod 29 = .ok (.iload_n 1, 1) := by decide +kernel
theorem dX2_unlikeOfPeriod_30 : decode cX2_unlikeOfPeriod 30 = .ok (.ireturn, 1) := by decide +kernel
theorem dX2_isNewInPeriod_0 : decode cX2_isNewInPeriod 0 = .ok (.iconst 0, 1) := by decide +kernel
theorem dX2_isNewInPeriod_1 : decode cX2_isNewInPeriod 1 = .ok (.istore_n 2, 1) := by decide +kernel
theorem dX2_isNewInPeriod_2 : decode cX2_isNewInPeriod 2 = .ok (.iload_n 2, 1) := by decide +kernel
theorem dX2_isNewInPeriod_3 : decode cX2_isNewInPeriod 3 = .ok (.iload_n 1, 1) := by decide +kernel
theorem dX2_isNewInPeriod_4 : decode cX2_isNewInPeriod 4 = .ok (.if_icmp .ge 34, 3) := by decide +kernel
theorem dX2_isNewInPeriod_7 : decode cX2_isNewInPeriod 7 = .ok (.aload_n 0, 1) := by decide +kernel
theorem dX2_isNewInPeriod_8 : decode cX2_isNewInPeriod 8 = .ok (.aload_n 0, 1) := by decide +kernel
theorem dX2_isNewInPeriod_9 : decode cX2_isNewInPeriod 9 = .ok (.getfield 36, 3) := by decide +kernel
theorem dX2_isNewInPeriod_12 : decode cX2_isNewInPeriod 12 = .ok (.iload_n 2, 1) := by decide +kernel
theorem dX2_isNewInPeriod_13 : decode cX2_isNewInPeriod 13 = .ok (.iadd, 1) := by decide +kernel
theorem dX2_isNewInPeriod_14 : decode cX2_isNewInPeriod 14 = .ok (.invokevirtual 94, 3) := by decide +kernel
theorem dX2_isNewInPeriod_17 : decode cX2_isNewInPeriod 17 = .ok (.aload_n 0, 1) := by decide +kernel
theorem dX2_isNewInPeriod_18 : decode cX2_isNewInPeriod 18 = .ok (.aload_n 0, 1) := by decide +kernel
theorem dX2_isNewInPeriod_19 : decode cX2_isNewInPeriod 19 = .ok (.getfield 36, 3) := by decide +kernel
theorem dX2_isNewInPeriod_22 : decode cX2_isNewInPeriod 22 = .ok (.iload_n 1, 1) := by decide +kernel
theorem dX2_isNewInPeriod_23 : decode cX2_isNewInPeriod 23 = .ok (.iadd, 1) := by decide +kernel
theorem dX2_isNewInPeriod_24 : decode cX2_isNewInPeriod 24 = .ok (.invokevirtual 94, 3) := by decide +kernel
theorem dX2_isNewInPeriod_27 : decode cX2_isNewInPeriod 27 = .ok (.if_icmp .ne 5, 3) := by decide +kernel
theorem dX2_isNewInPeriod_30 : decode cX2_isNewInPeriod 30 = .ok (.iconst 0, 1) := by decide +kernel
theorem dX2_isNewInPeriod_31 : decode cX2_isNewInPeriod 31 = .ok (.ireturn, 1) := by decide +kernel
theorem dX2_isNewInPeriod_32 : decode cX2_isNewInPeriod 32 = .ok (.iinc 2 1, 3) := by decide +kernel
theorem dX2_isNewInPeriod_35 : decode cX2_isNewInPeriod 35 = .ok (.goto (-33), 3) := by decide +kernel
theorem dX2_isNewInPeriod_38 : decode cX2_isNewInPeriod 38 = .ok (.iconst 1, 1) := by decide +kernel
theorem dX2_isNewInPeriod_39 : decode cX2_isNewInPeriod 39 = .ok (.ireturn, 1) := by decide +kernel
theorem dX2_isPeriodMirrored_0 : decode cX2_isPeriodMirrored 0 = .ok (.aload_n 0, 1) := by decide +kernel
theorem dX2_isPeriodMirrored_1 : decode cX2_isPeriodMirrored 1 = .ok (.getfield 40, 3) := by decide +kernel
theorem dX2_isPeriodMirrored_4 : decode cX2_isPeriodMirrored 4 = .ok (.iconst 2, 1) := by decide +kernel
theorem dX2_isPeriodMirrored_5 : decode cX2_isPeriodMirrored 5 = .ok (.isub, 1) := by decide +kernel
theorem dX2_isPeriodMirrored_6 : decode cX2_isPeriodMirrored 6 = .ok (.istore_n 1, 1) := by decide +kernel
theorem dX2_isPeriodMirrored_7 : decode cX2_isPeriodMirrored 7 = .ok (.iconst 0, 1) := by decide +kernel
theorem dX2_isPeriodMirrored_8 : decode cX2_isPeriodMirrored 8 = .ok (.istore_n 2, 1) := by decide +kernel
theorem dX2_isPeriodMirrored_9 : decode cX2_isPeriodMirrored 9 = .ok (.iload_n 2, 1) := by decide +kernel
theorem dX2_isPeriodMirrored_10 : decode cX2_isPeriodMirrored 10 = .ok (.iload_n 1, 1) := by decide +kernel
theorem dX2_isPeriodMirrored_11 : decode cX2_isPeriodMirrored 11 = .ok (.iload_n 2, 1) := by decide +kernel
theorem dX2_isPeriodMirrored_12 : decode cX2_isPeriodMirrored 12 = .ok (.isub, 1) := by decide +kernel
theorem dX2_isPeriodMirrored_13 : decode cX2_isPeriodMirrored 13 = .ok (.if_icmp .ge 36, 3) := by decide +kernel
theorem dX2_isPeriodMirrored_16 : decode cX2_isPeriodMirrored 16 = .ok (.aload_n 0, 1) := by decide +kernel
theorem dX2_isPeriodMirrored_17 : decode cX2_isPeriodMirrored 17 = .ok (.aload_n 0, 1) := by decide +kernel
theorem dX2_isPeriodMirrored_18 : decode cX2_isPeriodMirrored 18 = .ok (.getfield 36, 3) := by decide +kernel
theorem dX2_isPeriodMirrored_21 : decode cX2_isPeriodMirrored 21 = .ok (.iload_n 2, 1) := by decide +kernel
theorem dX2_isPeriodMirrored_22 : decode cX2_isPeriodMirrored 22 = .ok (.iadd, 1) := by decide +kernel
theorem dX2_isPeriodMirrored_23 : decode cX2_isPeriodMirrored 23 = .ok (.invokevirtual 94, 3) := by decide +kernel
theorem dX2_isPeriodMirrored_26 : decode cX2_isPeriodMirrored 26 = .ok (.aload_n 0, 1) := by decide +kernel
theorem dX2_isPeriodMirrored_27 : decode cX2_isPeriodMirrored 27 = .ok (.aload_n 0, 1) := by decide +kernel
theorem dX2_isPeriodMirrored_28 : decode cX2_isPeriodMirrored 28 = .ok (.getfield 36, 3) := by decide +kernel
theorem dX2_isPeriodMirrored_31 : decode cX2_isPeriodMirrored 31 = .ok (.iload_n 1, 1) := by decide +kernel
theorem dX2_isPeriodMirrored_32 : decode cX2_isPeriodMirrored 32 = .ok (.iadd, 1) := by decide +kernel
theorem dX2_isPeriodMirrored_33 : decode cX2_isPeriodMirrored 33 = .ok (.iload_n 2, 1) := by decide +kernel
theorem dX2_isPeriodMirrored_34 : decode cX2_isPeriodMirrored 34 = .ok (.isub, 1) := by decide +kernel
theorem dX2_isPeriodMirrored_35 : decode cX2_isPeriodMirrored 35 = .ok (.invokevirtual 94, 3) := by decide +kernel
theorem dX2_isPeriodMirrored_38 : decode cX2_isPeriodMirrored 38 = .ok (.if_icmp .eq 5, 3) := by decide +kernel
theorem dX2_isPeriodMirrored_41 : decode cX2_isPeriodMirrored 41 = .ok (.iconst 0, 1) := by decide +kernel
theorem dX2_isPeriodMirrored_42 : decode cX2_isPeriodMirrored 42 = .ok (.ireturn, 1) := by decide +kernel
theorem dX2_isPeriodMirrored_43 : decode cX2_isPeriodMirrored 43 = .ok (.iinc 2 1, 3) := by decide +kernel
theorem dX2_isPeriodMirrored_46 : decode cX2_isPeriodMirrored 46 = .ok (.goto (-37), 3) := by decide +kernel
theorem dX2_isPeriodMirrored_49 : decode cX2_isPeriodMirrored 49 = .ok (.iconst 1, 1) := by decide +kernel
theorem dX2_isPeriodMirrored_50 : decode cX2_isPeriodMirrored 50 = .ok (.ireturn, 1) := by decide +kernel
theorem dX2_hasConvergent_0 : decode cX2_hasConvergent 0 = .ok (.iconst 0, 1) := by decide +kernel
theorem dX2_hasConvergent_1 : decode cX2_hasConvergent 1 = .ok (.istore 5, 2) := by decide +kernel
theorem dX2_hasConvergent_3 : decode cX2_hasConvergent 3 = .ok (.iload 5, 2) := by decide +kernel
theorem dX2_hasConvergent_5 : decode cX2_hasConvergent 5 = .ok (.aload_n 0, 1) := by decide +kernel
theorem dX2_hasConvergent_6 : decode cX2_hasConvergent 6 = .ok (.getfield 89, 3) := by decide +kernel
theorem dX2_hasConvergent_9 : decode cX2_hasConvergent 9 = .ok (.if_icmp .ge 33, 3) := by decide +kernel
theorem dX2_hasConvergent_12 : decode cX2_hasConvergent 12 = .ok (.aload_n 0, 1) := by decide +kernel
theorem dX2_hasConvergent_13 : decode cX2_hasConvergent 13 = .ok (.iload 5, 2) := by decide +kernel
theorem dX2_hasConvergent_15 : decode cX2_hasConvergent 15 = .ok (.invokevirtual 122, 3) := by decide +kernel
theorem dX2_hasConvergent_18 : decode cX2_hasConvergent 18 = .ok (.lload_n 1, 1) := by decide +kernel
theorem dX2_hasConvergent_19 : decode cX2_hasConvergent 19 = .ok (.lcmp, 1) := by decide +kernel
theorem dX2_hasConvergent_20 : decode cX2_hasConvergent 20 = .ok (.ifCond .ne 16, 3) := by decide +kernel
theorem dX2_hasConvergent_23 : decode cX2_hasConvergent 23 = .ok (.aload_n 0, 1) := by decide +kernel
theorem dX2_hasConvergent_24 : decode cX2_hasConvergent 24 = .ok (.iload 5, 2) := by decide +kernel
theorem dX2_hasConvergent_26 : decode cX2_hasConvergent 26 = .ok (.invokevirtual 126, 3) := by decide +kernel
theorem dX2_hasConvergent_29 : decode cX2_hasConvergent 29 = .ok (.lload_n 3, 1) := by decide +kernel
theorem dX2_hasConvergent_30 : decode cX2_hasConvergent 30 = .ok (.lcmp, 1) := by decide +kernel
theorem dX2_hasConvergent_31 : decode cX2_hasConvergent 31 = .ok (.ifCond .ne 5, 3) := by decide +kernel
theorem dX2_hasConvergent_34 : decode cX2_hasConvergent 34 = .ok (.iconst 1, 1) := by decide +kernel
theorem dX2_hasConvergent_35 : decode cX2_hasConvergent 35 = .ok (.ireturn, 1) := by decide +kernel
theorem dX2_hasConvergent_36 : decode cX2_hasConvergent 36 = .ok (.iinc 5 1, 3) := by decide +kernel
theorem dX2_hasConvergent_39 : decode cX2_hasConvergent 39 = .ok (.goto (-36), 3) := by decide +kernel
theorem dX2_hasConvergent_42 : decode cX2_hasConvergent 42 = .ok (.iconst 0, 1) := by decide +kernel
theorem dX2_hasConvergent_43 : decode cX2_hasConvergent 43 = .ok (.ireturn, 1) := by decide +kernel
theorem dX2_countShared_0 : decode cX2_countShared 0 = .ok (.iconst 0, 1) := by decide +kernel
theorem dX2_countShared_1 : decode cX2_countShared 1 = .ok (.istore_n 2, 1) := by decide +kernel
theorem dX2_countShared_2 : decode cX2_countShared 2 = .ok (.iload_n 2, 1) := by decide +kernel
theorem dX2_countShared_3 : decode cX2_countShared 3 = .ok (.aload_n 1, 1) := by decide +kernel
theorem dX2_countShared_4 : decode cX2_countShared 4 = .ok (.getfield 129, 3) := by decide +kernel
theorem dX2_countShared_7 : decode cX2_countShared 7 = .ok (.if_icmp .ge 22, 3) := by decide +kernel
theorem dX2_countShared_10 : decode cX2_countShared 10 = .ok (.aload_n 1, 1) := by decide +kernel
theorem dX2_countShared_11 : decode cX2_countShared 11 = .ok (.iload_n 2, 1) := by decide +kernel
theorem dX2_countShared_12 : decode cX2_countShared 12 = .ok (.invokevirtual 134, 3) := by decide +kernel
theorem dX2_countShared_15 : decode cX2_countShared 15 = .ok (.aload_n 0, 1) := by decide +kernel
theorem dX2_countShared_16 : decode cX2_countShared 16 = .ok (.iload_n 2, 1) := by decide +kernel
theorem dX2_countShared_17 : decode cX2_countShared 17 = .ok (.invokevirtual 94, 3) := by decide +kernel
theorem dX2_countShared_20 : decode cX2_countShared 20 = .ok (.if_icmp .ne 9, 3) := by decide +kernel
theorem dX2_countShared_23 : decode cX2_countShared 23 = .ok (.iinc 2 1, 3) := by decide +kernel
theorem dX2_countShared_26 : decode cX2_countShared 26 = .ok (.goto (-24), 3) := by decide +kernel
theorem dX2_countShared_29 : decode cX2_countShared 29 = .ok (.iload_n 2, 1) := by decide +kernel
theorem dX2_countShared_30 : decode cX2_countShared 30 = .ok (.ireturn, 1) := by decide +kernel
theorem dX3_init_0 : decode cX3_init 0 = .ok (.aload_n 0, 1) := by decide +kernel
theorem dX3_init_1 : decode cX3_init 1 = .ok (.invokespecial 3, 3) := by decide +kernel
theorem dX3_init_4 : decode cX3_init 4 = .ok (.aload_n 0, 1) := by decide +kernel
theorem dX3_init_5 : decode cX3_init 5 = .ok (.iconst 4, 1) := by decide +kernel
theorem dX3_init_6 : decode cX3_init 6 = .ok (.anewarray 9, 3) := by decide +kernel
theorem dX3_init_9 : decode cX3_init 9 = .ok (.putfield 11, 3) := by decide +kernel
theorem dX3_init_12 : decode cX3_init 12 = .ok (.iconst 0, 1) := by decide +kernel
theorem dX3_init_13 : decode cX3_init 13 = .ok (.istore_n 1, 1) := by decide +kernel
theorem dX3_init_14 : decode cX3_init 14 = .ok (.iload_n 1, 1) := by decide +kernel
theorem dX3_init_15 : decode cX3_init 15 = .ok (.aload_n 0, 1) := by decide +kernel
theorem dX3_init_16 : decode cX3_init 16 = .ok (.getfield 11, 3) := by decide +kernel
theorem dX3_init_19 : decode cX3_init 19 = .ok (.arraylength, 1) := by decide +kernel
theorem dX3_init_20 : decode cX3_init 20 = .ok (.if_icmp .ge 22, 3) := by decide +kernel
theorem dX3_init_23 : decode cX3_init 23 = .ok (.aload_n 0, 1) := by decide +kernel
theorem dX3_init_24 : decode cX3_init 24 = .ok (.getfield 11, 3) := by decide +kernel
theorem dX3_init_27 : decode cX3_init 27 = .ok (.iload_n 1, 1) := by decide +kernel
theorem dX3_init_28 : decode cX3_init 28 = .ok (.new 9, 3) := by decide +kernel
theorem dX3_init_31 : decode cX3_init 31 = .ok (.dup, 1) := by decide +kernel
theorem dX3_init_32 : decode cX3_init 32 = .ok (.invokespecial 17, 3) := by decide +kernel
theorem dX3_init_35 : decode cX3_init 35 = .ok (.aastore, 1) := by decide +kernel
theorem dX3_init_36 : decode cX3_init 36 = .ok (.iinc 1 1, 3) := by decide +kernel
theorem dX3_init_39 : decode cX3_init 39 = .ok (.goto (-25), 3) := by decide +kernel
theorem dX3_init_42 : decode cX3_init 42 = .ok (.return_, 1) := by decide +kernel
theorem dX3_keep_0 : decode cX3_keep 0 = .ok (.aload_n 0, 1) := by decide +kernel
theorem dX3_keep_1 : decode cX3_keep 1 = .ok (.getfield 18, 3) := by decide +kernel
theorem dX3_keep_4 : decode cX3_keep 4 = .ok (.aload_n 0, 1) := by decide +kernel
theorem dX3_keep_5 : decode cX3_keep 5 = .ok (.getfield 11, 3) := by decide +kernel
theorem dX3_keep_8 : decode cX3_keep 8 = .ok (.arraylength, 1) := by decide +kernel
theorem dX3_keep_9 : decode cX3_keep 9 = .ok (.if_icmp .lt 7, 3) := by decide +kernel
theorem dX3_keep_12 : decode cX3_keep 12 = .ok (.aload_n 0, 1) := by decide +kernel
theorem dX3_keep_13 : decode cX3_keep 13 = .ok (.invokevirtual 22, 3) := by decide +kernel
theorem dX3_keep_16 : decode cX3_keep 16 = .ok (.aload_n 0, 1) := by decide +kernel
theorem dX3_keep_17 : decode cX3_keep 17 = .ok (.getfield 18, 3) := by decide +kernel
theorem dX3_keep_20 : decode cX3_keep 20 = .ok (.ifCond .lt 50, 3) := by decide +kernel
theorem dX3_keep_23 : decode cX3_keep 23 = .ok (.aload_n 0, 1) := by decide +kernel
theorem dX3_keep_24 : decode cX3_keep 24 = .ok (.getfield 18, 3) := by decide +kernel
theorem dX3_keep_27 : decode cX3_keep 27 = .ok (.aload_n 0, 1) := by decide +kernel
theorem dX3_keep_28 : decode cX3_keep 28 = .ok (.getfield 11, 3) := by decide +kernel
theorem dX3_keep_31 : decode cX3_keep 31 = .ok (.arraylength, 1) := by decide +kernel
theorem dX3_keep_32 : decode cX3_keep 32 = .ok (.if_icmp .ge 38, 3) := by decide +kernel
theorem dX3_keep_35 : decode cX3_keep 35 = .ok (.aload_n 0, 1) := by decide +kernel
theorem dX3_keep_36 : decode cX3_keep 36 = .ok (.getfield 11, 3) := by decide +kernel
theorem dX3_keep_39 : decode cX3_keep 39 = .ok (.aload_n 0, 1) := by decide +kernel
theorem dX3_keep_40 : decode cX3_keep 40 = .ok (.getfield 18, 3) := by decide +kernel
theorem dX3_keep_43 : decode cX3_keep 43 = .ok (.aaload, 1) := by decide +kernel
theorem dX3_keep_44 : decode cX3_keep 44 = .ok (.ifnull 26, 3) := by decide +kernel
theorem dX3_keep_47 : decode cX3_keep 47 = .ok (.aload_n 0, 1) := by decide +kernel
theorem dX3_keep_48 : decode cX3_keep 48 = .ok (.getfield 11, 3) := by decide +kernel
theorem dX3_keep_51 : decode cX3_keep 51 = .ok (.aload_n 0, 1) := by decide +kernel
theorem dX3_keep_52 : decode cX3_keep 52 = .ok (.getfield 18, 3) := by decide +kernel
theorem dX3_keep_55 : decode cX3_keep 55 = .ok (.aaload, 1) := by decide +kernel
theorem dX3_keep_56 : decode cX3_keep 56 = .ok (.aload_n 1, 1) := by decide +kernel
theorem dX3_keep_57 : decode cX3_keep 57 = .ok (.invokevirtual 25, 3) := by decide +kernel
theorem dX3_keep_60 : decode cX3_keep 60 = .ok (.aload_n 0, 1) := by decide +kernel
theorem dX3_keep_61 : decode cX3_keep 61 = .ok (.dup, 1) := by decide +kernel
theorem dX3_keep_62 : decode cX3_keep 62 = .ok (.getfield 18, 3) := by decide +kernel
theorem dX3_keep_65 : decode cX3_keep 65 = .ok (.iconst 1, 1) := by decide +kernel
theorem dX3_keep_66 : decode cX3_keep 66 = .ok (.iadd, 1) := by decide +kernel
theorem dX3_keep_67 : decode cX3_keep 67 = .ok (.putfield 18, 3) := by decide +kernel
theorem dX3_keep_70 : decode cX3_keep 70 = .ok (.return_, 1) := by decide +kernel
theorem dX3_takeBack_0 : decode cX3_takeBack 0 = .ok (.aload_n 0, 1) := by decide +kernel
theorem dX3_takeBack_1 : decode cX3_takeBack 1 = .ok (.getfield 18, 3) := by decide +kernel
theorem dX3_takeBack_4 : decode cX3_takeBack 4 = .ok (.ifCond .le 52, 3) := by decide +kernel
theorem dX3_takeBack_7 : decode cX3_takeBack 7 = .ok (.aload_n 0, 1) := by decide +kernel
theorem dX3_takeBack_8 : decode cX3_takeBack 8 = .ok (.getfield 18, 3) := by decide +kernel
theorem dX3_takeBack_11 : decode cX3_takeBack 11 = .ok (.aload_n 0, 1) := by decide +kernel
theorem dX3_takeBack_12 : decode cX3_takeBack 12 = .ok (.getfield 11, 3) := by decide +kernel
theorem dX3_takeBack_15 : decode cX3_takeBack 15 = .ok (.arraylength, 1) := by decide +kernel
theorem dX3_takeBack_16 : decode cX3_takeBack 16 = .ok (.if_icmp .gt 40, 3) := by decide +kernel
theorem dX3_takeBack_19 : decode cX3_takeBack 19 = .ok (.aload_n 0, 1) := by decide +kernel
theorem dX3_takeBack_20 : decode cX3_takeBack 20 = .ok (.getfield 11, 3) := by decide +kernel
theorem dX3_takeBack_23 : decode cX3_takeBack 23 = .ok (.aload_n 0, 1) := by decide +kernel
theorem dX3_takeBack_24 : decode cX3_takeBack 24 = .ok (.getfield 18, 3) := by decide +kernel
theorem dX3_takeBack_27 : decode cX3_takeBack 27 = .ok (.iconst 1, 1) := by decide +kernel
theorem dX3_takeBack_28 : decode cX3_takeBack 28 = .ok (.isub, 1) := by decide +kernel
theorem dX3_takeBack_29 : decode cX3_takeBack 29 = .ok (.aaload, 1) := by decide +kernel
theorem dX3_takeBack_30 : decode cX3_takeBack 30 = .ok (.ifnull 26, 3) := by decide +kernel
theorem dX3_takeBack_33 : decode cX3_takeBack 33 = .ok (.aload_n 0, 1) := by decide +kernel
theorem dX3_takeBack_34 : decode cX3_takeBack 34 = .ok (.dup, 1) := by decide +kernel
theorem dX3_takeBack_35 : decode cX3_takeBack 35 = .ok (.getfield 18, 3) := by decide +kernel
theorem dX3_takeBack_38 : decode cX3_takeBack 38 = .ok (.iconst 1, 1) := by decide +kernel
theorem dX3_takeBack_39 : decode cX3_takeBack 39 = .ok (.isub, 1) := by decide +kernel
theorem dX3_takeBack_40 : decode cX3_takeBack 40 = .ok (.putfield 18, 3) := by decide +kernel
theorem dX3_takeBack_43 : decode cX3_takeBack 43 = .ok (.aload_n 1, 1) := by decide +kernel
theorem dX3_takeBack_44 : decode cX3_takeBack 44 = .ok (.aload_n 0, 1) := by decide +kernel
theorem dX3_takeBack_45 : decode cX3_takeBack 45 = .ok (.getfield 11, 3) := by decide +kernel
theorem dX3_takeBack_48 : decode cX3_takeBack 48 = .ok (.aload_n 0, 1) := by decide +kernel
theorem dX3_takeBack_49 : decode cX3_takeBack 49 = .ok (.getfield 18, 3) := by decide +kernel
theorem dX3_takeBack_52 : decode cX3_takeBack 52 = .ok (.aaload, 1) := by decide +kernel
theorem dX3_takeBack_53 : decode cX3_takeBack 53 = .ok (.invokevirtual 25, 3) := by decide +kernel
theorem dX3_takeBack_56 : decode cX3_takeBack 56 = .ok (.return_, 1) := by decide +kernel
theorem dX3_dropOldest_0 : decode cX3_dropOldest 0 = .ok (.aload_n 0, 1) := by decide +kernel
theorem dX3_dropOldest_1 : decode cX3_dropOldest 1 = .ok (.getfield 11, 3) := by decide +kernel
theorem dX3_dropOldest_4 : decode cX3_dropOldest 4 = .ok (.arraylength, 1) := by decide +kernel
theorem dX3_dropOldest_5 : decode cX3_dropOldest 5 = .ok (.ifCond .ne 4, 3) := by decide +kernel
theorem dX3_dropOldest_8 : decode cX3_dropOldest 8 = .ok (.return_, 1) := by decide +kernel
theorem dX3_dropOldest_9 : decode cX3_dropOldest 9 = .ok (.aload_n 0, 1) := by decide +kernel
theorem dX3_dropOldest_10 : decode cX3_dropOldest 10 = .ok (.getfield 11, 3) := by decide +kernel
theorem dX3_dropOldest_13 : decode cX3_dropOldest 13 = .ok (.iconst 0, 1) := by decide +kernel
theorem dX3_dropOldest_14 : decode cX3_dropOldest 14 = .ok (.aaload, 1) := by decide +kernel
theorem dX3_dropOldest_15 : decode cX3_dropOldest 15 = .ok (.astore_n 1, 1) := by decide +kernel
theorem dX3_dropOldest_16 : decode cX3_dropOldest 16 = .ok (.iconst 1, 1) := by decide +kernel
theorem dX3_dropOldest_17 : decode cX3_dropOldest 17 = .ok (.istore_n 2, 1) := by decide +kernel
theorem dX3_dropOldest_18 : decode cX3_dropOldest 18 = .ok (.iload_n 2, 1) := by decide +kernel
theorem dX3_dropOldest_19 : decode cX3_dropOldest 19 = .ok (.aload_n 0, 1) := by decide +kernel
theorem dX3_dropOldest_20 : decode cX3_dropOldest 20 = .ok (.getfield 11, 3) := by decide +kernel
theorem dX3_dropOldest_23 : decode cX3_dropOldest 23 = .ok (.arraylength, 1) := by decide +kernel
theorem dX3_dropOldest_24 : decode cX3_dropOldest 24 = .ok (.if_icmp .ge 23, 3) := by decide +kernel
theorem dX3_dropOldest_27 : decode cX3_dropOldest 27 = .ok (.aload_n 0, 1) := by decide +kernel
theorem dX3_dropOldest_28 : decode cX3_dropOldest 28 = .ok (.getfield 11, 3) := by decide +kernel
theorem dX3_dropOldest_31 : decode cX3_dropOldest 31 = .ok (.iload_n 2, 1) := by decide +kernel
theorem dX3_dropOldest_32 : decode cX3_dropOldest 32 = .ok (.iconst 1, 1) := by decide +kernel
theorem dX3_dropOldest_33 : decode cX3_dropOldest 33 = .ok (.isub, 1) := by decide +kernel
theorem dX3_dropOldest_34 : decode cX3_dropOldest 34 = .ok (.aload_n 0, 1) := by decide +kernel
theorem dX3_dropOldest_35 : decode cX3_dropOldest 35 = .ok (.getfield 11, 3) := by decide +kernel
theorem dX3_dropOldest_38 : decode cX3_dropOldest 38 = .ok (.iload_n 2, 1) := by decide +kernel
theorem dX3_dropOldest_39 : decode cX3_dropOldest 39 = .ok (.aaload, 1) := by decide +kernel
theorem dX3_dropOldest_40 : decode cX3_dropOldest 40 = .ok (.aastore, 1) := by decide +kernel
theorem dX3_dropOldest_41 : decode cX3_dropOldest 41 = .ok (.iinc 2 1, 3) := by decide +kernel
theorem dX3_dropOldest_44 : decode cX3_dropOldest 44 = .ok (.goto (-26), 3) := by decide +kernel
theorem dX3_dropOldest_47 : decode cX3_dropOldest 47 = .ok (.aload_n 0, 1) := by decide +kernel
theorem dX3_dropOldest_48 : decode cX3_dropOldest 48 = .ok (.getfield 11, 3) := by decide +kernel
theorem dX3_dropOldest_51 : decode cX3_dropOldest 51 = .ok (.aload_n 0, 1) := by decide +kernel
theorem dX3_dropOldest_52 : decode cX3_dropOldest 52 = .ok (.getfield 11, 3) := by decide +kernel
theorem dX3_dropOldest_55 : decode cX3_dropOldest 55 = .ok (.arraylength, 1) := by decide +kernel
theorem dX3_dropOldest_56 : decode cX3_dropOldest 56 = .ok (.iconst 1, 1) := by decide +kernel
theorem dX3_dropOldest_57 : decode cX3_dropOldest 57 = .ok (.isub, 1) := by decide +kernel
theorem dX3_dropOldest_58 : decode cX3_dropOldest 58 = .ok (.aload_n 1, 1) := by decide +kernel
theorem dX3_dropOldest_59 : decode cX3_dropOldest 59 = .ok (.aastore, 1) := by decide +kernel
theorem dX3_dropOldest_60 : decode cX3_dropOldest 60 = .ok (.aload_n 0, 1) := by decide +kernel
theorem dX3_dropOldest_61 : decode cX3_dropOldest 61 = .ok (.aload_n 0, 1) := by decide +kernel
theorem dX3_dropOldest_62 : decode cX3_dropOldest 62 = .ok (.getfield 11, 3) := by decide +kernel
theorem dX3_dropOldest_65 : decode cX3_dropOldest 65 = .ok (.arraylength, 1) := by decide +kernel
theorem dX3_dropOldest_66 : decode cX3_dropOldest 66 = .ok (.iconst 1, 1) := by decide +kernel
theorem dX3_dropOldest_67 : decode cX3_dropOldest 67 = .ok (.isub, 1) := by decide +kernel
theorem dX3_dropOldest_68 : decode cX3_dropOldest 68 = .ok (.putfield 18, 3) := by decide +kernel
theorem dX3_dropOldest_71 : decode cX3_dropOldest 71 = .ok (.return_, 1) := by decide +kernel
theorem dX4_init_0 : decode cX4_init 0 = .ok (.aload_n 0, 1) := by decide +kernel
theorem dX4_init_1 : decode cX4_init 1 = .ok (.invokespecial 1, 3) := by decide +kernel
theorem dX4_init_4 : decode cX4_init 4 = .ok (.return_, 1) := by decide +kernel
theorem dX4_find_0 : decode cX4_find 0 = .ok (.aload_n 0, 1) := by decide +kernel
theorem dX4_find_1 : decode cX4_find 1 = .ok (.iload_n 2, 1) := by decide +kernel
theorem dX4_find_2 : decode cX4_find 2 = .ok (.i2l, 1) := by decide +kernel
theorem dX4_find_3 : decode cX4_find 3 = .ok (.putfield 7, 3) := by decide +kernel
theorem dX4_find_6 : decode cX4_find 6 = .ok (.aload_n 0, 1) := by decide +kernel
theorem dX4_find_7 : decode cX4_find 7 = .ok (.lconst 1, 1) := by decide +kernel
theorem dX4_find_8 : decode cX4_find 8 = .ok (.putfield 13, 3) := by decide +kernel
theorem dX4_find_11 : decode cX4_find 11 = .ok (.aload_n 0, 1) := by decide +kernel
theorem dX4_find_12 : decode cX4_find 12 = .ok (.iload_n 2, 1) := by decide +kernel
theorem dX4_find_13 : decode cX4_find 13 = .ok (.iconst 1, 1) := by decide +kernel
theorem dX4_find_14 : decode cX4_find 14 = .ok (.iadd, 1) := by decide +kernel
theorem dX4_find_15 : decode cX4_find 15 = .ok (.i2l, 1) := by decide +kernel
theorem dX4_find_16 : decode cX4_find 16 = .ok (.putfield 16, 3) := by decide +kernel
theorem dX4_find_19 : decode cX4_find 19 = .ok (.aload_n 0, 1) := by decide +kernel
theorem dX4_find_20 : decode cX4_find 20 = .ok (.lconst 1, 1) := by decide +kernel
theorem dX4_find_21 : decode cX4_find 21 = .ok (.putfield 19, 3) := by decide +kernel
theorem dX4_find_24 : decode cX4_find 24 = .ok (.aload_n 0, 1) := by decide +kernel
theorem dX4_find_25 : decode cX4_find 25 = .ok (.iconst 1, 1) := by decide +kernel
theorem dX4_find_26 : decode cX4_find 26 = .ok (.putfield 22, 3) := by decide +kernel
theorem dX4_find_29 : decode cX4_find 29 = .ok (.iconst 0, 1) := by decide +kernel
theorem dX4_find_30 : decode cX4_find 30 = .ok (.istore 4, 2) := by decide +kernel
theorem dX4_find_32 : decode cX4_find 32 = .ok (.iload 4, 2) := by decide +kernel
theorem dX4_find_34 : decode cX4_find 34 = .ok (.iload_n 3, 1) := by decide +kernel
theorem dX4_find_35 : decode cX4_find 35 = .ok (.if_icmp .ge 29, 3) := by decide +kernel
theorem dX4_find_38 : decode cX4_find 38 = .ok (.aload_n 0, 1) := by decide +kernel
theorem dX4_find_39 : decode cX4_find 39 = .ok (.getfield 13, 3) := by decide +kernel
theorem dX4_find_42 : decode cX4_find 42 = .ok (.aload_n 0, 1) := by decide +kernel
theorem dX4_find_43 : decode cX4_find 43 = .ok (.getfield 19, 3) := by decide +kernel
theorem dX4_find_46 : decode cX4_find 46 = .ok (.ladd, 1) := by decide +kernel
theorem dX4_find_47 : decode cX4_find 47 = .ok (.iload_n 3, 1) := by decide +kernel
theorem dX4_find_48 : decode cX4_find 48 = .ok (.i2l, 1) := by decide +kernel
theorem dX4_find_49 : decode cX4_find 49 = .ok (.lcmp, 1) := by decide +kernel
theorem dX4_find_50 : decode cX4_find 50 = .ok (.ifCond .gt 14, 3) := by decide +kernel
theorem dX4_find_53 : decode cX4_find 53 = .ok (.aload_n 0, 1) := by decide +kernel
theorem dX4_find_54 : decode cX4_find 54 = .ok (.aload_n 1, 1) := by decide +kernel
theorem dX4_find_55 : decode cX4_find 55 = .ok (.invokevirtual 26, 3) := by decide +kernel
theorem dX4_find_58 : decode cX4_find 58 = .ok (.iinc 4 1, 3) := by decide +kernel
theorem dX4_find_61 : decode cX4_find 61 = .ok (.goto (-29), 3) := by decide +kernel
theorem dX4_find_64 : decode cX4_find 64 = .ok (.return_, 1) := by decide +kernel
theorem dX4_takeMediant_0 : decode cX4_takeMediant 0 = .ok (.aload_n 0, 1) := by decide +kernel
theorem dX4_takeMediant_1 : decode cX4_takeMediant 1 = .ok (.getfield 7, 3) := by decide +kernel
theorem dX4_takeMediant_4 : decode cX4_takeMediant 4 = .ok (.aload_n 0, 1) := by decide +kernel
theorem dX4_takeMediant_5 : decode cX4_takeMediant 5 = .ok (.getfield 16, 3) := by decide +kernel
theorem dX4_takeMediant_8 : decode cX4_takeMediant 8 = .ok (.ladd, 1) := by decide +kernel
theorem dX4_takeMediant_9 : decode cX4_takeMediant 9 = .ok (.lstore_n 2, 1) := by decide +kernel
theorem dX4_takeMediant_10 : decode cX4_takeMediant 10 = .ok (.aload_n 0, 1) := by decide +kernel
theorem dX4_takeMediant_11 : decode cX4_takeMediant 11 = .ok (.getfield 13, 3) := by decide +kernel
theorem dX4_takeMediant_14 : decode cX4_takeMediant 14 = .ok (.aload_n 0, 1) := by decide +kernel
theorem dX4_takeMediant_15 : decode cX4_takeMediant 15 = .ok (.getfield 19, 3) := by decide +kernel
theorem dX4_takeMediant_18 : decode cX4_takeMediant 18 = .ok (.ladd, 1) := by decide +kernel
theorem dX4_takeMediant_19 : decode cX4_takeMediant 19 = .ok (.lstore 4, 2) := by decide +kernel
theorem dX4_takeMediant_21 : decode cX4_takeMediant 21 = .ok (.aload_n 1, 1) := by decide +kernel
theorem dX4_takeMediant_22 : decode cX4_takeMediant 22 = .ok (.lload_n 2, 1) := by decide +kernel
theorem dX4_takeMediant_23 : decode cX4_takeMediant 23 = .ok (.lload 4, 2) := by decide +kernel
theorem dX4_takeMediant_25 : decode cX4_takeMediant 25 = .ok (.aload_n 0, 1) := by decide +kernel
theorem dX4_takeMediant_26 : decode cX4_takeMediant 26 = .ok (.getfield 7, 3) := by decide +kernel
theorem dX4_takeMediant_29 : decode cX4_takeMediant 29 = .ok (.aload_n 0, 1) := by decide +kernel
theorem dX4_takeMediant_30 : decode cX4_takeMediant 30 = .ok (.getfield 13, 3) := by decide +kernel
theorem dX4_takeMediant_33 : decode cX4_takeMediant 33 = .ok (.invokevirtual 30, 3) := by decide +kernel
theorem dX4_takeMediant_36 : decode cX4_takeMediant 36 = .ok (.ifCond .eq 31, 3) := by decide +kernel
theorem dX4_takeMediant_39 : decode cX4_takeMediant 39 = .ok (.aload_n 1, 1) := by decide +kernel
theorem dX4_takeMediant_40 : decode cX4_takeMediant 40 = .ok (.lload_n 2, 1) := by decide +kernel
theorem dX4_takeMediant_41 : decode cX4_takeMediant 41 = .ok (.lload 4, 2) := by decide +kernel
theorem dX4_takeMediant_43 : decode cX4_takeMediant 43 = .ok (.aload_n 0, 1) := by decide +kernel
theorem dX4_takeMediant_44 : decode cX4_takeMediant 44 = .ok (.getfield 16, 3) := by decide +kernel
theorem dX4_takeMediant_47 : decode cX4_takeMediant 47 = .ok (.aload_n 0, 1) := by decide +kernel
theorem dX4_takeMediant_48 : decode cX4_takeMediant 48 = .ok (.getfield 19, 3) := by decide +kernel
theorem dX4_takeMediant_51 : decode cX4_takeMediant 51 = .ok (.invokevirtual 30, 3) := by decide +kernel
theorem dX4_takeMediant_54 : decode cX4_takeMediant 54 = .ok (.ifCond .eq 13, 3) := by decide +kernel
theorem dX4_takeMediant_57 : decode cX4_takeMediant 57 = .ok (.aload_n 0, 1) := by decide +kernel
theorem dX4_takeMediant_58 : decode cX4_takeMediant 58 = .ok (.dup, 1) := by decide +kernel
theorem dX4_takeMediant_59 : decode cX4_takeMediant 59 = .ok (.getfield 22, 3) := by decide +kernel
theorem dX4_takeMediant_62 : decode cX4_takeMediant 62 = .ok (.iconst 1, 1) := by decide +kernel
theorem dX4_takeMediant_63 : decode cX4_takeMediant 63 = .ok (.iadd, 1) := by decide +kernel
theorem dX4_takeMediant_64 : decode cX4_takeMediant 64 = .ok (.putfield 22, 3) := by decide +kernel
theorem dX4_takeMediant_67 : decode cX4_takeMediant 67 = .ok (.aload_n 1, 1) := by decide +kernel
theorem dX4_takeMediant_68 : decode cX4_takeMediant 68 = .ok (.lload_n 2, 1) := by decide +kernel
theorem dX4_takeMediant_69 : decode cX4_takeMediant 69 = .ok (.lload 4, 2) := by decide +kernel
theorem dX4_takeMediant_71 : decode cX4_takeMediant 71 = .ok (.invokevirtual 36, 3) := by decide +kernel
theorem dX4_takeMediant_74 : decode cX4_takeMediant 74 = .ok (.ifCond .eq 17, 3) := by decide +kernel
theorem dX4_takeMediant_77 : decode cX4_takeMediant 77 = .ok (.aload_n 0, 1) := by decide +kernel
theorem dX4_takeMediant_78 : decode cX4_takeMediant 78 = .ok (.lload_n 2, 1) := by decide +kernel
theorem dX4_takeMediant_79 : decode cX4_takeMediant 79 = .ok (.putfield 16, 3) := by decide +kernel
theorem dX4_takeMediant_82 : decode cX4_takeMediant 82 = .ok (.aload_n 0, 1) := by decide +kernel
theorem dX4_takeMediant_83 : decode cX4_takeMediant 83 = .ok (.lload 4, 2) := by decide +kernel
theorem dX4_takeMediant_85 : decode cX4_takeMediant 85 = .ok (.putfield 19, 3) := by decide +kernel
theorem dX4_takeMediant_88 : decode cX4_takeMediant 88 = .ok (.goto 14, 3) := by decide +kernel
theorem dX4_takeMediant_91 : decode cX4_takeMediant 91 = .ok (.aload_n 0, 1) := by decide +kernel
theorem dX4_takeMediant_92 : decode cX4_takeMediant 92 = .ok (.lload_n 2, 1) := by decide +kernel
theorem dX4_takeMediant_93 : decode cX4_takeMediant 93 = .ok (.putfield 7, 3) := by decide +kernel
theorem dX4_takeMediant_96 : decode cX4_takeMediant 96 = .ok (.aload_n 0, 1) := by decide +kernel
theorem dX4_takeMediant_97 : decode cX4_takeMediant 97 = .ok (.lload 4, 2) := by decide +kernel
theorem dX4_takeMediant_99 : decode cX4_takeMediant 99 = .ok (.putfield 13, 3) := by decide +kernel
theorem dX4_takeMediant_102 : decode cX4_takeMediant 102 = .ok (.return_, 1) := by decide +kernel
theorem dX4_isAboveNearer_0 : decode cX4_isAboveNearer 0 = .ok (.aload_n 1, 1) := by decide +kernel
theorem dX4_isAboveNearer_1 : decode cX4_isAboveNearer 1 = .ok (.aload_n 0, 1) := by decide +kernel
theorem dX4_isAboveNearer_2 : decode cX4_isAboveNearer 2 = .ok (.getfield 16, 3) := by decide +kernel
theorem dX4_isAboveNearer_5 : decode cX4_isAboveNearer 5 = .ok (.aload_n 0, 1) := by decide +kernel
theorem dX4_isAboveNearer_6 : decode cX4_isAboveNearer 6 = .ok (.getfield 19, 3) := by decide +kernel
theorem dX4_isAboveNearer_9 : decode cX4_isAboveNearer 9 = .ok (.aload_n 0, 1) := by decide +kernel
theorem dX4_isAboveNearer_10 : decode cX4_isAboveNearer 10 = .ok (.getfield 7, 3) := by decide +kernel
theorem dX4_isAboveNearer_13 : decode cX4_isAboveNearer 13 = .ok (.aload_n 0, 1) := by decide +kernel
theorem dX4_isAboveNearer_14 : decode cX4_isAboveNearer 14 = .ok (.getfield 13, 3) := by decide +kernel
theorem dX4_isAboveNearer_17 : decode cX4_isAboveNearer 17 = .ok (.invokevirtual 30, 3) := by decide +kernel
theorem dX4_isAboveNearer_20 : decode cX4_isAboveNearer 20 = .ok (.ireturn, 1) := by decide +kernel
theorem dX5_init_0 : decode cX5_init 0 = .ok (.aload_n 0, 1) := by decide +kernel
theorem dX5_init_1 : decode cX5_init 1 = .ok (.invokespecial 3, 3) := by decide +kernel
theorem dX5_init_4 : decode cX5_init 4 = .ok (.aload_n 0, 1) := by decide +kernel
theorem dX5_init_5 : decode cX5_init 5 = .ok (.new 9, 3) := by decide +kernel
theorem dX5_init_8 : decode cX5_init 8 = .ok (.dup, 1) := by decide +kernel
theorem dX5_init_9 : decode cX5_init 9 = .ok (.invokespecial 11, 3) := by decide +kernel
theorem dX5_init_12 : decode cX5_init 12 = .ok (.putfield 12, 3) := by decide +kernel
theorem dX5_init_15 : decode cX5_init 15 = .ok (.aload_n 0, 1) := by decide +kernel
theorem dX5_init_16 : decode cX5_init 16 = .ok (.new 18, 3) := by decide +kernel
theorem dX5_init_19 : decode cX5_init 19 = .ok (.dup, 1) := by decide +kernel
theorem dX5_init_20 : decode cX5_init 20 = .ok (.invokespecial 20, 3) := by decide +kernel
theorem dX5_init_23 : decode cX5_init 23 = .ok (.putfield 21, 3) := by decide +kernel
theorem dX5_init_26 : decode cX5_init 26 = .ok (.return_, 1) := by decide +kernel
theorem dX5_countAll_0 : decode cX5_countAll 0 = .ok (.aload_n 0, 1) := by decide +kernel
theorem dX5_countAll_1 : decode cX5_countAll 1 = .ok (.iload_n 1, 1) := by decide +kernel
theorem dX5_countAll_2 : decode cX5_countAll 2 = .ok (.iload_n 2, 1) := by decide +kernel
theorem dX5_countAll_3 : decode cX5_countAll 3 = .ok (.iconst (-1), 1) := by decide +kernel
theorem dX5_countAll_4 : decode cX5_countAll 4 = .ok (.invokevirtual 25, 3) := by decide +kernel
theorem dX5_countAll_7 : decode cX5_countAll 7 = .ok (.pop, 1) := by decide +kernel
theorem dX5_countAll_8 : decode cX5_countAll 8 = .ok (.aload_n 0, 1) := by decide +kernel
theorem dX5_countAll_9 : decode cX5_countAll 9 = .ok (.getfield 29, 3) := by decide +kernel
theorem dX5_countAll_12 : decode cX5_countAll 12 = .ok (.ireturn, 1) := by decide +kernel
theorem dX5_find_0 : decode cX5_find 0 = .ok (.iload_n 1, 1) := by decide +kernel
theorem dX5_find_1 : decode cX5_find 1 = .ok (.i2l, 1) := by decide +kernel
theorem dX5_find_2 : decode cX5_find 2 = .ok (.invokestatic 33, 3) := by decide +kernel
theorem dX5_find_5 : decode cX5_find 5 = .ok (.lstore 4, 2) := by decide +kernel
theorem dX5_find_7 : decode cX5_find 7 = .ok (.aload_n 0, 1) := by decide +kernel
theorem dX5_find_8 : decode cX5_find 8 = .ok (.iconst 0, 1) := by decide +kernel
theorem dX5_find_9 : decode cX5_find 9 = .ok (.putfield 29, 3) := by decide +kernel
theorem dX5_find_12 : decode cX5_find 12 = .ok (.aload_n 0, 1) := by decide +kernel
theorem dX5_find_13 : decode cX5_find 13 = .ok (.lconst 0, 1) := by decide +kernel
theorem dX5_find_14 : decode cX5_find 14 = .ok (.putfield 37, 3) := by decide +kernel
theorem dX5_find_17 : decode cX5_find 17 = .ok (.aload_n 0, 1) := by decide +kernel
theorem dX5_find_18 : decode cX5_find 18 = .ok (.lconst 0, 1) := by decide +kernel
theorem dX5_find_19 : decode cX5_find 19 = .ok (.putfield 41, 3) := by decide +kernel
theorem dX5_find_22 : decode cX5_find 22 = .ok (.aload_n 0, 1) := by decide +kernel
theorem dX5_find_23 : decode cX5_find 23 = .ok (.getfield 41, 3) := by decide +kernel
theorem dX5_find_26 : decode cX5_find 26 = .ok (.ldc2_w 44, 3) := by decide +kernel
theorem dX5_find_29 : decode cX5_find 29 = .ok (.lcmp, 1) := by decide +kernel
theorem dX5_find_30 : decode cX5_find 30 = .ok (.ifCond .gt 85, 3) := by decide +kernel
theorem dX5_find_33 : decode cX5_find 33 = .ok (.iload_n 1, 1) := by decide +kernel
theorem dX5_find_34 : decode cX5_find 34 = .ok (.i2l, 1) := by decide +kernel
theorem dX5_find_35 : decode cX5_find 35 = .ok (.aload_n 0, 1) := by decide +kernel
theorem dX5_find_36 : decode cX5_find 36 = .ok (.getfield 41, 3) := by decide +kernel
theorem dX5_find_39 : decode cX5_find 39 = .ok (.lmul, 1) := by decide +kernel
theorem dX5_find_40 : decode cX5_find 40 = .ok (.aload_n 0, 1) := by decide +kernel
theorem dX5_find_41 : decode cX5_find 41 = .ok (.getfield 41, 3) := by decide +kernel
theorem dX5_find_44 : decode cX5_find 44 = .ok (.lmul, 1) := by decide +kernel
theorem dX5_find_45 : decode cX5_find 45 = .ok (.iload_n 2, 1) := by decide +kernel
theorem dX5_find_46 : decode cX5_find 46 = .ok (.i2l, 1) := by decide +kernel
theorem dX5_find_47 : decode cX5_find 47 = .ok (.ladd, 1) := by decide +kernel
theorem dX5_find_48 : decode cX5_find 48 = .ok (.lstore 6, 2) := by decide +kernel
theorem dX5_find_50 : decode cX5_find 50 = .ok (.aload_n 0, 1) := by decide +kernel
theorem dX5_find_51 : decode cX5_find 51 = .ok (.lload 6, 2) := by decide +kernel
theorem dX5_find_53 : decode cX5_find 53 = .ok (.invokevirtual 46, 3) := by decide +kernel
theorem dX5_find_56 : decode cX5_find 56 = .ok (.aload_n 0, 1) := by decide +kernel
theorem dX5_find_57 : decode cX5_find 57 = .ok (.getfield 37, 3) := by decide +kernel
theorem dX5_find_60 : decode cX5_find 60 = .ok (.aload_n 0, 1) := by decide +kernel
theorem dX5_find_61 : decode cX5_find 61 = .ok (.getfield 37, 3) := by decide +kernel
theorem dX5_find_64 : decode cX5_find 64 = .ok (.lmul, 1) := by decide +kernel
theorem dX5_find_65 : decode cX5_find 65 = .ok (.lload 6, 2) := by decide +kernel
theorem dX5_find_67 : decode cX5_find 67 = .ok (.lcmp, 1) := by decide +kernel
theorem dX5_find_68 : decode cX5_find 68 = .ok (.ifCond .ne 23, 3) := by decide +kernel
theorem dX5_find_71 : decode cX5_find 71 = .ok (.aload_n 0, 1) := by decide +kernel
theorem dX5_find_72 : decode cX5_find 72 = .ok (.getfield 29, 3) := by decide +kernel
theorem dX5_find_75 : decode cX5_find 75 = .ok (.iload_n 3, 1) := by decide +kernel
theorem dX5_find_76 : decode cX5_find 76 = .ok (.if_icmp .ne 5, 3) := by decide +kernel
theorem dX5_find_79 : decode cX5_find 79 = .ok (.iconst 1, 1) := by decide +kernel
theorem dX5_find_80 : decode cX5_find 80 = .ok (.ireturn, 1) := by decide +kernel
theorem dX5_find_81 : decode cX5_find 81 = .ok (.aload_n 0, 1) := by decide +kernel
theorem dX5_find_82 : decode cX5_find 82 = .ok (.dup, 1) := by decide +kernel
theorem dX5_find_83 : decode cX5_find 83 = .ok (.getfield 29, 3) := by decide +kernel
theorem dX5_find_86 : decode cX5_find 86 = .ok (.iconst 1, 1) := by decide +kernel
theorem dX5_find_87 : decode cX5_find 87 = .ok (.iadd, 1) := by decide +kernel
theorem dX5_find_88 : decode cX5_find 88 = .ok (.putfield 29, 3) := by decide +kernel
theorem dX5_find_91 : decode cX5_find 91 = .ok (.aload_n 0, 1) := by decide +kernel
theorem dX5_find_92 : decode cX5_find 92 = .ok (.dup, 1) := by decide +kernel
theorem dX5_find_93 : decode cX5_find 93 = .ok (.getfield 37, 3) := by decide +kernel
theorem dX5_find_96 : decode cX5_find 96 = .ok (.lload 4, 2) := by decide +kernel
theorem dX5_find_98 : decode cX5_find 98 = .ok (.ladd, 1) := by decide +kernel
theorem dX5_find_99 : decode cX5_find 99 = .ok (.putfield 37, 3) := by decide +kernel
theorem dX5_find_102 : decode cX5_find 102 = .ok (.aload_n 0, 1) := by decide +kernel
theorem dX5_find_103 : decode cX5_find 103 = .ok (.dup, 1) := by decide +kernel
theorem dX5_find_104 : decode cX5_find 104 = .ok (.getfield 41, 3) := by decide +kernel
theorem dX5_find_107 : decode cX5_find 107 = .ok (.lconst 1, 1) := by decide +kernel
theorem dX5_find_108 : decode cX5_find 108 = .ok (.ladd, 1) := by decide +kernel
theorem dX5_find_109 : decode cX5_find 109 = .ok (.putfield 41, 3) := by decide +kernel
theorem dX5_find_112 : decode cX5_find 112 = .ok (.goto (-90), 3) := by decide +kernel
theorem dX5_find_115 : decode cX5_find 115 = .ok (.iconst 0, 1) := by decide +kernel
theorem dX5_find_116 : decode cX5_find 116 = .ok (.ireturn, 1) := by decide +kernel
theorem dX5_goToRootOf_0 : decode cX5_goToRootOf 0 = .ok (.aload_n 0, 1) := by decide +kernel
theorem dX5_goToRootOf_1 : decode cX5_goToRootOf 1 = .ok (.getfield 37, 3) := by decide +kernel
theorem dX5_goToRootOf_4 : decode cX5_goToRootOf 4 = .ok (.lconst 0, 1) := by decide +kernel
theorem dX5_goToRootOf_5 : decode cX5_goToRootOf 5 = .ok (.lcmp, 1) := by decide +kernel
theorem dX5_goToRootOf_6 : decode cX5_goToRootOf 6 = .ok (.ifCond .le 30, 3) := by decide +kernel
theorem dX5_goToRootOf_9 : decode cX5_goToRootOf 9 = .ok (.aload_n 0, 1) := by decide +kernel
theorem dX5_goToRootOf_10 : decode cX5_goToRootOf 10 = .ok (.getfield 37, 3) := by decide +kernel
theorem dX5_goToRootOf_13 : decode cX5_goToRootOf 13 = .ok (.aload_n 0, 1) := by decide +kernel
theorem dX5_goToRootOf_14 : decode cX5_goToRootOf 14 = .ok (.getfield 37, 3) := by decide +kernel
theorem dX5_goToRootOf_17 : decode cX5_goToRootOf 17 = .ok (.lmul, 1) := by decide +kernel
theorem dX5_goToRootOf_18 : decode cX5_goToRootOf 18 = .ok (.lload_n 1, 1) := by decide +kernel
theorem dX5_goToRootOf_19 : decode cX5_goToRootOf 19 = .ok (.lcmp, 1) := by decide +kernel
theorem dX5_goToRootOf_20 : decode cX5_goToRootOf 20 = .ok (.ifCond .le 16, 3) := by decide +kernel
theorem dX5_goToRootOf_23 : decode cX5_goToRootOf 23 = .ok (.aload_n 0, 1) := by decide +kernel
theorem dX5_goToRootOf_24 : decode cX5_goToRootOf 24 = .ok (.dup, 1) := by decide +kernel
theorem dX5_goToRootOf_25 : decode cX5_goToRootOf 25 = .ok (.getfield 37, 3) := by decide +kernel
theorem dX5_goToRootOf_28 : decode cX5_goToRootOf 28 = .ok (.lconst 1, 1) := by decide +kernel
theorem dX5_goToRootOf_29 : decode cX5_goToRootOf 29 = .ok (.lsub, 1) := by decide +kernel
theorem dX5_goToRootOf_30 : decode cX5_goToRootOf 30 = .ok (.putfield 37, 3) := by decide +kernel
theorem dX5_goToRootOf_33 : decode cX5_goToRootOf 33 = .ok (.goto (-33), 3) := by decide +kernel
theorem dX5_goToRootOf_36 : decode cX5_goToRootOf 36 = .ok (.aload_n 0, 1) := by decide +kernel
theorem dX5_goToRootOf_37 : decode cX5_goToRootOf 37 = .ok (.getfield 37, 3) := by decide +kernel
theorem dX5_goToRootOf_40 : decode cX5_goToRootOf 40 = .ok (.ldc2_w 50, 3) := by decide +kernel
theorem dX5_goToRootOf_43 : decode cX5_goToRootOf 43 = .ok (.lcmp, 1) := by decide +kernel
theorem dX5_goToRootOf_44 : decode cX5_goToRootOf 44 = .ok (.ifCond .ge 34, 3) := by decide +kernel
theorem dX5_goToRootOf_47 : decode cX5_goToRootOf 47 = .ok (.aload_n 0, 1) := by decide +kernel
theorem dX5_goToRootOf_48 : decode cX5_goToRootOf 48 = .ok (.getfield 37, 3) := by decide +kernel
theorem dX5_goToRootOf_51 : decode cX5_goToRootOf 51 = .ok (.lconst 1, 1) := by decide +kernel
theorem dX5_goToRootOf_52 : decode cX5_goToRootOf 52 = .ok (.ladd, 1) := by decide +kernel
theorem dX5_goToRootOf_53 : decode cX5_goToRootOf 53 = .ok (.aload_n 0, 1) := by decide +kernel
theorem dX5_goToRootOf_54 : decode cX5_goToRootOf 54 = .ok (.getfield 37, 3) := by decide +kernel
theorem dX5_goToRootOf_57 : decode cX5_goToRootOf 57 = .ok (.lconst 1, 1) := by decide +kernel
theorem dX5_goToRootOf_58 : decode cX5_goToRootOf 58 = .ok (.ladd, 1) := by decide +kernel
theorem dX5_goToRootOf_59 : decode cX5_goToRootOf 59 = .ok (.lmul, 1) := by decide +kernel
theorem dX5_goToRootOf_60 : decode cX5_goToRootOf 60 = .ok (.lload_n 1, 1) := by decide +kernel
theorem dX5_goToRootOf_61 : decode cX5_goToRootOf 61 = .ok (.lcmp, 1) := by decide +kernel
theorem dX5_goToRootOf_62 : decode cX5_goToRootOf 62 = .ok (.ifCond .gt 16, 3) := by decide +kernel
theorem dX5_goToRootOf_65 : decode cX5_goToRootOf 65 = .ok (.aload_n 0, 1) := by decide +kernel
theorem dX5_goToRootOf_66 : decode cX5_goToRootOf 66 = .ok (.dup, 1) := by decide +kernel
theorem dX5_goToRootOf_67 : decode cX5_goToRootOf 67 = .ok (.getfield 37, 3) := by decide +kernel
theorem dX5_goToRootOf_70 : decode cX5_goToRootOf 70 = .ok (.lconst 1, 1) := by decide +kernel
theorem dX5_goToRootOf_71 : decode cX5_goToRootOf 71 = .ok (.ladd, 1) := by decide +kernel
theorem dX5_goToRootOf_72 : decode cX5_goToRootOf 72 = .ok (.putfield 37, 3) := by decide +kernel
theorem dX5_goToRootOf_75 : decode cX5_goToRootOf 75 = .ok (.goto (-39), 3) := by decide +kernel
theorem dX5_goToRootOf_78 : decode cX5_goToRootOf 78 = .ok (.return_, 1) := by decide +kernel
theorem dX5_findLeast_0 : decode cX5_findLeast 0 = .ok (.aload_n 0, 1) := by decide +kernel
theorem dX5_findLeast_1 : decode cX5_findLeast 1 = .ok (.getfield 12, 3) := by decide +kernel
theorem dX5_findLeast_4 : decode cX5_findLeast 4 = .ok (.lconst 0, 1) := by decide +kernel
theorem dX5_findLeast_5 : decode cX5_findLeast 5 = .ok (.iload_n 1, 1) := by decide +kernel
theorem dX5_findLeast_6 : decode cX5_findLeast 6 = .ok (.i2l, 1) := by decide +kernel
theorem dX5_findLeast_7 : decode cX5_findLeast 7 = .ok (.lconst 1, 1) := by decide +kernel
theorem dX5_findLeast_8 : decode cX5_findLeast 8 = .ok (.invokevirtual 52, 3) := by decide +kernel
theorem dX5_findLeast_11 : decode cX5_findLeast 11 = .ok (.aload_n 0, 1) := by decide +kernel
theorem dX5_findLeast_12 : decode cX5_findLeast 12 = .ok (.getfield 21, 3) := by decide +kernel
theorem dX5_findLeast_15 : decode cX5_findLeast 15 = .ok (.invokevirtual 56, 3) := by decide +kernel
theorem dX5_findLeast_18 : decode cX5_findLeast 18 = .ok (.iconst 1, 1) := by decide +kernel
theorem dX5_findLeast_19 : decode cX5_findLeast 19 = .ok (.istore_n 2, 1) := by decide +kernel
theorem dX5_findLeast_20 : decode cX5_findLeast 20 = .ok (.iload_n 2, 1) := by decide +kernel
theorem dX5_findLeast_21 : decode cX5_findLeast 21 = .ok (.sipush 1000, 3) := by decide +kernel
theorem dX5_findLeast_24 : decode cX5_findLeast 24 = .ok (.if_icmp .gt 84, 3) := by decide +kernel
theorem dX5_findLeast_27 : decode cX5_findLeast 27 = .ok (.aload_n 0, 1) := by decide +kernel
theorem dX5_findLeast_28 : decode cX5_findLeast 28 = .ok (.getfield 21, 3) := by decide +kernel
theorem dX5_findLeast_31 : decode cX5_findLeast 31 = .ok (.aload_n 0, 1) := by decide +kernel
theorem dX5_findLeast_32 : decode cX5_findLeast 32 = .ok (.getfield 12, 3) := by decide +kernel
theorem dX5_findLeast_35 : decode cX5_findLeast 35 = .ok (.invokevirtual 58, 3) := by decide +kernel
theorem dX5_findLeast_38 : decode cX5_findLeast 38 = .ok (.invokevirtual 62, 3) := by decide +kernel
theorem dX5_findLeast_41 : decode cX5_findLeast 41 = .ok (.aload_n 0, 1) := by decide +kernel
theorem dX5_findLeast_42 : decode cX5_findLeast 42 = .ok (.getfield 12, 3) := by decide +kernel
theorem dX5_findLeast_45 : decode cX5_findLeast 45 = .ok (.invokevirtual 65, 3) := by decide +kernel
theorem dX5_findLeast_48 : decode cX5_findLeast 48 = .ok (.aload_n 0, 1) := by decide +kernel
theorem dX5_findLeast_49 : decode cX5_findLeast 49 = .ok (.getfield 21, 3) := by decide +kernel
theorem dX5_findLeast_52 : decode cX5_findLeast 52 = .ok (.getfield 68, 3) := by decide +kernel
theorem dX5_findLeast_55 : decode cX5_findLeast 55 = .ok (.ifCond .eq 5, 3) := by decide +kernel
theorem dX5_findLeast_58 : decode cX5_findLeast 58 = .ok (.iconst 0, 1) := by decide +kernel
theorem dX5_findLeast_59 : decode cX5_findLeast 59 = .ok (.ireturn, 1) := by decide +kernel
theorem dX5_findLeast_60 : decode cX5_findLeast 60 = .ok (.aload_n 0, 1) := by decide +kernel
theorem dX5_findLeast_61 : decode cX5_findLeast 61 = .ok (.getfield 12, 3) := by decide +kernel
theorem dX5_findLeast_64 : decode cX5_findLeast 64 = .ok (.getfield 72, 3) := by decide +kernel
theorem dX5_findLeast_67 : decode cX5_findLeast 67 = .ok (.lconst 1, 1) := by decide +kernel
theorem dX5_findLeast_68 : decode cX5_findLeast 68 = .ok (.lcmp, 1) := by decide +kernel
theorem dX5_findLeast_69 : decode cX5_findLeast 69 = .ok (.ifCond .ne 33, 3) := by decide +kernel
theorem dX5_findLeast_72 : decode cX5_findLeast 72 = .ok (.iload_n 2, 1) := by decide +kernel
theorem dX5_findLeast_73 : decode cX5_findLeast 73 = .ok (.iconst 2, 1) := by decide +kernel
theorem dX5_findLeast_74 : decode cX5_findLeast 74 = .ok (.irem, 1) := by decide +kernel
theorem dX5_findLeast_75 : decode cX5_findLeast 75 = .ok (.ifCond .ne 27, 3) := by decide +kernel
theorem dX5_findLeast_78 : decode cX5_findLeast 78 = .ok (.aload_n 0, 1) := by decide +kernel
theorem dX5_findLeast_79 : decode cX5_findLeast 79 = .ok (.aload_n 0, 1) := by decide +kernel
theorem dX5_findLeast_80 : decode cX5_findLeast 80 = .ok (.getfield 21, 3) := by decide +kernel
theorem dX5_findLeast_83 : decode cX5_findLeast 83 = .ok (.getfield 75, 3) := by decide +kernel
theorem dX5_findLeast_86 : decode cX5_findLeast 86 = .ok (.putfield 37, 3) := by decide +kernel
theorem dX5_findLeast_89 : decode cX5_findLeast 89 = .ok (.aload_n 0, 1) := by decide +kernel
theorem dX5_findLeast_90 : decode cX5_findLeast 90 = .ok (.aload_n 0, 1) := by decide +kernel
theorem dX5_findLeast_91 : decode cX5_findLeast 91 = .ok (.getfield 21, 3) := by decide +kernel
theorem dX5_findLeast_94 : decode cX5_findLeast 94 = .ok (.getfield 78, 3) := by decide +kernel
theorem dX5_findLeast_97 : decode cX5_findLeast 97 = .ok (.putfield 41, 3) := by decide +kernel
theorem dX5_findLeast_100 : decode cX5_findLeast 100 = .ok (.iconst 1, 1) := by decide +kernel
theorem dX5_findLeast_101 : decode cX5_findLeast 101 = .ok (.ireturn, 1) := by decide +kernel
theorem dX5_findLeast_102 : decode cX5_findLeast 102 = .ok (.iinc 2 1, 3) := by decide +kernel
theorem dX5_findLeast_105 : decode cX5_findLeast 105 = .ok (.goto (-85), 3) := by decide +kernel
theorem dX5_findLeast_108 : decode cX5_findLeast 108 = .ok (.iconst 0, 1) := by decide +kernel
theorem dX5_findLeast_109 : decode cX5_findLeast 109 = .ok (.ireturn, 1) := by decide +kernel
theorem dX6_init_0 : decode cX6_init 0 = .ok (.aload_n 0, 1) := by decide +kernel
theorem dX6_init_1 : decode cX6_init 1 = .ok (.invokespecial 1, 3) := by decide +kernel
theorem dX6_init_4 : decode cX6_init 4 = .ok (.aload_n 0, 1) := by decide +kernel
theorem dX6_init_5 : decode cX6_init 5 = .ok (.new 7, 3) := by decide +kernel
theorem dX6_init_8 : decode cX6_init 8 = .ok (.dup, 1) := by decide +kernel
theorem dX6_init_9 : decode cX6_init 9 = .ok (.invokespecial 9, 3) := by decide +kernel
theorem dX6_init_12 : decode cX6_init 12 = .ok (.putfield 10, 3) := by decide +kernel
theorem dX6_init_15 : decode cX6_init 15 = .ok (.aload_n 0, 1) := by decide +kernel
theorem dX6_init_16 : decode cX6_init 16 = .ok (.new 16, 3) := by decide +kernel
theorem dX6_init_19 : decode cX6_init 19 = .ok (.dup, 1) := by decide +kernel
theorem dX6_init_20 : decode cX6_init 20 = .ok (.invokespecial 18, 3) := by decide +kernel
theorem dX6_init_23 : decode cX6_init 23 = .ok (.putfield 19, 3) := by decide +kernel
theorem dX6_init_26 : decode cX6_init 26 = .ok (.return_, 1) := by decide +kernel
theorem dX6_copyFrom_0 : decode cX6_copyFrom 0 = .ok (.aload_n 0, 1) := by decide +kernel
theorem dX6_copyFrom_1 : decode cX6_copyFrom 1 = .ok (.getfield 10, 3) := by decide +kernel
theorem dX6_copyFrom_4 : decode cX6_copyFrom 4 = .ok (.aload_n 1, 1) := by decide +kernel
theorem dX6_copyFrom_5 : decode cX6_copyFrom 5 = .ok (.getfield 10, 3) := by decide +kernel
theorem dX6_copyFrom_8 : decode cX6_copyFrom 8 = .ok (.getfield 23, 3) := by decide +kernel
theorem dX6_copyFrom_11 : decode cX6_copyFrom 11 = .ok (.aload_n 1, 1) := by decide +kernel
theorem dX6_copyFrom_12 : decode cX6_copyFrom 12 = .ok (.getfield 10, 3) := by decide +kernel
theorem dX6_copyFrom_15 : decode cX6_copyFrom 15 = .ok (.getfield 27, 3) := by decide +kernel
theorem dX6_copyFrom_18 : decode cX6_copyFrom 18 = .ok (.aload_n 1, 1) := by decide +kernel
theorem dX6_copyFrom_19 : decode cX6_copyFrom 19 = .ok (.getfield 10, 3) := by decide +kernel
theorem dX6_copyFrom_22 : decode cX6_copyFrom 22 = .ok (.getfield 30, 3) := by decide +kernel
theorem dX6_copyFrom_25 : decode cX6_copyFrom 25 = .ok (.invokevirtual 33, 3) := by decide +kernel
theorem dX6_copyFrom_28 : decode cX6_copyFrom 28 = .ok (.aload_n 0, 1) := by decide +kernel
theorem dX6_copyFrom_29 : decode cX6_copyFrom 29 = .ok (.getfield 19, 3) := by decide +kernel
theorem dX6_copyFrom_32 : decode cX6_copyFrom 32 = .ok (.aload_n 1, 1) := by decide +kernel
theorem dX6_copyFrom_33 : decode cX6_copyFrom 33 = .ok (.getfield 19, 3) := by decide +kernel
theorem dX6_copyFrom_36 : decode cX6_copyFrom 36 = .ok (.invokevirtual 37, 3) := by decide +kernel
theorem dX6_copyFrom_39 : decode cX6_copyFrom 39 = .ok (.return_, 1) := by decide +kernel
theorem dX7_init_0 : decode cX7_init 0 = .ok (.aload_n 0, 1) := by decide +kernel
theorem dX7_init_1 : decode cX7_init 1 = .ok (.invokespecial 1, 3) := by decide +kernel
theorem dX7_init_4 : decode cX7_init 4 = .ok (.return_, 1) := by decide +kernel
theorem dX7_begin_0 : decode cX7_begin 0 = .ok (.lload 5, 2) := by decide +kernel
theorem dX7_begin_2 : decode cX7_begin 2 = .ok (.invokestatic 7, 3) := by decide +kernel
theorem dX7_begin_5 : decode cX7_begin 5 = .ok (.lstore 7, 2) := by decide +kernel
theorem dX7_begin_7 : decode cX7_begin 7 = .ok (.aload_n 0, 1) := by decide +kernel
theorem dX7_begin_8 : decode cX7_begin 8 = .ok (.lload_n 1, 1) := by decide +kernel
theorem dX7_begin_9 : decode cX7_begin 9 = .ok (.lload 7, 2) := by decide +kernel
theorem dX7_begin_11 : decode cX7_begin 11 = .ok (.lmul, 1) := by decide +kernel
theorem dX7_begin_12 : decode cX7_begin 12 = .ok (.putfield 13, 3) := by decide +kernel
theorem dX7_begin_15 : decode cX7_begin 15 = .ok (.aload_n 0, 1) := by decide +kernel
theorem dX7_begin_16 : decode cX7_begin 16 = .ok (.lload 5, 2) := by decide +kernel
theorem dX7_begin_18 : decode cX7_begin 18 = .ok (.lload 7, 2) := by decide +kernel
theorem dX7_begin_20 : decode cX7_begin 20 = .ok (.lmul, 1) := by decide +kernel
theorem dX7_begin_21 : decode cX7_begin 21 = .ok (.putfield 19, 3) := by decide +kernel
theorem dX7_begin_24 : decode cX7_begin 24 = .ok (.aload_n 0, 1) := by decide +kernel
theorem dX7_begin_25 : decode cX7_begin 25 = .ok (.lload_n 3, 1) := by decide +kernel
theorem dX7_begin_26 : decode cX7_begin 26 = .ok (.lload 7, 2) := by decide +kernel
theorem dX7_begin_28 : decode cX7_begin 28 = .ok (.lmul, 1) := by decide +kernel
theorem dX7_begin_29 : decode cX7_begin 29 = .ok (.lload 7, 2) := by decide +kernel
theorem dX7_begin_31 : decode cX7_begin 31 = .ok (.lmul, 1) := by decide +kernel
theorem dX7_begin_32 : decode cX7_begin 32 = .ok (.putfield 22, 3) := by decide +kernel
theorem dX7_begin_35 : decode cX7_begin 35 = .ok (.aload_n 0, 1) := by decide +kernel
theorem dX7_begin_36 : decode cX7_begin 36 = .ok (.aload_n 0, 1) := by decide +kernel
theorem dX7_begin_37 : decode cX7_begin 37 = .ok (.getfield 22, 3) := by decide +kernel
theorem dX7_begin_40 : decode cX7_begin 40 = .ok (.invokestatic 25, 3) := by decide +kernel
theorem dX7_begin_43 : decode cX7_begin 43 = .ok (.putfield 28, 3) := by decide +kernel
theorem dX7_begin_46 : decode cX7_begin 46 = .ok (.return_, 1) := by decide +kernel
theorem dX7_whole_0 : decode cX7_whole 0 = .ok (.aload_n 0, 1) := by decide +kernel
theorem dX7_whole_1 : decode cX7_whole 1 = .ok (.getfield 19, 3) := by decide +kernel
theorem dX7_whole_4 : decode cX7_whole 4 = .ok (.lconst 0, 1) := by decide +kernel
theorem dX7_whole_5 : decode cX7_whole 5 = .ok (.lcmp, 1) := by decide +kernel
theorem dX7_whole_6 : decode cX7_whole 6 = .ok (.ifCond .le 20, 3) := by decide +kernel
theorem dX7_whole_9 : decode cX7_whole 9 = .ok (.aload_n 0, 1) := by decide +kernel
theorem dX7_whole_10 : decode cX7_whole 10 = .ok (.getfield 13, 3) := by decide +kernel
theorem dX7_whole_13 : decode cX7_whole 13 = .ok (.aload_n 0, 1) := by decide +kernel
theorem dX7_whole_14 : decode cX7_whole 14 = .ok (.getfield 28, 3) := by decide +kernel
theorem dX7_whole_17 : decode cX7_whole 17 = .ok (.ladd, 1) := by decide +kernel
theorem dX7_whole_18 : decode cX7_whole 18 = .ok (.aload_n 0, 1) := by decide +kernel
theorem dX7_whole_19 : decode cX7_whole 19 = .ok (.getfield 19, 3) := by decide +kernel
theorem dX7_whole_22 : decode cX7_whole 22 = .ok (.invokestatic 31, 3) := by decide +kernel
theorem dX7_whole_25 : decode cX7_whole 25 = .ok (.lreturn, 1) := by decide +kernel
theorem dX7_whole_26 : decode cX7_whole 26 = .ok (.aload_n 0, 1) := by decide +kernel
theorem dX7_whole_27 : decode cX7_whole 27 = .ok (.getfield 19, 3) := by decide +kernel
theorem dX7_whole_30 : decode cX7_whole 30 = .ok (.lconst 0, 1) := by decide +kernel
theorem dX7_whole_31 : decode cX7_whole 31 = .ok (.lcmp, 1) := by decide +kernel
theorem dX7_whole_32 : decode cX7_whole 32 = .ok (.ifCond .ge 25, 3) := by decide +kernel
theorem dX7_whole_35 : decode cX7_whole 35 = .ok (.ldc2_w 35, 3) := by decide +kernel
theorem dX7_whole_38 : decode cX7_whole 38 = .ok (.aload_n 0, 1) := by decide +kernel
theorem dX7_whole_39 : decode cX7_whole 39 = .ok (.getfield 13, 3) := by decide +kernel
theorem dX7_whole_42 : decode cX7_whole 42 = .ok (.aload_n 0, 1) := by decide +kernel
theorem dX7_whole_43 : decode cX7_whole 43 = .ok (.getfield 28, 3) := by decide +kernel
theorem dX7_whole_46 : decode cX7_whole 46 = .ok (.ladd, 1) := by decide +kernel
theorem dX7_whole_47 : decode cX7_whole 47 = .ok (.aload_n 0, 1) := by decide +kernel
theorem dX7_whole_48 : decode cX7_whole 48 = .ok (.getfield 19, 3) := by decide +kernel
theorem dX7_whole_51 : decode cX7_whole 51 = .ok (.lneg, 1) := by decide +kernel
theorem dX7_whole_52 : decode cX7_whole 52 = .ok (.invokestatic 31, 3) := by decide +kernel
theorem dX7_whole_55 : decode cX7_whole 55 = .ok (.lsub, 1) := by decide +kernel
theorem dX7_whole_56 : decode cX7_whole 56 = .ok (.lreturn, 1) := by decide +kernel
theorem dX7_whole_57 : decode cX7_whole 57 = .ok (.lconst 0, 1) := by decide +kernel
theorem dX7_whole_58 : decode cX7_whole 58 = .ok (.lreturn, 1) := by decide +kernel
theorem dX7_advance_0 : decode cX7_advance 0 = .ok (.aload_n 0, 1) := by decide +kernel
theorem dX7_advance_1 : decode cX7_advance 1 = .ok (.getfield 19, 3) := by decide +kernel
theorem dX7_advance_4 : decode cX7_advance 4 = .ok (.lconst 0, 1) := by decide +kernel
theorem dX7_advance_5 : decode cX7_advance 5 = .ok (.lcmp, 1) := by decide +kernel
theorem dX7_advance_6 : decode cX7_advance 6 = .ok (.ifCond .ne 4, 3) := by decide +kernel
theorem dX7_advance_9 : decode cX7_advance 9 = .ok (.return_, 1) := by decide +kernel
theorem dX7_advance_10 : decode cX7_advance 10 = .ok (.aload_n 0, 1) := by decide +kernel
theorem dX7_advance_11 : decode cX7_advance 11 = .ok (.aload_n 0, 1) := by decide +kernel
theorem dX7_advance_12 : decode cX7_advance 12 = .ok (.invokevirtual 37, 3) := by decide +kernel
theorem dX7_advance_15 : decode cX7_advance 15 = .ok (.aload_n 0, 1) := by decide +kernel
theorem dX7_advance_16 : decode cX7_advance 16 = .ok (.getfield 19, 3) := by decide +kernel
theorem dX7_advance_19 : decode cX7_advance 19 = .ok (.lmul, 1) := by decide +kernel
theorem dX7_advance_20 : decode cX7_advance 20 = .ok (.aload_n 0, 1) := by decide +kernel
theorem dX7_advance_21 : decode cX7_advance 21 = .ok (.getfield 13, 3) := by decide +kernel
theorem dX7_advance_24 : decode cX7_advance 24 = .ok (.lsub, 1) := by decide +kernel
theorem dX7_advance_25 : decode cX7_advance 25 = .ok (.putfield 13, 3) := by decide +kernel
theorem dX7_advance_28 : decode cX7_advance 28 = .ok (.aload_n 0, 1) := by decide +kernel
theorem dX7_advance_29 : decode cX7_advance 29 = .ok (.aload_n 0, 1) := by decide +kernel
theorem dX7_advance_30 : decode cX7_advance 30 = .ok (.getfield 22, 3) := by decide +kernel
theorem dX7_advance_33 : decode cX7_advance 33 = .ok (.aload_n 0, 1) := by decide +kernel
theorem dX7_advance_34 : decode cX7_advance 34 = .ok (.getfield 13, 3) := by decide +kernel
theorem dX7_advance_37 : decode cX7_advance 37 = .ok (.aload_n 0, 1) := by decide +kernel
theorem dX7_advance_38 : decode cX7_advance 38 = .ok (.getfield 13, 3) := by decide +kernel
theorem dX7_advance_41 : decode cX7_advance 41 = .ok (.lmul, 1) := by decide +kernel
theorem dX7_advance_42 : decode cX7_advance 42 = .ok (.lsub, 1) := by decide +kernel
theorem dX7_advance_43 : decode cX7_advance 43 = .ok (.aload_n 0, 1) := by decide +kernel
theorem dX7_advance_44 : decode cX7_advance 44 = .ok (.getfield 19, 3) := by decide +kernel
theorem dX7_advance_47 : decode cX7_advance 47 = .ok (.ldiv, 1) := by decide +kernel
theorem dX7_advance_48 : decode cX7_advance 48 = .ok (.putfield 19, 3) := by decide +kernel
theorem dX7_advance_51 : decode cX7_advance 51 = .ok (.return_, 1) := by decide +kernel
theorem dX7_isReduced_0 : decode cX7_isReduced 0 = .ok (.aload_n 0, 1) := by decide +kernel
theorem dX7_isReduced_1 : decode cX7_isReduced 1 = .ok (.getfield 13, 3) := by decide +kernel
theorem dX7_isReduced_4 : decode cX7_isReduced 4 = .ok (.lconst 0, 1) := by decide +kernel
theorem dX7_isReduced_5 : decode cX7_isReduced 5 = .ok (.lcmp, 1) := by decide +kernel
theorem dX7_isReduced_6 : decode cX7_isReduced 6 = .ok (.ifCond .le 53, 3) := by decide +kernel
theorem dX7_isReduced_9 : decode cX7_isReduced 9 = .ok (.aload_n 0, 1) := by decide +kernel
theorem dX7_isReduced_10 : decode cX7_isReduced 10 = .ok (.getfield 13, 3) := by decide +kernel
theorem dX7_isReduced_13 : decode cX7_isReduced 13 = .ok (.aload_n 0, 1) := by decide +kernel
theorem dX7_isReduced_14 : decode cX7_isReduced 14 = .ok (.getfield 28, 3) := by decide +kernel
theorem dX7_isReduced_17 : decode cX7_isReduced 17 = .ok (.lcmp, 1) := by decide +kernel
theorem dX7_isReduced_18 : decode cX7_isReduced 18 = .ok (.ifCond .gt 41, 3) := by decide +kernel
theorem dX7_isReduced_21 : decode cX7_isReduced 21 = .ok (.aload_n 0, 1) := by decide +kernel
theorem dX7_isReduced_22 : decode cX7_isReduced 22 = .ok (.getfield 19, 3) := by decide +kernel
theorem dX7_isReduced_25 : decode cX7_isReduced 25 = .ok (.aload_n 0, 1) := by decide +kernel
theorem dX7_isReduced_26 : decode cX7_isReduced 26 = .ok (.getfield 28, 3) := by decide +kernel
theorem dX7_isReduced_29 : decode cX7_isReduced 29 = .ok (.aload_n 0, 1) := by decide +kernel
theorem dX7_isReduced_30 : decode cX7_isReduced 30 = .ok (.getfield 13, 3) := by decide +kernel
theorem dX7_isReduced_33 : decode cX7_isReduced 33 = .ok (.lsub, 1) := by decide +kernel
theorem dX7_isReduced_34 : decode cX7_isReduced 34 = .ok (.lcmp, 1) := by decide +kernel
theorem dX7_isReduced_35 : decode cX7_isReduced 35 = .ok (.ifCond .le 24, 3) := by decide +kernel
theorem dX7_isReduced_38 : decode cX7_isReduced 38 = .ok (.aload_n 0, 1) := by decide +kernel
theorem dX7_isReduced_39 : decode cX7_isReduced 39 = .ok (.getfield 19, 3) := by decide +kernel
theorem dX7_isReduced_42 : decode cX7_isReduced 42 = .ok (.aload_n 0, 1) := by decide +kernel
theorem dX7_isReduced_43 : decode cX7_isReduced 43 = .ok (.getfield 28, 3) := by decide +kernel
theorem dX7_isReduced_46 : decode cX7_isReduced 46 = .ok (.aload_n 0, 1) := by decide +kernel
theorem dX7_isReduced_47 : decode cX7_isReduced 47 = .ok (.getfield 13, 3) := by decide +kernel
theorem dX7_isReduced_50 : decode cX7_isReduced 50 = .ok (.ladd, 1) := by decide +kernel
theorem dX7_isReduced_51 : decode cX7_isReduced 51 = .ok (.lcmp, 1) := by decide +kernel
theorem dX7_isReduced_52 : decode cX7_isReduced 52 = .ok (.ifCond .gt 7, 3) := by decide +kernel
theorem dX7_isReduced_55 : decode cX7_isReduced 55 = .ok (.iconst 1, 1) := by decide +kernel
theorem dX7_isReduced_56 : decode cX7_isReduced 56 = .ok (.goto 4, 3) := by decide +kernel
theorem dX7_isReduced_59 : decode cX7_isReduced 59 = .ok (.iconst 0, 1) := by decide +kernel
theorem dX7_isReduced_60 : decode cX7_isReduced 60 = .ok (.ireturn, 1) := by decide +kernel
theorem dX7_rootOf_0 : decode cX7_rootOf 0 = .ok (.lconst 0, 1) := by decide +kernel
theorem dX7_rootOf_1 : decode cX7_rootOf 1 = .ok (.lstore_n 2, 1) := by decide +kernel
theorem dX7_rootOf_2 : decode cX7_rootOf 2 = .ok (.ldc2_w 41, 3) := by decide +kernel
theorem dX7_rootOf_5 : decode cX7_rootOf 5 = .ok (.lstore 4, 2) := by decide +kernel
theorem dX7_rootOf_7 : decode cX7_rootOf 7 = .ok (.lload 4, 2) := by decide +kernel
theorem dX7_rootOf_9 : decode cX7_rootOf 9 = .ok (.lconst 0, 1) := by decide +kernel
theorem dX7_rootOf_10 : decode cX7_rootOf 10 = .ok (.lcmp, 1) := by decide +kernel
theorem dX7_rootOf_11 : decode cX7_rootOf 11 = .ok (.ifCond .le 31, 3) := by decide +kernel
theorem dX7_rootOf_14 : decode cX7_rootOf 14 = .ok (.lload_n 2, 1) := by decide +kernel
theorem dX7_rootOf_15 : decode cX7_rootOf 15 = .ok (.lload 4, 2) := by decide +kernel
theorem dX7_rootOf_17 : decode cX7_rootOf 17 = .ok (.ladd, 1) := by decide +kernel
theorem dX7_rootOf_18 : decode cX7_rootOf 18 = .ok (.lload_n 2, 1) := by decide +kernel
theorem dX7_rootOf_19 : decode cX7_rootOf 19 = .ok (.lload 4, 2) := by decide +kernel
theorem dX7_rootOf_21 : decode cX7_rootOf 21 = .ok (.ladd, 1) := by decide +kernel
theorem dX7_rootOf_22 : decode cX7_rootOf 22 = .ok (.lmul, 1) := by decide +kernel
theorem dX7_rootOf_23 : decode cX7_rootOf 23 = .ok (.lload_n 0, 1) := by decide +kernel
theorem dX7_rootOf_24 : decode cX7_rootOf 24 = .ok (.lcmp, 1) := by decide +kernel
theorem dX7_rootOf_25 : decode cX7_rootOf 25 = .ok (.ifCond .gt 8, 3) := by decide +kernel
theorem dX7_rootOf_28 : decode cX7_rootOf 28 = .ok (.lload_n 2, 1) := by decide +kernel
theorem dX7_rootOf_29 : decode cX7_rootOf 29 = .ok (.lload 4, 2) := by decide +kernel
theorem dX7_rootOf_31 : decode cX7_rootOf 31 = .ok (.ladd, 1) := by decide +kernel
theorem dX7_rootOf_32 : decode cX7_rootOf 32 = .ok (.lstore_n 2, 1) := by decide +kernel
theorem dX7_rootOf_33 : decode cX7_rootOf 33 = .ok (.lload 4, 2) := by decide +kernel
theorem dX7_rootOf_35 : decode cX7_rootOf 35 = .ok (.iconst 1, 1) := by decide +kernel
theorem dX7_rootOf_36 : decode cX7_rootOf 36 = .ok (.lshr, 1) := by decide +kernel
theorem dX7_rootOf_37 : decode cX7_rootOf 37 = .ok (.lstore 4, 2) := by decide +kernel
theorem dX7_rootOf_39 : decode cX7_rootOf 39 = .ok (.goto (-32), 3) := by decide +kernel
theorem dX7_rootOf_42 : decode cX7_rootOf 42 = .ok (.lload_n 2, 1) := by decide +kernel
theorem dX7_rootOf_43 : decode cX7_rootOf 43 = .ok (.lreturn, 1) := by decide +kernel
theorem dX8_init_0 : decode cX8_init 0 = .ok (.aload_n 0, 1) := by decide +kernel
theorem dX8_init_1 : decode cX8_init 1 = .ok (.invokespecial 1, 3) := by decide +kernel
theorem dX8_init_4 : decode cX8_init 4 = .ok (.aload_n 0, 1) := by decide +kernel
theorem dX8_init_5 : decode cX8_init 5 = .ok (.iconst 2, 1) := by decide +kernel
theorem dX8_init_6 : decode cX8_init 6 = .ok (.putfield 7, 3) := by decide +kernel
theorem dX8_init_9 : decode cX8_init 9 = .ok (.aload_n 0, 1) := by decide +kernel
theorem dX8_init_10 : decode cX8_init 10 = .ok (.iconst 1, 1) := by decide +kernel
theorem dX8_init_11 : decode cX8_init 11 = .ok (.putfield 13, 3) := by decide +kernel
theorem dX8_init_14 : decode cX8_init 14 = .ok (.return_, 1) := by decide +kernel
theorem dX8_set_0 : decode cX8_set 0 = .ok (.aload_n 0, 1) := by decide +kernel
theorem dX8_set_1 : decode cX8_set 1 = .ok (.iload_n 1, 1) := by decide +kernel
theorem dX8_set_2 : decode cX8_set 2 = .ok (.putfield 16, 3) := by decide +kernel
theorem dX8_set_5 : decode cX8_set 5 = .ok (.aload_n 0, 1) := by decide +kernel
theorem dX8_set_6 : decode cX8_set 6 = .ok (.iload_n 2, 1) := by decide +kernel
theorem dX8_set_7 : decode cX8_set 7 = .ok (.putfield 7, 3) := by decide +kernel
theorem dX8_set_10 : decode cX8_set 10 = .ok (.aload_n 0, 1) := by decide +kernel
theorem dX8_set_11 : decode cX8_set 11 = .ok (.iload_n 3, 1) := by decide +kernel
theorem dX8_set_12 : decode cX8_set 12 = .ok (.putfield 13, 3) := by decide +kernel
theorem dX8_set_15 : decode cX8_set 15 = .ok (.return_, 1) := by decide +kernel
theorem dX8_isPassedBy_0 : decode cX8_isPassedBy 0 = .ok (.aload_n 0, 1) := by decide +kernel
theorem dX8_isPassedBy_1 : decode cX8_isPassedBy 1 = .ok (.getfield 13, 3) := by decide +kernel
theorem dX8_isPassedBy_4 : decode cX8_isPassedBy 4 = .ok (.i2l, 1) := by decide +kernel
theorem dX8_isPassedBy_5 : decode cX8_isPassedBy 5 = .ok (.lload_n 1, 1) := by decide +kernel
theorem dX8_isPassedBy_6 : decode cX8_isPassedBy 6 = .ok (.lmul, 1) := by decide +kernel
theorem dX8_isPassedBy_7 : decode cX8_isPassedBy 7 = .ok (.aload_n 0, 1) := by decide +kernel
theorem dX8_isPassedBy_8 : decode cX8_isPassedBy 8 = .ok (.getfield 16, 3) := by decide +kernel
theorem dX8_isPassedBy_11 : decode cX8_isPassedBy 11 = .ok (.i2l, 1) := by decide +kernel
theorem dX8_isPassedBy_12 : decode cX8_isPassedBy 12 = .ok (.lload_n 3, 1) := by decide +kernel
theorem dX8_isPassedBy_13 : decode cX8_isPassedBy 13 = .ok (.lmul, 1) := by decide +kernel
theorem dX8_isPassedBy_14 : decode cX8_isPassedBy 14 = .ok (.lsub, 1) := by decide +kernel
theorem dX8_isPassedBy_15 : decode cX8_isPassedBy 15 = .ok (.lstore 5, 2) := by decide +kernel
theorem dX8_isPassedBy_17 : decode cX8_isPassedBy 17 = .ok (.lload 5, 2) := by decide +kernel
theorem dX8_isPassedBy_19 : decode cX8_isPassedBy 19 = .ok (.lconst 0, 1) := by decide +kernel
theorem dX8_isPassedBy_20 : decode cX8_isPassedBy 20 = .ok (.lcmp, 1) := by decide +kernel
theorem dX8_isPassedBy_21 : decode cX8_isPassedBy 21 = .ok (.ifCond .le 25, 3) := by decide +kernel
theorem dX8_isPassedBy_24 : decode cX8_isPassedBy 24 = .ok (.lload 5, 2) := by decide +kernel
theorem dX8_isPassedBy_26 : decode cX8_isPassedBy 26 = .ok (.lload 5, 2) := by decide +kernel
theorem dX8_isPassedBy_28 : decode cX8_isPassedBy 28 = .ok (.lmul, 1) := by decide +kernel
theorem dX8_isPassedBy_29 : decode cX8_isPassedBy 29 = .ok (.lload_n 3, 1) := by decide +kernel
theorem dX8_isPassedBy_30 : decode cX8_isPassedBy 30 = .ok (.lload_n 3, 1) := by decide +kernel
theorem dX8_isPassedBy_31 : decode cX8_isPassedBy 31 = .ok (.lmul, 1) := by decide +kernel
theorem dX8_isPassedBy_32 : decode cX8_isPassedBy 32 = .ok (.aload_n 0, 1) := by decide +kernel
theorem dX8_isPassedBy_33 : decode cX8_isPassedBy 33 = .ok (.getfield 7, 3) := by decide +kernel
theorem dX8_isPassedBy_36 : decode cX8_isPassedBy 36 = .ok (.i2l, 1) := by decide +kernel
theorem dX8_isPassedBy_37 : decode cX8_isPassedBy 37 = .ok (.lmul, 1) := by decide +kernel
theorem dX8_isPassedBy_38 : decode cX8_isPassedBy 38 = .ok (.lcmp, 1) := by decide +kernel
theorem dX8_isPassedBy_39 : decode cX8_isPassedBy 39 = .ok (.ifCond .le 7, 3) := by decide +kernel
theorem dX8_isPassedBy_42 : decode cX8_isPassedBy 42 = .ok (.iconst 1, 1) := by decide +kernel
theorem dX8_isPassedBy_43 : decode cX8_isPassedBy 43 = .ok (.goto 4, 3) := by decide +kernel
theorem dX8_isPassedBy_46 : decode cX8_isPassedBy 46 = .ok (.iconst 0, 1) := by decide +kernel
theorem dX8_isPassedBy_47 : decode cX8_isPassedBy 47 = .ok (.istore 7, 2) := by decide +kernel
theorem dX8_isPassedBy_49 : decode cX8_isPassedBy 49 = .ok (.iload 7, 2) := by decide +kernel
theorem dX8_isPassedBy_51 : decode cX8_isPassedBy 51 = .ok (.aload_n 0, 1) := by decide +kernel
theorem dX8_isPassedBy_52 : decode cX8_isPassedBy 52 = .ok (.getfield 13, 3) := by decide +kernel
theorem dX8_isPassedBy_55 : decode cX8_isPassedBy 55 = .ok (.ifCond .le 7, 3) := by decide +kernel
theorem dX8_isPassedBy_58 : decode cX8_isPassedBy 58 = .ok (.iconst 1, 1) := by decide +kernel
theorem dX8_isPassedBy_59 : decode cX8_isPassedBy 59 = .ok (.goto 4, 3) := by decide +kernel
theorem dX8_isPassedBy_62 : decode cX8_isPassedBy 62 = .ok (.iconst 0, 1) := by decide +kernel
theorem dX8_isPassedBy_63 : decode cX8_isPassedBy 63 = .ok (.if_icmp .ne 7, 3) := by decide +kernel
theorem dX8_isPassedBy_66 : decode cX8_isPassedBy 66 = .ok (.iconst 1, 1) := by decide +kernel
theorem dX8_isPassedBy_67 : decode cX8_isPassedBy 67 = .ok (.goto 4, 3) := by decide +kernel
theorem dX8_isPassedBy_70 : decode cX8_isPassedBy 70 = .ok (.iconst 0, 1) := by decide +kernel
theorem dX8_isPassedBy_71 : decode cX8_isPassedBy 71 = .ok (.ireturn, 1) := by decide +kernel
theorem dX8_isNearer_0 : decode cX8_isNearer 0 = .ok (.aload_n 0, 1) := by decide +kernel
theorem dX8_isNearer_1 : decode cX8_isNearer 1 = .ok (.lload_n 1, 1) := by decide +kernel
theorem dX8_isNearer_2 : decode cX8_isNearer 2 = .ok (.lload_n 3, 1) := by decide +kernel
theorem dX8_isNearer_3 : decode cX8_isNearer 3 = .ok (.invokevirtual 19, 3) := by decide +kernel
theorem dX8_isNearer_6 : decode cX8_isNearer 6 = .ok (.istore 9, 2) := by decide +kernel
theorem dX8_isNearer_8 : decode cX8_isNearer 8 = .ok (.lload_n 1, 1) := by decide +kernel
theorem dX8_isNearer_9 : decode cX8_isNearer 9 = .ok (.lload 7, 2) := by decide +kernel
theorem dX8_isNearer_11 : decode cX8_isNearer 11 = .ok (.lmul, 1) := by decide +kernel
theorem dX8_isNearer_12 : decode cX8_isNearer 12 = .ok (.lstore 10, 2) := by decide +kernel
theorem dX8_isNearer_14 : decode cX8_isNearer 14 = .ok (.lload 5, 2) := by decide +kernel
theorem dX8_isNearer_16 : decode cX8_isNearer 16 = .ok (.lload_n 3, 1) := by decide +kernel
theorem dX8_isNearer_17 : decode cX8_isNearer 17 = .ok (.lmul, 1) := by decide +kernel
theorem dX8_isNearer_18 : decode cX8_isNearer 18 = .ok (.lstore 12, 2) := by decide +kernel
theorem dX8_isNearer_20 : decode cX8_isNearer 20 = .ok (.iload 9, 2) := by decide +kernel
theorem dX8_isNearer_22 : decode cX8_isNearer 22 = .ok (.aload_n 0, 1) := by decide +kernel
theorem dX8_isNearer_23 : decode cX8_isNearer 23 = .ok (.lload 5, 2) := by decide +kernel
theorem dX8_isNearer_25 : decode cX8_isNearer 25 = .ok (.lload 7, 2) := by decide +kernel
theorem dX8_isNearer_27 : decode cX8_isNearer 27 = .ok (.invokevirtual 19, 3) := by decide +kernel
theorem dX8_isNearer_30 : decode cX8_isNearer 30 = .ok (.if_icmp .ne 38, 3) := by decide +kernel
theorem dX8_isNearer_33 : decode cX8_isNearer 33 = .ok (.iload 9, 2) := by decide +kernel
theorem dX8_isNearer_35 : decode cX8_isNearer 35 = .ok (.ifCond .eq 19, 3) := by decide +kernel
theorem dX8_isNearer_38 : decode cX8_isNearer 38 = .ok (.lload 10, 2) := by decide +kernel
theorem dX8_isNearer_40 : decode cX8_isNearer 40 = .ok (.lload 12, 2) := by decide +kernel
theorem dX8_isNearer_42 : decode cX8_isNearer 42 = .ok (.lcmp, 1) := by decide +kernel
theorem dX8_isNearer_43 : decode cX8_isNearer 43 = .ok (.ifCond .ge 7, 3) := by decide +kernel
theorem dX8_isNearer_46 : decode cX8_isNearer 46 = .ok (.iconst 1, 1) := by decide +kernel
theorem dX8_isNearer_47 : decode cX8_isNearer 47 = .ok (.goto 20, 3) := by decide +kernel
theorem dX8_isNearer_50 : decode cX8_isNearer 50 = .ok (.iconst 0, 1) := by decide +kernel
theorem dX8_isNearer_51 : decode cX8_isNearer 51 = .ok (.goto 16, 3) := by decide +kernel
theorem dX8_isNearer_54 : decode cX8_isNearer 54 = .ok (.lload 10, 2) := by decide +kernel
theorem dX8_isNearer_56 : decode cX8_isNearer 56 = .ok (.lload 12, 2) := by decide +kernel
theorem dX8_isNearer_58 : decode cX8_isNearer 58 = .ok (.lcmp, 1) := by decide +kernel
theorem dX8_isNearer_59 : decode cX8_isNearer 59 = .ok (.ifCond .le 7, 3) := by decide +kernel
theorem dX8_isNearer_62 : decode cX8_isNearer 62 = .ok (.iconst 1, 1) := by decide +kernel
theorem dX8_isNearer_63 : decode cX8_isNearer 63 = .ok (.goto 4, 3) := by decide +kernel
theorem dX8_isNearer_66 : decode cX8_isNearer 66 = .ok (.iconst 0, 1) := by decide +kernel
theorem dX8_isNearer_67 : decode cX8_isNearer 67 = .ok (.ireturn, 1) := by decide +kernel
theorem dX8_isNearer_68 : decode cX8_isNearer 68 = .ok (.iload 9, 2) := by decide +kernel
theorem dX8_isNearer_70 : decode cX8_isNearer 70 = .ok (.aload_n 0, 1) := by decide +kernel
theorem dX8_isNearer_71 : decode cX8_isNearer 71 = .ok (.lload 10, 2) := by decide +kernel
theorem dX8_isNearer_73 : decode cX8_isNearer 73 = .ok (.lload 12, 2) := by decide +kernel
theorem dX8_isNearer_75 : decode cX8_isNearer 75 = .ok (.ladd, 1) := by decide +kernel
theorem dX8_isNearer_76 : decode cX8_isNearer 76 = .ok (.ldc2_w 23, 3) := by decide +kernel
theorem dX8_isNearer_79 : decode cX8_isNearer 79 = .ok (.lload_n 3, 1) := by decide +kernel
theorem dX8_isNearer_80 : decode cX8_isNearer 80 = .ok (.lmul, 1) := by decide +kernel
theorem dX8_isNearer_81 : decode cX8_isNearer 81 = .ok (.lload 7, 2) := by decide +kernel
theorem dX8_isNearer_83 : decode cX8_isNearer 83 = .ok (.lmul, 1) := by decide +kernel
theorem dX8_isNearer_84 : decode cX8_isNearer 84 = .ok (.invokevirtual 19, 3) := by decide +kernel
theorem dX8_isNearer_87 : decode cX8_isNearer 87 = .ok (.if_icmp .eq 7, 3) := by decide +kernel
theorem dX8_isNearer_90 : decode cX8_isNearer 90 = .ok (.iconst 1, 1) := by decide +kernel
theorem dX8_isNearer_91 : decode cX8_isNearer 91 = .ok (.goto 4, 3) := by decide +kernel
theorem dX8_isNearer_94 : decode cX8_isNearer 94 = .ok (.iconst 0, 1) := by decide +kernel
theorem dX8_isNearer_95 : decode cX8_isNearer 95 = .ok (.ireturn, 1) := by decide +kernel
theorem dX9_init_0 : decode cX9_init 0 = .ok (.aload_n 0, 1) := by decide +kernel
theorem dX9_init_1 : decode cX9_init 1 = .ok (.invokespecial 3, 3) := by decide +kernel
theorem dX9_init_4 : decode cX9_init 4 = .ok (.aload_n 0, 1) := by decide +kernel
theorem dX9_init_5 : decode cX9_init 5 = .ok (.bipush 40, 2) := by decide +kernel
theorem dX9_init_7 : decode cX9_init 7 = .ok (.newarray .char, 2) := by decide +kernel
theorem dX9_init_9 : decode cX9_init 9 = .ok (.putfield 9, 3) := by decide +kernel
theorem dX9_init_12 : decode cX9_init 12 = .ok (.aload_n 0, 1) := by decide +kernel
theorem dX9_init_13 : decode cX9_init 13 = .ok (.bipush 40, 2) := by decide +kernel
theorem dX9_init_15 : decode cX9_init 15 = .ok (.newarray .int, 2) := by decide +kernel
theorem dX9_init_17 : decode cX9_init 17 = .ok (.putfield 15, 3) := by decide +kernel
theorem dX9_init_20 : decode cX9_init 20 = .ok (.return_, 1) := by decide +kernel
theorem dX9_append_0 : decode cX9_append 0 = .ok (.aload_n 0, 1) := by decide +kernel
theorem dX9_append_1 : decode cX9_append 1 = .ok (.getfield 19, 3) := by decide +kernel
theorem dX9_append_4 : decode cX9_append 4 = .ok (.ifCond .lt 35, 3) := by decide +kernel
theorem dX9_append_7 : decode cX9_append 7 = .ok (.aload_n 0, 1) := by decide +kernel
theorem dX9_append_8 : decode cX9_append 8 = .ok (.getfield 19, 3) := by decide +kernel
theorem dX9_append_11 : decode cX9_append 11 = .ok (.aload_n 0, 1) := by decide +kernel
theorem dX9_append_12 : decode cX9_append 12 = .ok (.getfield 9, 3) := by decide +kernel
theorem dX9_append_15 : decode cX9_append 15 = .ok (.arraylength, 1) := by decide +kernel
theorem dX9_append_16 : decode cX9_append 16 = .ok (.if_icmp .ge 23, 3) := by decide +kernel
theorem dX9_append_19 : decode cX9_append 19 = .ok (.aload_n 0, 1) := by decide +kernel
theorem dX9_append_20 : decode cX9_append 20 = .ok (.getfield 9, 3) := by decide +kernel
theorem dX9_append_23 : decode cX9_append 23 = .ok (.aload_n 0, 1) := by decide +kernel
theorem dX9_append_24 : decode cX9_append 24 = .ok (.getfield 19, 3) := by decide +kernel
theorem dX9_append_27 : decode cX9_append 27 = .ok (.iload_n 1, 1) := by decide +kernel
theorem dX9_append_28 : decode cX9_append 28 = .ok (.castore, 1) := by decide +kernel
theorem dX9_append_29 : decode cX9_append 29 = .ok (.aload_n 0, 1) := by decide +kernel
theorem dX9_append_30 : decode cX9_append 30 = .ok (.dup, 1) := by decide +kernel
theorem dX9_append_31 : decode cX9_append 31 = .ok (.getfield 19, 3) := by decide +kernel
theorem dX9_append_34 : decode cX9_append 34 = .ok (.iconst 1, 1) := by decide +kernel
theorem dX9_append_35 : decode cX9_append 35 = .ok (.iadd, 1) := by decide +kernel
theorem dX9_append_36 : decode cX9_append 36 = .ok (.putfield 19, 3) := by decide +kernel
theorem dX9_append_39 : decode cX9_append 39 = .ok (.return_, 1) := by decide +kernel
theorem dX9_characterAt_0 : decode cX9_characterAt 0 = .ok (.iload_n 1, 1) := by decide +kernel
theorem dX9_characterAt_1 : decode cX9_characterAt 1 = .ok (.ifCond .lt 29, 3) := by decide +kernel
theorem dX9_characterAt_4 : decode cX9_characterAt 4 = .ok (.iload_n 1, 1) := by decide +kernel
theorem dX9_characterAt_5 : decode cX9_characterAt 5 = .ok (.aload_n 0, 1) := by decide +kernel
theorem dX9_characterAt_6 : decode cX9_characterAt 6 = .ok (.getfield 19, 3) := by decide +kernel
theorem dX9_characterAt_9 : decode cX9_characterAt 9 = .ok (.if_icmp .ge 21, 3) := by decide +kernel
theorem dX9_characterAt_12 : decode cX9_characterAt 12 = .ok (.iload_n 1, 1) := by decide +kernel
theorem dX9_characterAt_13 : decode cX9_characterAt 13 = .ok (.aload_n 0, 1) := by decide +kernel
theorem dX9_characterAt_14 : decode cX9_characterAt 14 = .ok (.getfield 9, 3) := by decide +kernel
theorem dX9_characterAt_17 : decode cX9_characterAt 17 = .ok (.arraylength, 1) := by decide +kernel
theorem dX9_characterAt_18 : decode cX9_characterAt 18 = .ok (.if_icmp .ge 12, 3) := by decide +kernel
theorem dX9_characterAt_21 : decode cX9_characterAt 21 = .ok (.aload_n 0, 1) := by decide +kernel
theorem dX9_characterAt_22 : decode cX9_characterAt 22 = .ok (.getfield 9, 3) := by decide +kernel
theorem dX9_characterAt_25 : decode cX9_characterAt 25 = .ok (.iload_n 1, 1) := by decide +kernel
theorem dX9_characterAt_26 : decode cX9_characterAt 26 = .ok (.caload, 1) := by decide +kernel
theorem dX9_characterAt_27 : decode cX9_characterAt 27 = .ok (.goto 4, 3) := by decide +kernel
theorem dX9_characterAt_30 : decode cX9_characterAt 30 = .ok (.iconst 0, 1) := by decide +kernel
theorem dX9_characterAt_31 : decode cX9_characterAt 31 = .ok (.ireturn, 1) := by decide +kernel
theorem dX9_digitAt_0 : decode cX9_digitAt 0 = .ok (.aload_n 0, 1) := by decide +kernel
theorem dX9_digitAt_1 : decode cX9_digitAt 1 = .ok (.iload_n 1, 1) := by decide +kernel
theorem dX9_digitAt_2 : decode cX9_digitAt 2 = .ok (.invokevirtual 23, 3) := by decide +kernel
theorem dX9_digitAt_5 : decode cX9_digitAt 5 = .ok (.istore_n 2, 1) := by decide +kernel
theorem dX9_digitAt_6 : decode cX9_digitAt 6 = .ok (.iload_n 2, 1) := by decide +kernel
theorem dX9_digitAt_7 : decode cX9_digitAt 7 = .ok (.bipush 48, 2) := by decide +kernel
theorem dX9_digitAt_9 : decode cX9_digitAt 9 = .ok (.if_icmp .lt 16, 3) := by decide +kernel
theorem dX9_digitAt_12 : decode cX9_digitAt 12 = .ok (.iload_n 2, 1) := by decide +kernel
theorem dX9_digitAt_13 : decode cX9_digitAt 13 = .ok (.bipush 57, 2) := by decide +kernel
theorem dX9_digitAt_15 : decode cX9_digitAt 15 = .ok (.if_icmp .gt 10, 3) := by decide +kernel
theorem dX9_digitAt_18 : decode cX9_digitAt 18 = .ok (.iload_n 2, 1) := by decide +kernel
theorem dX9_digitAt_19 : decode cX9_digitAt 19 = .ok (.bipush 48, 2) := by decide +kernel
theorem dX9_digitAt_21 : decode cX9_digitAt 21 = .ok (.isub, 1) := by decide +kernel
theorem dX9_digitAt_22 : decode cX9_digitAt 22 = .ok (.goto 4, 3) := by decide +kernel
theorem dX9_digitAt_25 : decode cX9_digitAt 25 = .ok (.iconst (-1), 1) := by decide +kernel
theorem dX9_digitAt_26 : decode cX9_digitAt 26 = .ok (.ireturn, 1) := by decide +kernel
theorem dX9_hasFault_0 : decode cX9_hasFault 0 = .ok (.aload_n 0, 1) := by decide +kernel
theorem dX9_hasFault_1 : decode cX9_hasFault 1 = .ok (.getfield 27, 3) := by decide +kernel
theorem dX9_hasFault_4 : decode cX9_hasFault 4 = .ok (.ifCond .eq 7, 3) := by decide +kernel
theorem dX9_hasFault_7 : decode cX9_hasFault 7 = .ok (.iconst 1, 1) := by decide +kernel
theorem dX9_hasFault_8 : decode cX9_hasFault 8 = .ok (.goto 4, 3) := by decide +kernel
theorem dX9_hasFault_11 : decode cX9_hasFault 11 = .ok (.iconst 0, 1) := by decide +kernel
theorem dX9_hasFault_12 : decode cX9_hasFault 12 = .ok (.ireturn, 1) := by decide +kernel
theorem dX9_termAt_0 : decode cX9_termAt 0 = .ok (.iload_n 1, 1) := by decide +kernel
theorem dX9_termAt_1 : decode cX9_termAt 1 = .ok (.ifCond .lt 21, 3) := by decide +kernel
theorem dX9_termAt_4 : decode cX9_termAt 4 = .ok (.iload_n 1, 1) := by decide +kernel
theorem dX9_termAt_5 : decode cX9_termAt 5 = .ok (.aload_n 0, 1) := by decide +kernel
theorem dX9_termAt_6 : decode cX9_termAt 6 = .ok (.getfield 15, 3) := by decide +kernel
theorem dX9_termAt_9 : decode cX9_termAt 9 = .ok (.arraylength, 1) := by decide +kernel
theorem dX9_termAt_10 : decode cX9_termAt 10 = .ok (.if_icmp .ge 12, 3) := by decide +kernel
theorem dX9_termAt_13 : decode cX9_termAt 13 = .ok (.aload_n 0, 1) := by decide +kernel
theorem dX9_termAt_14 : decode cX9_termAt 14 = .ok (.getfield 15, 3) := by decide +kernel
theorem dX9_termAt_17 : decode cX9_termAt 17 = .ok (.iload_n 1, 1) := by decide +kernel
theorem dX9_termAt_18 : decode cX9_termAt 18 = .ok (.iaload, 1) := by decide +kernel
theorem dX9_termAt_19 : decode cX9_termAt 19 = .ok (.goto 4, 3) := by decide +kernel
theorem dX9_termAt_22 : decode cX9_termAt 22 = .ok (.iconst 0, 1) := by decide +kernel
theorem dX9_termAt_23 : decode cX9_termAt 23 = .ok (.ireturn, 1) := by decide +kernel
theorem dX9_read_0 : decode cX9_read 0 = .ok (.aload_n 0, 1) := by decide +kernel
theorem dX9_read_1 : decode cX9_read 1 = .ok (.iconst 0, 1) := by decide +kernel
theorem dX9_read_2 : decode cX9_read 2 = .ok (.putfield 30, 3) := by decide +kernel
theorem dX9_read_5 : decode cX9_read 5 = .ok (.aload_n 0, 1) := by decide +kernel
theorem dX9_read_6 : decode cX9_read 6 = .ok (.iconst 0, 1) := by decide +kernel
theorem dX9_read_7 : decode cX9_read 7 = .ok (.putfield 33, 3) := by decide +kernel
theorem dX9_read_10 : decode cX9_read 10 = .ok (.aload_n 0, 1) := by decide +kernel
theorem dX9_read_11 : decode cX9_read 11 = .ok (.iconst 0, 1) := by decide +kernel
theorem dX9_read_12 : decode cX9_read 12 = .ok (.putfield 27, 3) := by decide +kernel
theorem dX9_read_15 : decode cX9_read 15 = .ok (.aload_n 0, 1) := by decide +kernel
theorem dX9_read_16 : decode cX9_read 16 = .ok (.iconst 0, 1) := by decide +kernel
theorem dX9_read_17 : decode cX9_read 17 = .ok (.invokevirtual 23, 3) := by decide +kernel
theorem dX9_read_20 : decode cX9_read 20 = .ok (.bipush 45, 2) := by decide +kernel
theorem dX9_read_22 : decode cX9_read 22 = .ok (.if_icmp .ne 7, 3) := by decide +kernel
theorem dX9_read_25 : decode cX9_read 25 = .ok (.iconst 1, 1) := by decide +kernel
theorem dX9_read_26 : decode cX9_read 26 = .ok (.goto 4, 3) := by decide +kernel
theorem dX9_read_29 : decode cX9_read 29 = .ok (.iconst 0, 1) := by decide +kernel
theorem dX9_read_30 : decode cX9_read 30 = .ok (.istore_n 1, 1) := by decide +kernel
theorem dX9_read_31 : decode cX9_read 31 = .ok (.aload_n 0, 1) := by decide +kernel
theorem dX9_read_32 : decode cX9_read 32 = .ok (.iload_n 1, 1) := by decide +kernel
theorem dX9_read_33 : decode cX9_read 33 = .ok (.ifCond .eq 7, 3) := by decide +kernel
theorem dX9_read_36 : decode cX9_read 36 = .ok (.iconst 1, 1) := by decide +kernel
theorem dX9_read_37 : decode cX9_read 37 = .ok (.goto 4, 3) := by decide +kernel
theorem dX9_read_40 : decode cX9_read 40 = .ok (.iconst 0, 1) := by decide +kernel
theorem dX9_read_41 : decode cX9_read 41 = .ok (.iload_n 1, 1) := by decide +kernel
theorem dX9_read_42 : decode cX9_read 42 = .ok (.invokevirtual 36, 3) := by decide +kernel
theorem dX9_read_45 : decode cX9_read 45 = .ok (.istore_n 2, 1) := by decide +kernel
theorem dX9_read_46 : decode cX9_read 46 = .ok (.iconst 0, 1) := by decide +kernel
theorem dX9_read_47 : decode cX9_read 47 = .ok (.istore_n 3, 1) := by decide +kernel
theorem dX9_read_48 : decode cX9_read 48 = .ok (.iload_n 3, 1) := by decide +kernel
theorem dX9_read_49 : decode cX9_read 49 = .ok (.bipush 40, 2) := by decide +kernel
theorem dX9_read_51 : decode cX9_read 51 = .ok (.if_icmp .ge 69, 3) := by decide +kernel
theorem dX9_read_54 : decode cX9_read 54 = .ok (.aload_n 0, 1) := by decide +kernel
theorem dX9_read_55 : decode cX9_read 55 = .ok (.getfield 27, 3) := by decide +kernel
theorem dX9_read_58 : decode cX9_read 58 = .ok (.ifCond .ne 62, 3) := by decide +kernel
theorem dX9_read_61 : decode cX9_read 61 = .ok (.iload_n 2, 1) := by decide +kernel
theorem dX9_read_62 : decode cX9_read 62 = .ok (.aload_n 0, 1) := by decide +kernel
theorem dX9_read_63 : decode cX9_read 63 = .ok (.getfield 19, 3) := by decide +kernel
theorem dX9_read_66 : decode cX9_read 66 = .ok (.if_icmp .ge 54, 3) := by decide +kernel
theorem dX9_read_69 : decode cX9_read 69 = .ok (.aload_n 0, 1) := by decide +kernel
theorem dX9_read_70 : decode cX9_read 70 = .ok (.getfield 30, 3) := by decide +kernel
theorem dX9_read_73 : decode cX9_read 73 = .ok (.iconst 1, 1) := by decide +kernel
theorem dX9_read_74 : decode cX9_read 74 = .ok (.if_icmp .ne 8, 3) := by decide +kernel
theorem dX9_read_77 : decode cX9_read 77 = .ok (.bipush 59, 2) := by decide +kernel
theorem dX9_read_79 : decode cX9_read 79 = .ok (.goto 5, 3) := by decide +kernel
theorem dX9_read_82 : decode cX9_read 82 = .ok (.bipush 44, 2) := by decide +kernel
theorem dX9_read_84 : decode cX9_read 84 = .ok (.istore 4, 2) := by decide +kernel
theorem dX9_read_86 : decode cX9_read 86 = .ok (.aload_n 0, 1) := by decide +kernel
theorem dX9_read_87 : decode cX9_read 87 = .ok (.iload_n 2, 1) := by decide +kernel
theorem dX9_read_88 : decode cX9_read 88 = .ok (.invokevirtual 23, 3) := by decide +kernel
theorem dX9_read_91 : decode cX9_read 91 = .ok (.iload 4, 2) := by decide +kernel
theorem dX9_read_93 : decode cX9_read 93 = .ok (.if_icmp .ne 15, 3) := by decide +kernel
theorem dX9_read_96 : decode cX9_read 96 = .ok (.aload_n 0, 1) := by decide +kernel
theorem dX9_read_97 : decode cX9_read 97 = .ok (.iload_n 2, 1) := by decide +kernel
theorem dX9_read_98 : decode cX9_read 98 = .ok (.iconst 1, 1) := by decide +kernel
theorem dX9_read_99 : decode cX9_read 99 = .ok (.iadd, 1) := by decide +kernel
theorem dX9_read_100 : decode cX9_read 100 = .ok (.iconst 0, 1) := by decide +kernel
theorem dX9_read_101 : decode cX9_read 101 = .ok (.invokevirtual 36, 3) := by decide +kernel
theorem dX9_read_104 : decode cX9_read 104 = .ok (.istore_n 2, 1) := by decide +kernel
theorem dX9_read_105 : decode cX9_read 105 = .ok (.goto 9, 3) := by decide +kernel
theorem dX9_read_108 : decode cX9_read 108 = .ok (.aload_n 0, 1) := by decide +kernel
theorem dX9_read_109 : decode cX9_read 109 = .ok (.iload_n 2, 1) := by decide +kernel
theorem dX9_read_110 : decode cX9_read 110 = .ok (.iconst 1, 1) := by decide +kernel
theorem dX9_read_111 : decode cX9_read 111 = .ok (.invokevirtual 40, 3) := by decide +kernel
theorem dX9_read_114 : decode cX9_read 114 = .ok (.iinc 3 1, 3) := by decide +kernel
theorem dX9_read_117 : decode cX9_read 117 = .ok (.goto (-69), 3) := by decide +kernel
theorem dX9_read_120 : decode cX9_read 120 = .ok (.return_, 1) := by decide +kernel
theorem dX9_readNumber_0 : decode cX9_readNumber 0 = .ok (.aload_n 0, 1) := by decide +kernel
theorem dX9_readNumber_1 : decode cX9_readNumber 1 = .ok (.iload_n 1, 1) := by decide +kernel
theorem dX9_readNumber_2 : decode cX9_readNumber 2 = .ok (.invokevirtual 44, 3) := by decide +kernel
theorem dX9_readNumber_5 : decode cX9_readNumber 5 = .ok (.istore_n 3, 1) := by decide +kernel
theorem dX9_readNumber_6 : decode cX9_readNumber 6 = .ok (.iload_n 1, 1) := by decide +kernel
theorem dX9_readNumber_7 : decode cX9_readNumber 7 = .ok (.iconst 1, 1) := by decide +kernel
theorem dX9_readNumber_8 : decode cX9_readNumber 8 = .ok (.iadd, 1) := by decide +kernel
theorem dX9_readNumber_9 : decode cX9_readNumber 9 = .ok (.istore 4, 2) := by decide +kernel
theorem dX9_readNumber_11 : decode cX9_readNumber 11 = .ok (.iload_n 3, 1) := by decide +kernel
theorem dX9_readNumber_12 : decode cX9_readNumber 12 = .ok (.ifCond .ge 12, 3) := by decide +kernel
theorem dX9_readNumber_15 : decode cX9_readNumber 15 = .ok (.aload_n 0, 1) := by decide +kernel
theorem dX9_readNumber_16 : decode cX9_readNumber 16 = .ok (.iload_n 1, 1) := by decide +kernel
theorem dX9_readNumber_17 : decode cX9_readNumber 17 = .ok (.iconst 1, 1) := by decide +kernel
theorem dX9_readNumber_18 : decode cX9_readNumber 18 = .ok (.invokevirtual 40, 3) := by decide +kernel
theorem dX9_readNumber_21 : decode cX9_readNumber 21 = .ok (.iload 4, 2) := by decide +kernel
theorem dX9_readNumber_23 : decode cX9_readNumber 23 = .ok (.ireturn, 1) := by decide +kernel
theorem dX9_readNumber_24 : decode cX9_readNumber 24 = .ok (.iload_n 3, 1) := by decide +kernel
theorem dX9_readNumber_25 : decode cX9_readNumber 25 = .ok (.ifCond .ne 19, 3) := by decide +kernel
theorem dX9_readNumber_28 : decode cX9_readNumber 28 = .ok (.aload_n 0, 1) := by decide +kernel
theorem dX9_readNumber_29 : decode cX9_readNumber 29 = .ok (.getfield 30, 3) := by decide +kernel
theorem dX9_readNumber_32 : decode cX9_readNumber 32 = .ok (.ifCond .le 12, 3) := by decide +kernel
theorem dX9_readNumber_35 : decode cX9_readNumber 35 = .ok (.aload_n 0, 1) := by decide +kernel
theorem dX9_readNumber_36 : decode cX9_readNumber 36 = .ok (.iload_n 1, 1) := by decide +kernel
theorem dX9_readNumber_37 : decode cX9_readNumber 37 = .ok (.iconst 2, 1) := by decide +kernel
theorem dX9_readNumber_38 : decode cX9_readNumber 38 = .ok (.invokevirtual 40, 3) := by decide +kernel
theorem dX9_readNumber_41 : decode cX9_readNumber 41 = .ok (.iload 4, 2) := by decide +kernel
theorem dX9_readNumber_43 : decode cX9_readNumber 43 = .ok (.ireturn, 1) := by decide +kernel
theorem dX9_readNumber_44 : decode cX9_readNumber 44 = .ok (.iload_n 3, 1) := by decide +kernel
theorem dX9_readNumber_45 : decode cX9_readNumber 45 = .ok (.ifCond .le 38, 3) := by decide +kernel
theorem dX9_readNumber_48 : decode cX9_readNumber 48 = .ok (.iload 4, 2) := by decide +kernel
theorem dX9_readNumber_50 : decode cX9_readNumber 50 = .ok (.iload_n 1, 1) := by decide +kernel
theorem dX9_readNumber_51 : decode cX9_readNumber 51 = .ok (.iconst 3, 1) := by decide +kernel
theorem dX9_readNumber_52 : decode cX9_readNumber 52 = .ok (.iadd, 1) := by decide +kernel
theorem dX9_readNumber_53 : decode cX9_readNumber 53 = .ok (.if_icmp .ge 30, 3) := by decide +kernel
theorem dX9_readNumber_56 : decode cX9_readNumber 56 = .ok (.aload_n 0, 1) := by decide +kernel
theorem dX9_readNumber_57 : decode cX9_readNumber 57 = .ok (.iload 4, 2) := by decide +kernel
theorem dX9_readNumber_59 : decode cX9_readNumber 59 = .ok (.invokevirtual 44, 3) := by decide +kernel
theorem dX9_readNumber_62 : decode cX9_readNumber 62 = .ok (.ifCond .lt 21, 3) := by decide +kernel
theorem dX9_readNumber_65 : decode cX9_readNumber 65 = .ok (.bipush 10, 2) := by decide +kernel
theorem dX9_readNumber_67 : decode cX9_readNumber 67 = .ok (.iload_n 3, 1) := by decide +kernel
theorem dX9_readNumber_68 : decode cX9_readNumber 68 = .ok (.imul, 1) := by decide +kernel
theorem dX9_readNumber_69 : decode cX9_readNumber 69 = .ok (.aload_n 0, 1) := by decide +kernel
theorem dX9_readNumber_70 : decode cX9_readNumber 70 = .ok (.iload 4, 2) := by decide +kernel
theorem dX9_readNumber_72 : decode cX9_readNumber 72 = .ok (.invokevirtual 44, 3) := by decide +kernel
theorem dX9_readNumber_75 : decode cX9_readNumber 75 = .ok (.iadd, 1) := by decide +kernel
theorem dX9_readNumber_76 : decode cX9_readNumber 76 = .ok (.istore_n 3, 1) := by decide +kernel
theorem dX9_readNumber_77 : decode cX9_readNumber 77 = .ok (.iinc 4 1, 3) := by decide +kernel
theorem dX9_readNumber_80 : decode cX9_readNumber 80 = .ok (.goto (-36), 3) := by decide +kernel
theorem dX9_readNumber_83 : decode cX9_readNumber 83 = .ok (.aload_n 0, 1) := by decide +kernel
theorem dX9_readNumber_84 : decode cX9_readNumber 84 = .ok (.iload_n 2, 1) := by decide +kernel
theorem dX9_readNumber_85 : decode cX9_readNumber 85 = .ok (.ifCond .eq 8, 3) := by decide +kernel
theorem dX9_readNumber_88 : decode cX9_readNumber 88 = .ok (.iload_n 3, 1) := by decide +kernel
theorem dX9_readNumber_89 : decode cX9_readNumber 89 = .ok (.ineg, 1) := by decide +kernel
theorem dX9_readNumber_90 : decode cX9_readNumber 90 = .ok (.goto 4, 3) := by decide +kernel
theorem dX9_readNumber_93 : decode cX9_readNumber 93 = .ok (.iload_n 3, 1) := by decide +kernel
theorem dX9_readNumber_94 : decode cX9_readNumber 94 = .ok (.invokevirtual 48, 3) := by decide +kernel
theorem dX9_readNumber_97 : decode cX9_readNumber 97 = .ok (.iload 4, 2) := by decide +kernel
theorem dX9_readNumber_99 : decode cX9_readNumber 99 = .ok (.ireturn, 1) := by decide +kernel
theorem dX9_setFault_0 : decode cX9_setFault 0 = .ok (.aload_n 0, 1) := by decide +kernel
theorem dX9_setFault_1 : decode cX9_setFault 1 = .ok (.iload_n 1, 1) := by decide +kernel
theorem dX9_setFault_2 : decode cX9_setFault 2 = .ok (.putfield 33, 3) := by decide +kernel
theorem dX9_setFault_5 : decode cX9_setFault 5 = .ok (.aload_n 0, 1) := by decide +kernel
theorem dX9_setFault_6 : decode cX9_setFault 6 = .ok (.iload_n 2, 1) := by decide +kernel
theorem dX9_setFault_7 : decode cX9_setFault 7 = .ok (.putfield 27, 3) := by decide +kernel
theorem dX9_setFault_10 : decode cX9_setFault 10 = .ok (.return_, 1) := by decide +kernel
theorem dX9_addTerm_0 : decode cX9_addTerm 0 = .ok (.aload_n 0, 1) := by decide +kernel
theorem dX9_addTerm_1 : decode cX9_addTerm 1 = .ok (.getfield 30, 3) := by decide +kernel
theorem dX9_addTerm_4 : decode cX9_addTerm 4 = .ok (.ifCond .lt 35, 3) := by decide +kernel
theorem dX9_addTerm_7 : decode cX9_addTerm 7 = .ok (.aload_n 0, 1) := by decide +kernel
theorem dX9_addTerm_8 : decode cX9_addTerm 8 = .ok (.getfield 30, 3) := by decide +kernel
theorem dX9_addTerm_11 : decode cX9_addTerm 11 = .ok (.aload_n 0, 1) := by decide +kernel
theorem dX9_addTerm_12 : decode cX9_addTerm 12 = .ok (.getfield 15, 3) := by decide +kernel
theorem dX9_addTerm_15 : decode cX9_addTerm 15 = .ok (.arraylength, 1) := by decide +kernel
theorem dX9_addTerm_16 : decode cX9_addTerm 16 = .ok (.if_icmp .ge 23, 3) := by decide +kernel
theorem dX9_addTerm_19 : decode cX9_addTerm 19 = .ok (.aload_n 0, 1) := by decide +kernel
theorem dX9_addTerm_20 : decode cX9_addTerm 20 = .ok (.getfield 15, 3) := by decide +kernel
theorem dX9_addTerm_23 : decode cX9_addTerm 23 = .ok (.aload_n 0, 1) := by decide +kernel
theorem dX9_addTerm_24 : decode cX9_addTerm 24 = .ok (.getfield 30, 3) := by decide +kernel
theorem dX9_addTerm_27 : decode cX9_addTerm 27 = .ok (.iload_n 1, 1) := by decide +kernel
theorem dX9_addTerm_28 : decode cX9_addTerm 28 = .ok (.iastore, 1) := by decide +kernel
theorem dX9_addTerm_29 : decode cX9_addTerm 29 = .ok (.aload_n 0, 1) := by decide +kernel
theorem dX9_addTerm_30 : decode cX9_addTerm 30 = .ok (.dup, 1) := by decide +kernel
theorem dX9_addTerm_31 : decode cX9_addTerm 31 = .ok (.getfield 30, 3) := by decide +kernel
theorem dX9_addTerm_34 : decode cX9_addTerm 34 = .ok (.iconst 1, 1) := by decide +kernel
theorem dX9_addTerm_35 : decode cX9_addTerm 35 = .ok (.iadd, 1) := by decide +kernel
theorem dX9_addTerm_36 : decode cX9_addTerm 36 = .ok (.putfield 30, 3) := by decide +kernel
theorem dX9_addTerm_39 : decode cX9_addTerm 39 = .ok (.return_, 1) := by decide +kernel
theorem dX9_chainTerms_0 : decode cX9_chainTerms 0 = .ok (.aload_n 1, 1) := by decide +kernel
theorem dX9_chainTerms_1 : decode cX9_chainTerms 1 = .ok (.invokevirtual 52, 3) := by decide +kernel
theorem dX9_chainTerms_4 : decode cX9_chainTerms 4 = .ok (.iconst 0, 1) := by decide +kernel
theorem dX9_chainTerms_5 : decode cX9_chainTerms 5 = .ok (.istore_n 2, 1) := by decide +kernel
theorem dX9_chainTerms_6 : decode cX9_chainTerms 6 = .ok (.iload_n 2, 1) := by decide +kernel
theorem dX9_chainTerms_7 : decode cX9_chainTerms 7 = .ok (.aload_n 0, 1) := by decide +kernel
theorem dX9_chainTerms_8 : decode cX9_chainTerms 8 = .ok (.getfield 30, 3) := by decide +kernel
theorem dX9_chainTerms_11 : decode cX9_chainTerms 11 = .ok (.if_icmp .ge 19, 3) := by decide +kernel
theorem dX9_chainTerms_14 : decode cX9_chainTerms 14 = .ok (.aload_n 1, 1) := by decide +kernel
theorem dX9_chainTerms_15 : decode cX9_chainTerms 15 = .ok (.aload_n 0, 1) := by decide +kernel
theorem dX9_chainTerms_16 : decode cX9_chainTerms 16 = .ok (.iload_n 2, 1) := by decide +kernel
theorem dX9_chainTerms_17 : decode cX9_chainTerms 17 = .ok (.invokevirtual 57, 3) := by decide +kernel
theorem dX9_chainTerms_20 : decode cX9_chainTerms 20 = .ok (.i2l, 1) := by decide +kernel
theorem dX9_chainTerms_21 : decode cX9_chainTerms 21 = .ok (.invokevirtual 60, 3) := by decide +kernel
theorem dX9_chainTerms_24 : decode cX9_chainTerms 24 = .ok (.iinc 2 1, 3) := by decide +kernel
theorem dX9_chainTerms_27 : decode cX9_chainTerms 27 = .ok (.goto (-21), 3) := by decide +kernel
theorem dX9_chainTerms_30 : decode cX9_chainTerms 30 = .ok (.return_, 1) := by decide +kernel
theorem dJ9_floorDiv_f86c9_0 : decode cJ9_floorDiv_f86c9 0 = .ok (.lload_n 0, 1) := by decide +kernel
theorem dJ9_floorDiv_f86c9_1 : decode cJ9_floorDiv_f86c9 1 = .ok (.lload_n 2, 1) := by decide +kernel
theorem dJ9_floorDiv_f86c9_2 : decode cJ9_floorDiv_f86c9 2 = .ok (.ldiv, 1) := by decide +kernel
theorem dJ9_floorDiv_f86c9_3 : decode cJ9_floorDiv_f86c9 3 = .ok (.lstore 4, 2) := by decide +kernel
theorem dJ9_floorDiv_f86c9_5 : decode cJ9_floorDiv_f86c9 5 = .ok (.lload_n 0, 1) := by decide +kernel
theorem dJ9_floorDiv_f86c9_6 : decode cJ9_floorDiv_f86c9 6 = .ok (.lload_n 2, 1) := by decide +kernel
theorem dJ9_floorDiv_f86c9_7 : decode cJ9_floorDiv_f86c9 7 = .ok (.lxor, 1) := by decide +kernel
theorem dJ9_floorDiv_f86c9_8 : decode cJ9_floorDiv_f86c9 8 = .ok (.lconst 0, 1) := by decide +kernel
theorem dJ9_floorDiv_f86c9_9 : decode cJ9_floorDiv_f86c9 9 = .ok (.lcmp, 1) := by decide +kernel
theorem dJ9_floorDiv_f86c9_10 : decode cJ9_floorDiv_f86c9 10 = .ok (.ifCond .ge 17, 3) := by decide +kernel
theorem dJ9_floorDiv_f86c9_13 : decode cJ9_floorDiv_f86c9 13 = .ok (.lload 4, 2) := by decide +kernel
theorem dJ9_floorDiv_f86c9_15 : decode cJ9_floorDiv_f86c9 15 = .ok (.lload_n 2, 1) := by decide +kernel
theorem dJ9_floorDiv_f86c9_16 : decode cJ9_floorDiv_f86c9 16 = .ok (.lmul, 1) := by decide +kernel
theorem dJ9_floorDiv_f86c9_17 : decode cJ9_floorDiv_f86c9 17 = .ok (.lload_n 0, 1) := by decide +kernel
theorem dJ9_floorDiv_f86c9_18 : decode cJ9_floorDiv_f86c9 18 = .ok (.lcmp, 1) := by decide +kernel
theorem dJ9_floorDiv_f86c9_19 : decode cJ9_floorDiv_f86c9 19 = .ok (.ifCond .eq 8, 3) := by decide +kernel
theorem dJ9_floorDiv_f86c9_22 : decode cJ9_floorDiv_f86c9 22 = .ok (.lload 4, 2) := by decide +kernel
theorem dJ9_floorDiv_f86c9_24 : decode cJ9_floorDiv_f86c9 24 = .ok (.lconst 1, 1) := by decide +kernel
theorem dJ9_floorDiv_f86c9_25 : decode cJ9_floorDiv_f86c9 25 = .ok (.lsub, 1) := by decide +kernel
theorem dJ9_floorDiv_f86c9_26 : decode cJ9_floorDiv_f86c9 26 = .ok (.lreturn, 1) := by decide +kernel
theorem dJ9_floorDiv_f86c9_27 : decode cJ9_floorDiv_f86c9 27 = .ok (.lload 4, 2) := by decide +kernel
theorem dJ9_floorDiv_f86c9_29 : decode cJ9_floorDiv_f86c9 29 = .ok (.lreturn, 1) := by decide +kernel
theorem dJ9_abs_067f4_0 : decode cJ9_abs_067f4 0 = .ok (.lload_n 0, 1) := by decide +kernel
theorem dJ9_abs_067f4_1 : decode cJ9_abs_067f4 1 = .ok (.lconst 0, 1) := by decide +kernel
theorem dJ9_abs_067f4_2 : decode cJ9_abs_067f4 2 = .ok (.lcmp, 1) := by decide +kernel
theorem dJ9_abs_067f4_3 : decode cJ9_abs_067f4 3 = .ok (.ifCond .ge 8, 3) := by decide +kernel
theorem dJ9_abs_067f4_6 : decode cJ9_abs_067f4 6 = .ok (.lload_n 0, 1) := by decide +kernel
theorem dJ9_abs_067f4_7 : decode cJ9_abs_067f4 7 = .ok (.lneg, 1) := by decide +kernel
theorem dJ9_abs_067f4_8 : decode cJ9_abs_067f4 8 = .ok (.goto 4, 3) := by decide +kernel
theorem dJ9_abs_067f4_11 : decode cJ9_abs_067f4 11 = .ok (.lload_n 0, 1) := by decide +kernel
theorem dJ9_abs_067f4_12 : decode cJ9_abs_067f4 12 = .ok (.lreturn, 1) := by decide +kernel
theorem dJ9_max_7cf53_0 : decode cJ9_max_7cf53 0 = .ok (.iload_n 0, 1) := by decide +kernel
theorem dJ9_max_7cf53_1 : decode cJ9_max_7cf53 1 = .ok (.iload_n 1, 1) := by decide +kernel
theorem dJ9_max_7cf53_2 : decode cJ9_max_7cf53 2 = .ok (.if_icmp .lt 7, 3) := by decide +kernel
theorem dJ9_max_7cf53_5 : decode cJ9_max_7cf53 5 = .ok (.iload_n 0, 1) := by decide +kernel
theorem dJ9_max_7cf53_6 : decode cJ9_max_7cf53 6 = .ok (.goto 4, 3) := by decide +kernel
theorem dJ9_max_7cf53_9 : decode cJ9_max_7cf53 9 = .ok (.iload_n 1, 1) := by decide +kernel
theorem dJ9_max_7cf53_10 : decode cJ9_max_7cf53 10 = .ok (.ireturn, 1) := by decide +kernel
