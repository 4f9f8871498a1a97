theorem dX11_init_0 : decode cX11_init 0 = .ok (.aload_n 0, 1) := by decide +kernel
theorem dX11_init_1 : decode cX11_init 1 = .ok (.invokespecial 1, 3) := by decide +kernel
theorem dX11_init_4 : decode cX11_init 4 = .ok (.aload_n 0, 1) := by decide +kernel
theorem dX11_init_5 : decode cX11_init 5 = .ok (.bipush 20, 2) := by decide +kernel
theorem dX11_init_7 : decode cX11_init 7 = .ok (.newarray .int, 2) := by decide +kernel
theorem dX11_init_9 : decode cX11_init 9 = .ok (.putfield 7, 3) := by decide +kernel
theorem dX11_init_12 : decode cX11_init 12 = .ok (.aload_n 0, 1) := by decide +kernel
theorem dX11_init_13 : decode cX11_init 13 = .ok (.bipush 80, 2) := by decide +kernel
theorem dX11_init_15 : decode cX11_init 15 = .ok (.newarray .int, 2) := by decide +kernel
theorem dX11_init_17 : decode cX11_init 17 = .ok (.putfield 13, 3) := by decide +kernel
theorem dX11_init_20 : decode cX11_init 20 = .ok (.aload_n 0, 1) := by decide +kernel
theorem dX11_init_21 : decode cX11_init 21 = .ok (.bipush 40, 2) := by decide +kernel
theorem dX11_init_23 : decode cX11_init 23 = .ok (.newarray .int, 2) := by decide +kernel
theorem dX11_init_25 : decode cX11_init 25 = .ok (.putfield 16, 3) := by decide +kernel
theorem dX11_init_28 : decode cX11_init 28 = .ok (.aload_n 0, 1) := by decide +kernel
theorem dX11_init_29 : decode cX11_init 29 = .ok (.sipush 401, 3) := by decide +kernel
theorem dX11_init_32 : decode cX11_init 32 = .ok (.newarray .int, 2) := by decide +kernel
theorem dX11_init_34 : decode cX11_init 34 = .ok (.putfield 19, 3) := by decide +kernel
theorem dX11_init_37 : decode cX11_init 37 = .ok (.aload_n 0, 1) := by decide +kernel
theorem dX11_init_38 : decode cX11_init 38 = .ok (.sipush 402, 3) := by decide +kernel
theorem dX11_init_41 : decode cX11_init 41 = .ok (.newarray .long, 2) := by decide +kernel
theorem dX11_init_43 : decode cX11_init 43 = .ok (.putfield 22, 3) := by decide +kernel
theorem dX11_init_46 : decode cX11_init 46 = .ok (.aload_n 0, 1) := by decide +kernel
theorem dX11_init_47 : decode cX11_init 47 = .ok (.sipush 402, 3) := by decide +kernel
theorem dX11_init_50 : decode cX11_init 50 = .ok (.newarray .long, 2) := by decide +kernel
theorem dX11_init_52 : decode cX11_init 52 = .ok (.putfield 26, 3) := by decide +kernel
theorem dX11_init_55 : decode cX11_init 55 = .ok (.aload_n 0, 1) := by decide +kernel
theorem dX11_init_56 : decode cX11_init 56 = .ok (.bipush 21, 2) := by decide +kernel
theorem dX11_init_58 : decode cX11_init 58 = .ok (.newarray .int, 2) := by decide +kernel
theorem dX11_init_60 : decode cX11_init 60 = .ok (.putfield 29, 3) := by decide +kernel
theorem dX11_init_63 : decode cX11_init 63 = .ok (.aload_n 0, 1) := by decide +kernel
theorem dX11_init_64 : decode cX11_init 64 = .ok (.getfield 7, 3) := by decide +kernel
theorem dX11_init_67 : decode cX11_init 67 = .ok (.iconst 1, 1) := by decide +kernel
theorem dX11_init_68 : decode cX11_init 68 = .ok (.iconst 2, 1) := by decide +kernel
theorem dX11_init_69 : decode cX11_init 69 = .ok (.iastore, 1) := by decide +kernel
theorem dX11_init_70 : decode cX11_init 70 = .ok (.aload_n 0, 1) := by decide +kernel
theorem dX11_init_71 : decode cX11_init 71 = .ok (.getfield 7, 3) := by decide +kernel
theorem dX11_init_74 : decode cX11_init 74 = .ok (.iconst 2, 1) := by decide +kernel
theorem dX11_init_75 : decode cX11_init 75 = .ok (.iconst 1, 1) := by decide +kernel
theorem dX11_init_76 : decode cX11_init 76 = .ok (.iastore, 1) := by decide +kernel
theorem dX11_init_77 : decode cX11_init 77 = .ok (.return_, 1) := by decide +kernel
theorem dX11_in_0 : decode cX11_in 0 = .ok (.lload_n 0, 1) := by decide +kernel
theorem dX11_in_1 : decode cX11_in 1 = .ok (.lload_n 2, 1) := by decide +kernel
theorem dX11_in_2 : decode cX11_in 2 = .ok (.lcmp, 1) := by decide +kernel
theorem dX11_in_3 : decode cX11_in 3 = .ok (.ifCond .lt 14, 3) := by decide +kernel
theorem dX11_in_6 : decode cX11_in 6 = .ok (.lload_n 0, 1) := by decide +kernel
theorem dX11_in_7 : decode cX11_in 7 = .ok (.lload 4, 2) := by decide +kernel
theorem dX11_in_9 : decode cX11_in 9 = .ok (.lcmp, 1) := by decide +kernel
theorem dX11_in_10 : decode cX11_in 10 = .ok (.ifCond .gt 7, 3) := by decide +kernel
theorem dX11_in_13 : decode cX11_in 13 = .ok (.iconst 1, 1) := by decide +kernel
theorem dX11_in_14 : decode cX11_in 14 = .ok (.goto 4, 3) := by decide +kernel
theorem dX11_in_17 : decode cX11_in 17 = .ok (.iconst 0, 1) := by decide +kernel
theorem dX11_in_18 : decode cX11_in 18 = .ok (.ireturn, 1) := by decide +kernel
theorem dX11_changes_0 : decode cX11_changes 0 = .ok (.aload_n 0, 1) := by decide +kernel
theorem dX11_changes_1 : decode cX11_changes 1 = .ok (.getfield 32, 3) := by decide +kernel
theorem dX11_changes_4 : decode cX11_changes 4 = .ok (.iconst 4, 1) := by decide +kernel
theorem dX11_changes_5 : decode cX11_changes 5 = .ok (.if_icmp .ne 42, 3) := by decide +kernel
theorem dX11_changes_8 : decode cX11_changes 8 = .ok (.iconst 0, 1) := by decide +kernel
theorem dX11_changes_9 : decode cX11_changes 9 = .ok (.istore_n 1, 1) := by decide +kernel
theorem dX11_changes_10 : decode cX11_changes 10 = .ok (.iload_n 1, 1) := by decide +kernel
theorem dX11_changes_11 : decode cX11_changes 11 = .ok (.bipush 60, 2) := by decide +kernel
theorem dX11_changes_13 : decode cX11_changes 13 = .ok (.if_icmp .ge 24, 3) := by decide +kernel
theorem dX11_changes_16 : decode cX11_changes 16 = .ok (.aload_n 0, 1) := by decide +kernel
theorem dX11_changes_17 : decode cX11_changes 17 = .ok (.getfield 13, 3) := by decide +kernel
theorem dX11_changes_20 : decode cX11_changes 20 = .ok (.iload_n 1, 1) := by decide +kernel
theorem dX11_changes_21 : decode cX11_changes 21 = .ok (.aload_n 0, 1) := by decide +kernel
theorem dX11_changes_22 : decode cX11_changes 22 = .ok (.getfield 13, 3) := by decide +kernel
theorem dX11_changes_25 : decode cX11_changes 25 = .ok (.iload_n 1, 1) := by decide +kernel
theorem dX11_changes_26 : decode cX11_changes 26 = .ok (.bipush 20, 2) := by decide +kernel
theorem dX11_changes_28 : decode cX11_changes 28 = .ok (.iadd, 1) := by decide +kernel
theorem dX11_changes_29 : decode cX11_changes 29 = .ok (.iaload, 1) := by decide +kernel
theorem dX11_changes_30 : decode cX11_changes 30 = .ok (.iastore, 1) := by decide +kernel
theorem dX11_changes_31 : decode cX11_changes 31 = .ok (.iinc 1 1, 3) := by decide +kernel
theorem dX11_changes_34 : decode cX11_changes 34 = .ok (.goto (-24), 3) := by decide +kernel
theorem dX11_changes_37 : decode cX11_changes 37 = .ok (.aload_n 0, 1) := by decide +kernel
theorem dX11_changes_38 : decode cX11_changes 38 = .ok (.dup, 1) := by decide +kernel
theorem dX11_changes_39 : decode cX11_changes 39 = .ok (.getfield 32, 3) := by decide +kernel
theorem dX11_changes_42 : decode cX11_changes 42 = .ok (.iconst 1, 1) := by decide +kernel
theorem dX11_changes_43 : decode cX11_changes 43 = .ok (.isub, 1) := by decide +kernel
theorem dX11_changes_44 : decode cX11_changes 44 = .ok (.putfield 32, 3) := by decide +kernel
theorem dX11_changes_47 : decode cX11_changes 47 = .ok (.iconst 0, 1) := by decide +kernel
theorem dX11_changes_48 : decode cX11_changes 48 = .ok (.istore_n 1, 1) := by decide +kernel
theorem dX11_changes_49 : decode cX11_changes 49 = .ok (.iload_n 1, 1) := by decide +kernel
theorem dX11_changes_50 : decode cX11_changes 50 = .ok (.bipush 20, 2) := by decide +kernel
theorem dX11_changes_52 : decode cX11_changes 52 = .ok (.if_icmp .ge 29, 3) := by decide +kernel
theorem dX11_changes_55 : decode cX11_changes 55 = .ok (.aload_n 0, 1) := by decide +kernel
theorem dX11_changes_56 : decode cX11_changes 56 = .ok (.getfield 13, 3) := by decide +kernel
theorem dX11_changes_59 : decode cX11_changes 59 = .ok (.bipush 20, 2) := by decide +kernel
theorem dX11_changes_61 : decode cX11_changes 61 = .ok (.aload_n 0, 1) := by decide +kernel
theorem dX11_changes_62 : decode cX11_changes 62 = .ok (.getfield 32, 3) := by decide +kernel
theorem dX11_changes_65 : decode cX11_changes 65 = .ok (.imul, 1) := by decide +kernel
theorem dX11_changes_66 : decode cX11_changes 66 = .ok (.iload_n 1, 1) := by decide +kernel
theorem dX11_changes_67 : decode cX11_changes 67 = .ok (.iadd, 1) := by decide +kernel
theorem dX11_changes_68 : decode cX11_changes 68 = .ok (.aload_n 0, 1) := by decide +kernel
theorem dX11_changes_69 : decode cX11_changes 69 = .ok (.getfield 7, 3) := by decide +kernel
theorem dX11_changes_72 : decode cX11_changes 72 = .ok (.iload_n 1, 1) := by decide +kernel
theorem dX11_changes_73 : decode cX11_changes 73 = .ok (.iaload, 1) := by decide +kernel
theorem dX11_changes_74 : decode cX11_changes 74 = .ok (.iastore, 1) := by decide +kernel
theorem dX11_changes_75 : decode cX11_changes 75 = .ok (.iinc 1 1, 3) := by decide +kernel
theorem dX11_changes_78 : decode cX11_changes 78 = .ok (.goto (-29), 3) := by decide +kernel
theorem dX11_changes_81 : decode cX11_changes 81 = .ok (.aload_n 0, 1) := by decide +kernel
theorem dX11_changes_82 : decode cX11_changes 82 = .ok (.dup, 1) := by decide +kernel
theorem dX11_changes_83 : decode cX11_changes 83 = .ok (.getfield 32, 3) := by decide +kernel
theorem dX11_changes_86 : decode cX11_changes 86 = .ok (.iconst 1, 1) := by decide +kernel
theorem dX11_changes_87 : decode cX11_changes 87 = .ok (.iadd, 1) := by decide +kernel
theorem dX11_changes_88 : decode cX11_changes 88 = .ok (.putfield 32, 3) := by decide +kernel
theorem dX11_changes_91 : decode cX11_changes 91 = .ok (.return_, 1) := by decide +kernel
theorem dX11_root_0 : decode cX11_root 0 = .ok (.lconst 0, 1) := by decide +kernel
theorem dX11_root_1 : decode cX11_root 1 = .ok (.lstore_n 2, 1) := by decide +kernel
theorem dX11_root_2 : decode cX11_root 2 = .ok (.ldc2_w 36, 3) := by decide +kernel
theorem dX11_root_5 : decode cX11_root 5 = .ok (.lstore 4, 2) := by decide +kernel
theorem dX11_root_7 : decode cX11_root 7 = .ok (.lload 4, 2) := by decide +kernel
theorem dX11_root_9 : decode cX11_root 9 = .ok (.lload_n 2, 1) := by decide +kernel
theorem dX11_root_10 : decode cX11_root 10 = .ok (.lsub, 1) := by decide +kernel
theorem dX11_root_11 : decode cX11_root 11 = .ok (.lconst 1, 1) := by decide +kernel
theorem dX11_root_12 : decode cX11_root 12 = .ok (.lcmp, 1) := by decide +kernel
theorem dX11_root_13 : decode cX11_root 13 = .ok (.ifCond .le 59, 3) := by decide +kernel
theorem dX11_root_16 : decode cX11_root 16 = .ok (.lload_n 2, 1) := by decide +kernel
theorem dX11_root_17 : decode cX11_root 17 = .ok (.lload 4, 2) := by decide +kernel
theorem dX11_root_19 : decode cX11_root 19 = .ok (.ladd, 1) := by decide +kernel
theorem dX11_root_20 : decode cX11_root 20 = .ok (.ldc2_w 38, 3) := by decide +kernel
theorem dX11_root_23 : decode cX11_root 23 = .ok (.ldiv, 1) := by decide +kernel
theorem dX11_root_24 : decode cX11_root 24 = .ok (.lstore 6, 2) := by decide +kernel
theorem dX11_root_26 : decode cX11_root 26 = .ok (.lload 6, 2) := by decide +kernel
theorem dX11_root_28 : decode cX11_root 28 = .ok (.lload 6, 2) := by decide +kernel
theorem dX11_root_30 : decode cX11_root 30 = .ok (.lmul, 1) := by decide +kernel
theorem dX11_root_31 : decode cX11_root 31 = .ok (.lload_n 0, 1) := by decide +kernel
theorem dX11_root_32 : decode cX11_root 32 = .ok (.lcmp, 1) := by decide +kernel
theorem dX11_root_33 : decode cX11_root 33 = .ok (.ifCond .gt 7, 3) := by decide +kernel
theorem dX11_root_36 : decode cX11_root 36 = .ok (.iconst 1, 1) := by decide +kernel
theorem dX11_root_37 : decode cX11_root 37 = .ok (.goto 4, 3) := by decide +kernel
theorem dX11_root_40 : decode cX11_root 40 = .ok (.iconst 0, 1) := by decide +kernel
theorem dX11_root_41 : decode cX11_root 41 = .ok (.istore 8, 2) := by decide +kernel
theorem dX11_root_43 : decode cX11_root 43 = .ok (.iload 8, 2) := by decide +kernel
theorem dX11_root_45 : decode cX11_root 45 = .ok (.ifCond .eq 8, 3) := by decide +kernel
theorem dX11_root_48 : decode cX11_root 48 = .ok (.lload 6, 2) := by decide +kernel
theorem dX11_root_50 : decode cX11_root 50 = .ok (.goto 4, 3) := by decide +kernel
theorem dX11_root_53 : decode cX11_root 53 = .ok (.lload_n 2, 1) := by decide +kernel
theorem dX11_root_54 : decode cX11_root 54 = .ok (.lstore_n 2, 1) := by decide +kernel
theorem dX11_root_55 : decode cX11_root 55 = .ok (.iload 8, 2) := by decide +kernel
theorem dX11_root_57 : decode cX11_root 57 = .ok (.ifCond .eq 8, 3) := by decide +kernel
theorem dX11_root_60 : decode cX11_root 60 = .ok (.lload 4, 2) := by decide +kernel
theorem dX11_root_62 : decode cX11_root 62 = .ok (.goto 5, 3) := by decide +kernel
theorem dX11_root_65 : decode cX11_root 65 = .ok (.lload 6, 2) := by decide +kernel
theorem dX11_root_67 : decode cX11_root 67 = .ok (.lstore 4, 2) := by decide +kernel
theorem dX11_root_69 : decode cX11_root 69 = .ok (.goto (-62), 3) := by decide +kernel
theorem dX11_root_72 : decode cX11_root 72 = .ok (.lload_n 2, 1) := by decide +kernel
theorem dX11_root_73 : decode cX11_root 73 = .ok (.lreturn, 1) := by decide +kernel
theorem dX11_down_0 : decode cX11_down 0 = .ok (.lload_n 0, 1) := by decide +kernel
theorem dX11_down_1 : decode cX11_down 1 = .ok (.lload_n 2, 1) := by decide +kernel
theorem dX11_down_2 : decode cX11_down 2 = .ok (.ldiv, 1) := by decide +kernel
theorem dX11_down_3 : decode cX11_down 3 = .ok (.lstore 4, 2) := by decide +kernel
theorem dX11_down_5 : decode cX11_down 5 = .ok (.lload_n 0, 1) := by decide +kernel
theorem dX11_down_6 : decode cX11_down 6 = .ok (.lload_n 2, 1) := by decide +kernel
theorem dX11_down_7 : decode cX11_down 7 = .ok (.lrem, 1) := by decide +kernel
theorem dX11_down_8 : decode cX11_down 8 = .ok (.lconst 0, 1) := by decide +kernel
theorem dX11_down_9 : decode cX11_down 9 = .ok (.lcmp, 1) := by decide +kernel
theorem dX11_down_10 : decode cX11_down 10 = .ok (.ifCond .ge 10, 3) := by decide +kernel
theorem dX11_down_13 : decode cX11_down 13 = .ok (.lload 4, 2) := by decide +kernel
theorem dX11_down_15 : decode cX11_down 15 = .ok (.lconst 1, 1) := by decide +kernel
theorem dX11_down_16 : decode cX11_down 16 = .ok (.lsub, 1) := by decide +kernel
theorem dX11_down_17 : decode cX11_down 17 = .ok (.goto 5, 3) := by decide +kernel
theorem dX11_down_20 : decode cX11_down 20 = .ok (.lload 4, 2) := by decide +kernel
theorem dX11_down_22 : decode cX11_down 22 = .ok (.lreturn, 1) := by decide +kernel
theorem dX11_surd_0 : decode cX11_surd 0 = .ok (.iload_n 1, 1) := by decide +kernel
theorem dX11_surd_1 : decode cX11_surd 1 = .ok (.i2l, 1) := by decide +kernel
theorem dX11_surd_2 : decode cX11_surd 2 = .ok (.ldc2_w 40, 3) := by decide +kernel
theorem dX11_surd_5 : decode cX11_surd 5 = .ok (.ldc2_w 42, 3) := by decide +kernel
theorem dX11_surd_8 : decode cX11_surd 8 = .ok (.invokestatic 44, 3) := by decide +kernel
theorem dX11_surd_11 : decode cX11_surd 11 = .ok (.ifCond .eq 35, 3) := by decide +kernel
theorem dX11_surd_14 : decode cX11_surd 14 = .ok (.iload_n 2, 1) := by decide +kernel
theorem dX11_surd_15 : decode cX11_surd 15 = .ok (.i2l, 1) := by decide +kernel
theorem dX11_surd_16 : decode cX11_surd 16 = .ok (.ldc2_w 38, 3) := by decide +kernel
theorem dX11_surd_19 : decode cX11_surd 19 = .ok (.ldc2_w 48, 3) := by decide +kernel
theorem dX11_surd_22 : decode cX11_surd 22 = .ok (.invokestatic 44, 3) := by decide +kernel
theorem dX11_surd_25 : decode cX11_surd 25 = .ok (.ifCond .eq 21, 3) := by decide +kernel
theorem dX11_surd_28 : decode cX11_surd 28 = .ok (.iload_n 3, 1) := by decide +kernel
theorem dX11_surd_29 : decode cX11_surd 29 = .ok (.i2l, 1) := by decide +kernel
theorem dX11_surd_30 : decode cX11_surd 30 = .ok (.ldc2_w 40, 3) := by decide +kernel
theorem dX11_surd_33 : decode cX11_surd 33 = .ok (.ldc2_w 42, 3) := by decide +kernel
theorem dX11_surd_36 : decode cX11_surd 36 = .ok (.invokestatic 44, 3) := by decide +kernel
theorem dX11_surd_39 : decode cX11_surd 39 = .ok (.ifCond .eq 7, 3) := by decide +kernel
theorem dX11_surd_42 : decode cX11_surd 42 = .ok (.iload_n 3, 1) := by decide +kernel
theorem dX11_surd_43 : decode cX11_surd 43 = .ok (.ifCond .ne 6, 3) := by decide +kernel
theorem dX11_surd_46 : decode cX11_surd 46 = .ok (.ldc 50, 2) := by decide +kernel
theorem dX11_surd_48 : decode cX11_surd 48 = .ok (.ireturn, 1) := by decide +kernel
theorem dX11_surd_49 : decode cX11_surd 49 = .ok (.iload_n 2, 1) := by decide +kernel
theorem dX11_surd_50 : decode cX11_surd 50 = .ok (.i2l, 1) := by decide +kernel
theorem dX11_surd_51 : decode cX11_surd 51 = .ok (.invokestatic 51, 3) := by decide +kernel
theorem dX11_surd_54 : decode cX11_surd 54 = .ok (.lstore 4, 2) := by decide +kernel
theorem dX11_surd_56 : decode cX11_surd 56 = .ok (.lload 4, 2) := by decide +kernel
theorem dX11_surd_58 : decode cX11_surd 58 = .ok (.lload 4, 2) := by decide +kernel
theorem dX11_surd_60 : decode cX11_surd 60 = .ok (.lmul, 1) := by decide +kernel
theorem dX11_surd_61 : decode cX11_surd 61 = .ok (.iload_n 2, 1) := by decide +kernel
theorem dX11_surd_62 : decode cX11_surd 62 = .ok (.i2l, 1) := by decide +kernel
theorem dX11_surd_63 : decode cX11_surd 63 = .ok (.lcmp, 1) := by decide +kernel
theorem dX11_surd_64 : decode cX11_surd 64 = .ok (.ifCond .ne 6, 3) := by decide +kernel
theorem dX11_surd_67 : decode cX11_surd 67 = .ok (.ldc 55, 2) := by decide +kernel
theorem dX11_surd_69 : decode cX11_surd 69 = .ok (.ireturn, 1) := by decide +kernel
theorem dX11_surd_70 : decode cX11_surd 70 = .ok (.aload_n 0, 1) := by decide +kernel
theorem dX11_surd_71 : decode cX11_surd 71 = .ok (.invokevirtual 56, 3) := by decide +kernel
theorem dX11_surd_74 : decode cX11_surd 74 = .ok (.aload_n 0, 1) := by decide +kernel
theorem dX11_surd_75 : decode cX11_surd 75 = .ok (.getfield 7, 3) := by decide +kernel
theorem dX11_surd_78 : decode cX11_surd 78 = .ok (.iconst 0, 1) := by decide +kernel
theorem dX11_surd_79 : decode cX11_surd 79 = .ok (.iload_n 1, 1) := by decide +kernel
theorem dX11_surd_80 : decode cX11_surd 80 = .ok (.iastore, 1) := by decide +kernel
theorem dX11_surd_81 : decode cX11_surd 81 = .ok (.aload_n 0, 1) := by decide +kernel
theorem dX11_surd_82 : decode cX11_surd 82 = .ok (.getfield 7, 3) := by decide +kernel
theorem dX11_surd_85 : decode cX11_surd 85 = .ok (.iconst 1, 1) := by decide +kernel
theorem dX11_surd_86 : decode cX11_surd 86 = .ok (.iload_n 2, 1) := by decide +kernel
theorem dX11_surd_87 : decode cX11_surd 87 = .ok (.iastore, 1) := by decide +kernel
theorem dX11_surd_88 : decode cX11_surd 88 = .ok (.aload_n 0, 1) := by decide +kernel
theorem dX11_surd_89 : decode cX11_surd 89 = .ok (.getfield 7, 3) := by decide +kernel
theorem dX11_surd_92 : decode cX11_surd 92 = .ok (.iconst 2, 1) := by decide +kernel
theorem dX11_surd_93 : decode cX11_surd 93 = .ok (.iload_n 3, 1) := by decide +kernel
theorem dX11_surd_94 : decode cX11_surd 94 = .ok (.iastore, 1) := by decide +kernel
theorem dX11_surd_95 : decode cX11_surd 95 = .ok (.iconst 0, 1) := by decide +kernel
theorem dX11_surd_96 : decode cX11_surd 96 = .ok (.ireturn, 1) := by decide +kernel
theorem dX11_partOf_0 : decode cX11_partOf 0 = .ok (.iload_n 1, 1) := by decide +kernel
theorem dX11_partOf_1 : decode cX11_partOf 1 = .ok (.i2l, 1) := by decide +kernel
theorem dX11_partOf_2 : decode cX11_partOf 2 = .ok (.lconst 0, 1) := by decide +kernel
theorem dX11_partOf_3 : decode cX11_partOf 3 = .ok (.ldc2_w 38, 3) := by decide +kernel
theorem dX11_partOf_6 : decode cX11_partOf 6 = .ok (.invokestatic 44, 3) := by decide +kernel
theorem dX11_partOf_9 : decode cX11_partOf 9 = .ok (.ifCond .eq 16, 3) := by decide +kernel
theorem dX11_partOf_12 : decode cX11_partOf 12 = .ok (.aload_n 0, 1) := by decide +kernel
theorem dX11_partOf_13 : decode cX11_partOf 13 = .ok (.getfield 7, 3) := by decide +kernel
theorem dX11_partOf_16 : decode cX11_partOf 16 = .ok (.iload_n 1, 1) := by decide +kernel
theorem dX11_partOf_17 : decode cX11_partOf 17 = .ok (.iaload, 1) := by decide +kernel
theorem dX11_partOf_18 : decode cX11_partOf 18 = .ok (.sipush 1000, 3) := by decide +kernel
theorem dX11_partOf_21 : decode cX11_partOf 21 = .ok (.iadd, 1) := by decide +kernel
theorem dX11_partOf_22 : decode cX11_partOf 22 = .ok (.goto 5, 3) := by decide +kernel
theorem dX11_partOf_25 : decode cX11_partOf 25 = .ok (.ldc 50, 2) := by decide +kernel
theorem dX11_partOf_27 : decode cX11_partOf 27 = .ok (.ireturn, 1) := by decide +kernel
theorem dX11_laysOf_0 : decode cX11_laysOf 0 = .ok (.lload_n 3, 1) := by decide +kernel
theorem dX11_laysOf_1 : decode cX11_laysOf 1 = .ok (.invokestatic 51, 3) := by decide +kernel
theorem dX11_laysOf_4 : decode cX11_laysOf 4 = .ok (.lstore 7, 2) := by decide +kernel
theorem dX11_laysOf_6 : decode cX11_laysOf 6 = .ok (.aload_n 0, 1) := by decide +kernel
theorem dX11_laysOf_7 : decode cX11_laysOf 7 = .ok (.getfield 22, 3) := by decide +kernel
theorem dX11_laysOf_10 : decode cX11_laysOf 10 = .ok (.iconst 0, 1) := by decide +kernel
theorem dX11_laysOf_11 : decode cX11_laysOf 11 = .ok (.lload_n 1, 1) := by decide +kernel
theorem dX11_laysOf_12 : decode cX11_laysOf 12 = .ok (.lastore, 1) := by decide +kernel
theorem dX11_laysOf_13 : decode cX11_laysOf 13 = .ok (.aload_n 0, 1) := by decide +kernel
theorem dX11_laysOf_14 : decode cX11_laysOf 14 = .ok (.getfield 26, 3) := by decide +kernel
theorem dX11_laysOf_17 : decode cX11_laysOf 17 = .ok (.iconst 0, 1) := by decide +kernel
theorem dX11_laysOf_18 : decode cX11_laysOf 18 = .ok (.lload 5, 2) := by decide +kernel
theorem dX11_laysOf_20 : decode cX11_laysOf 20 = .ok (.lastore, 1) := by decide +kernel
theorem dX11_laysOf_21 : decode cX11_laysOf 21 = .ok (.iconst 0, 1) := by decide +kernel
theorem dX11_laysOf_22 : decode cX11_laysOf 22 = .ok (.istore 9, 2) := by decide +kernel
theorem dX11_laysOf_24 : decode cX11_laysOf 24 = .ok (.iload 9, 2) := by decide +kernel
theorem dX11_laysOf_26 : decode cX11_laysOf 26 = .ok (.sipush 400, 3) := by decide +kernel
theorem dX11_laysOf_29 : decode cX11_laysOf 29 = .ok (.if_icmp .gt 157, 3) := by decide +kernel
theorem dX11_laysOf_32 : decode cX11_laysOf 32 = .ok (.aload_n 0, 1) := by decide +kernel
theorem dX11_laysOf_33 : decode cX11_laysOf 33 = .ok (.getfield 26, 3) := by decide +kernel
theorem dX11_laysOf_36 : decode cX11_laysOf 36 = .ok (.iload 9, 2) := by decide +kernel
theorem dX11_laysOf_38 : decode cX11_laysOf 38 = .ok (.laload, 1) := by decide +kernel
theorem dX11_laysOf_39 : decode cX11_laysOf 39 = .ok (.lconst 0, 1) := by decide +kernel
theorem dX11_laysOf_40 : decode cX11_laysOf 40 = .ok (.lcmp, 1) := by decide +kernel
theorem dX11_laysOf_41 : decode cX11_laysOf 41 = .ok (.ifCond .ge 14, 3) := by decide +kernel
theorem dX11_laysOf_44 : decode cX11_laysOf 44 = .ok (.aload_n 0, 1) := by decide +kernel
theorem dX11_laysOf_45 : decode cX11_laysOf 45 = .ok (.getfield 26, 3) := by decide +kernel
theorem dX11_laysOf_48 : decode cX11_laysOf 48 = .ok (.iload 9, 2) := by decide +kernel
theorem dX11_laysOf_50 : decode cX11_laysOf 50 = .ok (.laload, 1) := by decide +kernel
theorem dX11_laysOf_51 : decode cX11_laysOf 51 = .ok (.lneg, 1) := by decide +kernel
theorem dX11_laysOf_52 : decode cX11_laysOf 52 = .ok (.goto 10, 3) := by decide +kernel
theorem dX11_laysOf_55 : decode cX11_laysOf 55 = .ok (.aload_n 0, 1) := by decide +kernel
theorem dX11_laysOf_56 : decode cX11_laysOf 56 = .ok (.getfield 26, 3) := by decide +kernel
theorem dX11_laysOf_59 : decode cX11_laysOf 59 = .ok (.iload 9, 2) := by decide +kernel
theorem dX11_laysOf_61 : decode cX11_laysOf 61 = .ok (.laload, 1) := by decide +kernel
theorem dX11_laysOf_62 : decode cX11_laysOf 62 = .ok (.lstore 10, 2) := by decide +kernel
theorem dX11_laysOf_64 : decode cX11_laysOf 64 = .ok (.aload_n 0, 1) := by decide +kernel
theorem dX11_laysOf_65 : decode cX11_laysOf 65 = .ok (.getfield 22, 3) := by decide +kernel
theorem dX11_laysOf_68 : decode cX11_laysOf 68 = .ok (.iload 9, 2) := by decide +kernel
theorem dX11_laysOf_70 : decode cX11_laysOf 70 = .ok (.laload, 1) := by decide +kernel
theorem dX11_laysOf_71 : decode cX11_laysOf 71 = .ok (.lload 7, 2) := by decide +kernel
theorem dX11_laysOf_73 : decode cX11_laysOf 73 = .ok (.ladd, 1) := by decide +kernel
theorem dX11_laysOf_74 : decode cX11_laysOf 74 = .ok (.lload 10, 2) := by decide +kernel
theorem dX11_laysOf_76 : decode cX11_laysOf 76 = .ok (.invokestatic 59, 3) := by decide +kernel
theorem dX11_laysOf_79 : decode cX11_laysOf 79 = .ok (.lstore 12, 2) := by decide +kernel
theorem dX11_laysOf_81 : decode cX11_laysOf 81 = .ok (.aload_n 0, 1) := by decide +kernel
theorem dX11_laysOf_82 : decode cX11_laysOf 82 = .ok (.getfield 26, 3) := by decide +kernel
theorem dX11_laysOf_85 : decode cX11_laysOf 85 = .ok (.iload 9, 2) := by decide +kernel
theorem dX11_laysOf_87 : decode cX11_laysOf 87 = .ok (.laload, 1) := by decide +kernel
theorem dX11_laysOf_88 : decode cX11_laysOf 88 = .ok (.lconst 0, 1) := by decide +kernel
theorem dX11_laysOf_89 : decode cX11_laysOf 89 = .ok (.lcmp, 1) := by decide +kernel
theorem dX11_laysOf_90 : decode cX11_laysOf 90 = .ok (.ifCond .ge 11, 3) := by decide +kernel
theorem dX11_laysOf_93 : decode cX11_laysOf 93 = .ok (.lload 12, 2) := by decide +kernel
theorem dX11_laysOf_95 : decode cX11_laysOf 95 = .ok (.lneg, 1) := by decide +kernel
theorem dX11_laysOf_96 : decode cX11_laysOf 96 = .ok (.lconst 1, 1) := by decide +kernel
theorem dX11_laysOf_97 : decode cX11_laysOf 97 = .ok (.lsub, 1) := by decide +kernel
theorem dX11_laysOf_98 : decode cX11_laysOf 98 = .ok (.goto 5, 3) := by decide +kernel
theorem dX11_laysOf_101 : decode cX11_laysOf 101 = .ok (.lload 12, 2) := by decide +kernel
theorem dX11_laysOf_103 : decode cX11_laysOf 103 = .ok (.lstore 14, 2) := by decide +kernel
theorem dX11_laysOf_105 : decode cX11_laysOf 105 = .ok (.aload_n 0, 1) := by decide +kernel
theorem dX11_laysOf_106 : decode cX11_laysOf 106 = .ok (.getfield 19, 3) := by decide +kernel
theorem dX11_laysOf_109 : decode cX11_laysOf 109 = .ok (.iload 9, 2) := by decide +kernel
theorem dX11_laysOf_111 : decode cX11_laysOf 111 = .ok (.lload 14, 2) := by decide +kernel
theorem dX11_laysOf_113 : decode cX11_laysOf 113 = .ok (.l2i, 1) := by decide +kernel
theorem dX11_laysOf_114 : decode cX11_laysOf 114 = .ok (.iastore, 1) := by decide +kernel
theorem dX11_laysOf_115 : decode cX11_laysOf 115 = .ok (.aload_n 0, 1) := by decide +kernel
theorem dX11_laysOf_116 : decode cX11_laysOf 116 = .ok (.getfield 22, 3) := by decide +kernel
theorem dX11_laysOf_119 : decode cX11_laysOf 119 = .ok (.iload 9, 2) := by decide +kernel
theorem dX11_laysOf_121 : decode cX11_laysOf 121 = .ok (.iconst 1, 1) := by decide +kernel
theorem dX11_laysOf_122 : decode cX11_laysOf 122 = .ok (.iadd, 1) := by decide +kernel
theorem dX11_laysOf_123 : decode cX11_laysOf 123 = .ok (.lload 14, 2) := by decide +kernel
theorem dX11_laysOf_125 : decode cX11_laysOf 125 = .ok (.aload_n 0, 1) := by decide +kernel
theorem dX11_laysOf_126 : decode cX11_laysOf 126 = .ok (.getfield 26, 3) := by decide +kernel
theorem dX11_laysOf_129 : decode cX11_laysOf 129 = .ok (.iload 9, 2) := by decide +kernel
theorem dX11_laysOf_131 : decode cX11_laysOf 131 = .ok (.laload, 1) := by decide +kernel
theorem dX11_laysOf_132 : decode cX11_laysOf 132 = .ok (.lmul, 1) := by decide +kernel
theorem dX11_laysOf_133 : decode cX11_laysOf 133 = .ok (.aload_n 0, 1) := by decide +kernel
theorem dX11_laysOf_134 : decode cX11_laysOf 134 = .ok (.getfield 22, 3) := by decide +kernel
theorem dX11_laysOf_137 : decode cX11_laysOf 137 = .ok (.iload 9, 2) := by decide +kernel
theorem dX11_laysOf_139 : decode cX11_laysOf 139 = .ok (.laload, 1) := by decide +kernel
theorem dX11_laysOf_140 : decode cX11_laysOf 140 = .ok (.lsub, 1) := by decide +kernel
theorem dX11_laysOf_141 : decode cX11_laysOf 141 = .ok (.lastore, 1) := by decide +kernel
theorem dX11_laysOf_142 : decode cX11_laysOf 142 = .ok (.aload_n 0, 1) := by decide +kernel
theorem dX11_laysOf_143 : decode cX11_laysOf 143 = .ok (.getfield 26, 3) := by decide +kernel
theorem dX11_laysOf_146 : decode cX11_laysOf 146 = .ok (.iload 9, 2) := by decide +kernel
theorem dX11_laysOf_148 : decode cX11_laysOf 148 = .ok (.iconst 1, 1) := by decide +kernel
theorem dX11_laysOf_149 : decode cX11_laysOf 149 = .ok (.iadd, 1) := by decide +kernel
theorem dX11_laysOf_150 : decode cX11_laysOf 150 = .ok (.lload_n 3, 1) := by decide +kernel
theorem dX11_laysOf_151 : decode cX11_laysOf 151 = .ok (.aload_n 0, 1) := by decide +kernel
theorem dX11_laysOf_152 : decode cX11_laysOf 152 = .ok (.getfield 22, 3) := by decide +kernel
theorem dX11_laysOf_155 : decode cX11_laysOf 155 = .ok (.iload 9, 2) := by decide +kernel
theorem dX11_laysOf_157 : decode cX11_laysOf 157 = .ok (.iconst 1, 1) := by decide +kernel
theorem dX11_laysOf_158 : decode cX11_laysOf 158 = .ok (.iadd, 1) := by decide +kernel
theorem dX11_laysOf_159 : decode cX11_laysOf 159 = .ok (.laload, 1) := by decide +kernel
theorem dX11_laysOf_160 : decode cX11_laysOf 160 = .ok (.aload_n 0, 1) := by decide +kernel
theorem dX11_laysOf_161 : decode cX11_laysOf 161 = .ok (.getfield 22, 3) := by decide +kernel
theorem dX11_laysOf_164 : decode cX11_laysOf 164 = .ok (.iload 9, 2) := by decide +kernel
theorem dX11_laysOf_166 : decode cX11_laysOf 166 = .ok (.iconst 1, 1) := by decide +kernel
theorem dX11_laysOf_167 : decode cX11_laysOf 167 = .ok (.iadd, 1) := by decide +kernel
theorem dX11_laysOf_168 : decode cX11_laysOf 168 = .ok (.laload, 1) := by decide +kernel
theorem dX11_laysOf_169 : decode cX11_laysOf 169 = .ok (.lmul, 1) := by decide +kernel
theorem dX11_laysOf_170 : decode cX11_laysOf 170 = .ok (.lsub, 1) := by decide +kernel
theorem dX11_laysOf_171 : decode cX11_laysOf 171 = .ok (.aload_n 0, 1) := by decide +kernel
theorem dX11_laysOf_172 : decode cX11_laysOf 172 = .ok (.getfield 26, 3) := by decide +kernel
theorem dX11_laysOf_175 : decode cX11_laysOf 175 = .ok (.iload 9, 2) := by decide +kernel
theorem dX11_laysOf_177 : decode cX11_laysOf 177 = .ok (.laload, 1) := by decide +kernel
theorem dX11_laysOf_178 : decode cX11_laysOf 178 = .ok (.ldiv, 1) := by decide +kernel
theorem dX11_laysOf_179 : decode cX11_laysOf 179 = .ok (.lastore, 1) := by decide +kernel
theorem dX11_laysOf_180 : decode cX11_laysOf 180 = .ok (.iinc 9 1, 3) := by decide +kernel
theorem dX11_laysOf_183 : decode cX11_laysOf 183 = .ok (.goto (-159), 3) := by decide +kernel
theorem dX11_laysOf_186 : decode cX11_laysOf 186 = .ok (.return_, 1) := by decide +kernel
theorem dX11_lays_0 : decode cX11_lays 0 = .ok (.aload_n 0, 1) := by decide +kernel
theorem dX11_lays_1 : decode cX11_lays 1 = .ok (.getfield 7, 3) := by decide +kernel
theorem dX11_lays_4 : decode cX11_lays 4 = .ok (.iconst 2, 1) := by decide +kernel
theorem dX11_lays_5 : decode cX11_lays 5 = .ok (.iaload, 1) := by decide +kernel
theorem dX11_lays_6 : decode cX11_lays 6 = .ok (.ifCond .ge 14, 3) := by decide +kernel
theorem dX11_lays_9 : decode cX11_lays 9 = .ok (.aload_n 0, 1) := by decide +kernel
theorem dX11_lays_10 : decode cX11_lays 10 = .ok (.getfield 7, 3) := by decide +kernel
theorem dX11_lays_13 : decode cX11_lays 13 = .ok (.iconst 2, 1) := by decide +kernel
theorem dX11_lays_14 : decode cX11_lays 14 = .ok (.iaload, 1) := by decide +kernel
theorem dX11_lays_15 : decode cX11_lays 15 = .ok (.ineg, 1) := by decide +kernel
theorem dX11_lays_16 : decode cX11_lays 16 = .ok (.i2l, 1) := by decide +kernel
theorem dX11_lays_17 : decode cX11_lays 17 = .ok (.goto 10, 3) := by decide +kernel
theorem dX11_lays_20 : decode cX11_lays 20 = .ok (.aload_n 0, 1) := by decide +kernel
theorem dX11_lays_21 : decode cX11_lays 21 = .ok (.getfield 7, 3) := by decide +kernel
theorem dX11_lays_24 : decode cX11_lays 24 = .ok (.iconst 2, 1) := by decide +kernel
theorem dX11_lays_25 : decode cX11_lays 25 = .ok (.iaload, 1) := by decide +kernel
theorem dX11_lays_26 : decode cX11_lays 26 = .ok (.i2l, 1) := by decide +kernel
theorem dX11_lays_27 : decode cX11_lays 27 = .ok (.lstore_n 1, 1) := by decide +kernel
theorem dX11_lays_28 : decode cX11_lays 28 = .ok (.aload_n 0, 1) := by decide +kernel
theorem dX11_lays_29 : decode cX11_lays 29 = .ok (.aload_n 0, 1) := by decide +kernel
theorem dX11_lays_30 : decode cX11_lays 30 = .ok (.getfield 7, 3) := by decide +kernel
theorem dX11_lays_33 : decode cX11_lays 33 = .ok (.iconst 0, 1) := by decide +kernel
theorem dX11_lays_34 : decode cX11_lays 34 = .ok (.iaload, 1) := by decide +kernel
theorem dX11_lays_35 : decode cX11_lays 35 = .ok (.i2l, 1) := by decide +kernel
theorem dX11_lays_36 : decode cX11_lays 36 = .ok (.lload_n 1, 1) := by decide +kernel
theorem dX11_lays_37 : decode cX11_lays 37 = .ok (.lmul, 1) := by decide +kernel
theorem dX11_lays_38 : decode cX11_lays 38 = .ok (.aload_n 0, 1) := by decide +kernel
theorem dX11_lays_39 : decode cX11_lays 39 = .ok (.getfield 7, 3) := by decide +kernel
theorem dX11_lays_42 : decode cX11_lays 42 = .ok (.iconst 1, 1) := by decide +kernel
theorem dX11_lays_43 : decode cX11_lays 43 = .ok (.iaload, 1) := by decide +kernel
theorem dX11_lays_44 : decode cX11_lays 44 = .ok (.i2l, 1) := by decide +kernel
theorem dX11_lays_45 : decode cX11_lays 45 = .ok (.lload_n 1, 1) := by decide +kernel
theorem dX11_lays_46 : decode cX11_lays 46 = .ok (.lmul, 1) := by decide +kernel
theorem dX11_lays_47 : decode cX11_lays 47 = .ok (.lload_n 1, 1) := by decide +kernel
theorem dX11_lays_48 : decode cX11_lays 48 = .ok (.lmul, 1) := by decide +kernel
theorem dX11_lays_49 : decode cX11_lays 49 = .ok (.aload_n 0, 1) := by decide +kernel
theorem dX11_lays_50 : decode cX11_lays 50 = .ok (.getfield 7, 3) := by decide +kernel
theorem dX11_lays_53 : decode cX11_lays 53 = .ok (.iconst 2, 1) := by decide +kernel
theorem dX11_lays_54 : decode cX11_lays 54 = .ok (.iaload, 1) := by decide +kernel
theorem dX11_lays_55 : decode cX11_lays 55 = .ok (.i2l, 1) := by decide +kernel
theorem dX11_lays_56 : decode cX11_lays 56 = .ok (.lload_n 1, 1) := by decide +kernel
theorem dX11_lays_57 : decode cX11_lays 57 = .ok (.lmul, 1) := by decide +kernel
theorem dX11_lays_58 : decode cX11_lays 58 = .ok (.invokevirtual 63, 3) := by decide +kernel
theorem dX11_lays_61 : decode cX11_lays 61 = .ok (.return_, 1) := by decide +kernel
theorem dX11_term_0 : decode cX11_term 0 = .ok (.iload_n 1, 1) := by decide +kernel
theorem dX11_term_1 : decode cX11_term 1 = .ok (.i2l, 1) := by decide +kernel
theorem dX11_term_2 : decode cX11_term 2 = .ok (.lconst 0, 1) := by decide +kernel
theorem dX11_term_3 : decode cX11_term 3 = .ok (.ldc2_w 67, 3) := by decide +kernel
theorem dX11_term_6 : decode cX11_term 6 = .ok (.invokestatic 44, 3) := by decide +kernel
theorem dX11_term_9 : decode cX11_term 9 = .ok (.ifCond .ne 6, 3) := by decide +kernel
theorem dX11_term_12 : decode cX11_term 12 = .ok (.ldc 50, 2) := by decide +kernel
theorem dX11_term_14 : decode cX11_term 14 = .ok (.ireturn, 1) := by decide +kernel
theorem dX11_term_15 : decode cX11_term 15 = .ok (.aload_n 0, 1) := by decide +kernel
theorem dX11_term_16 : decode cX11_term 16 = .ok (.invokevirtual 69, 3) := by decide +kernel
theorem dX11_term_19 : decode cX11_term 19 = .ok (.aload_n 0, 1) := by decide +kernel
theorem dX11_term_20 : decode cX11_term 20 = .ok (.getfield 19, 3) := by decide +kernel
theorem dX11_term_23 : decode cX11_term 23 = .ok (.iload_n 1, 1) := by decide +kernel
theorem dX11_term_24 : decode cX11_term 24 = .ok (.iaload, 1) := by decide +kernel
theorem dX11_term_25 : decode cX11_term 25 = .ok (.sipush 1000, 3) := by decide +kernel
theorem dX11_term_28 : decode cX11_term 28 = .ok (.iadd, 1) := by decide +kernel
theorem dX11_term_29 : decode cX11_term 29 = .ok (.ireturn, 1) := by decide +kernel
theorem dX11_period_0 : decode cX11_period 0 = .ok (.aload_n 0, 1) := by decide +kernel
theorem dX11_period_1 : decode cX11_period 1 = .ok (.invokevirtual 69, 3) := by decide +kernel
theorem dX11_period_4 : decode cX11_period 4 = .ok (.iconst 1, 1) := by decide +kernel
theorem dX11_period_5 : decode cX11_period 5 = .ok (.istore_n 1, 1) := by decide +kernel
theorem dX11_period_6 : decode cX11_period 6 = .ok (.iload_n 1, 1) := by decide +kernel
theorem dX11_period_7 : decode cX11_period 7 = .ok (.sipush 400, 3) := by decide +kernel
theorem dX11_period_10 : decode cX11_period 10 = .ok (.if_icmp .gt 63, 3) := by decide +kernel
theorem dX11_period_13 : decode cX11_period 13 = .ok (.iconst 0, 1) := by decide +kernel
theorem dX11_period_14 : decode cX11_period 14 = .ok (.istore_n 2, 1) := by decide +kernel
theorem dX11_period_15 : decode cX11_period 15 = .ok (.iload_n 2, 1) := by decide +kernel
theorem dX11_period_16 : decode cX11_period 16 = .ok (.iload_n 1, 1) := by decide +kernel
theorem dX11_period_17 : decode cX11_period 17 = .ok (.if_icmp .ge 50, 3) := by decide +kernel
theorem dX11_period_20 : decode cX11_period 20 = .ok (.aload_n 0, 1) := by decide +kernel
theorem dX11_period_21 : decode cX11_period 21 = .ok (.getfield 22, 3) := by decide +kernel
theorem dX11_period_24 : decode cX11_period 24 = .ok (.iload_n 2, 1) := by decide +kernel
theorem dX11_period_25 : decode cX11_period 25 = .ok (.laload, 1) := by decide +kernel
theorem dX11_period_26 : decode cX11_period 26 = .ok (.aload_n 0, 1) := by decide +kernel
theorem dX11_period_27 : decode cX11_period 27 = .ok (.getfield 22, 3) := by decide +kernel
theorem dX11_period_30 : decode cX11_period 30 = .ok (.iload_n 1, 1) := by decide +kernel
theorem dX11_period_31 : decode cX11_period 31 = .ok (.laload, 1) := by decide +kernel
theorem dX11_period_32 : decode cX11_period 32 = .ok (.lcmp, 1) := by decide +kernel
theorem dX11_period_33 : decode cX11_period 33 = .ok (.ifCond .ne 28, 3) := by decide +kernel
theorem dX11_period_36 : decode cX11_period 36 = .ok (.aload_n 0, 1) := by decide +kernel
theorem dX11_period_37 : decode cX11_period 37 = .ok (.getfield 26, 3) := by decide +kernel
theorem dX11_period_40 : decode cX11_period 40 = .ok (.iload_n 2, 1) := by decide +kernel
theorem dX11_period_41 : decode cX11_period 41 = .ok (.laload, 1) := by decide +kernel
theorem dX11_period_42 : decode cX11_period 42 = .ok (.aload_n 0, 1) := by decide +kernel
theorem dX11_period_43 : decode cX11_period 43 = .ok (.getfield 26, 3) := by decide +kernel
theorem dX11_period_46 : decode cX11_period 46 = .ok (.iload_n 1, 1) := by decide +kernel
theorem dX11_period_47 : decode cX11_period 47 = .ok (.laload, 1) := by decide +kernel
theorem dX11_period_48 : decode cX11_period 48 = .ok (.lcmp, 1) := by decide +kernel
theorem dX11_period_49 : decode cX11_period 49 = .ok (.ifCond .ne 12, 3) := by decide +kernel
theorem dX11_period_52 : decode cX11_period 52 = .ok (.aload_n 0, 1) := by decide +kernel
theorem dX11_period_53 : decode cX11_period 53 = .ok (.iload_n 2, 1) := by decide +kernel
theorem dX11_period_54 : decode cX11_period 54 = .ok (.putfield 72, 3) := by decide +kernel
theorem dX11_period_57 : decode cX11_period 57 = .ok (.iload_n 1, 1) := by decide +kernel
theorem dX11_period_58 : decode cX11_period 58 = .ok (.iload_n 2, 1) := by decide +kernel
theorem dX11_period_59 : decode cX11_period 59 = .ok (.isub, 1) := by decide +kernel
theorem dX11_period_60 : decode cX11_period 60 = .ok (.ireturn, 1) := by decide +kernel
theorem dX11_period_61 : decode cX11_period 61 = .ok (.iinc 2 1, 3) := by decide +kernel
theorem dX11_period_64 : decode cX11_period 64 = .ok (.goto (-49), 3) := by decide +kernel
theorem dX11_period_67 : decode cX11_period 67 = .ok (.iinc 1 1, 3) := by decide +kernel
theorem dX11_period_70 : decode cX11_period 70 = .ok (.goto (-64), 3) := by decide +kernel
theorem dX11_period_73 : decode cX11_period 73 = .ok (.iconst 0, 1) := by decide +kernel
theorem dX11_period_74 : decode cX11_period 74 = .ok (.ireturn, 1) := by decide +kernel
theorem dX11_greatest_0 : decode cX11_greatest 0 = .ok (.iconst 0, 1) := by decide +kernel
theorem dX11_greatest_1 : decode cX11_greatest 1 = .ok (.istore_n 2, 1) := by decide +kernel
theorem dX11_greatest_2 : decode cX11_greatest 2 = .ok (.aload_n 0, 1) := by decide +kernel
theorem dX11_greatest_3 : decode cX11_greatest 3 = .ok (.getfield 72, 3) := by decide +kernel
theorem dX11_greatest_6 : decode cX11_greatest 6 = .ok (.istore_n 3, 1) := by decide +kernel
theorem dX11_greatest_7 : decode cX11_greatest 7 = .ok (.iload_n 3, 1) := by decide +kernel
theorem dX11_greatest_8 : decode cX11_greatest 8 = .ok (.aload_n 0, 1) := by decide +kernel
theorem dX11_greatest_9 : decode cX11_greatest 9 = .ok (.getfield 72, 3) := by decide +kernel
theorem dX11_greatest_12 : decode cX11_greatest 12 = .ok (.iload_n 1, 1) := by decide +kernel
theorem dX11_greatest_13 : decode cX11_greatest 13 = .ok (.iadd, 1) := by decide +kernel
theorem dX11_greatest_14 : decode cX11_greatest 14 = .ok (.if_icmp .ge 30, 3) := by decide +kernel
theorem dX11_greatest_17 : decode cX11_greatest 17 = .ok (.aload_n 0, 1) := by decide +kernel
theorem dX11_greatest_18 : decode cX11_greatest 18 = .ok (.getfield 19, 3) := by decide +kernel
theorem dX11_greatest_21 : decode cX11_greatest 21 = .ok (.iload_n 3, 1) := by decide +kernel
theorem dX11_greatest_22 : decode cX11_greatest 22 = .ok (.iaload, 1) := by decide +kernel
theorem dX11_greatest_23 : decode cX11_greatest 23 = .ok (.iload_n 2, 1) := by decide +kernel
theorem dX11_greatest_24 : decode cX11_greatest 24 = .ok (.if_icmp .le 12, 3) := by decide +kernel
theorem dX11_greatest_27 : decode cX11_greatest 27 = .ok (.aload_n 0, 1) := by decide +kernel
theorem dX11_greatest_28 : decode cX11_greatest 28 = .ok (.getfield 19, 3) := by decide +kernel
theorem dX11_greatest_31 : decode cX11_greatest 31 = .ok (.iload_n 3, 1) := by decide +kernel
theorem dX11_greatest_32 : decode cX11_greatest 32 = .ok (.iaload, 1) := by decide +kernel
theorem dX11_greatest_33 : decode cX11_greatest 33 = .ok (.goto 4, 3) := by decide +kernel
theorem dX11_greatest_36 : decode cX11_greatest 36 = .ok (.iload_n 2, 1) := by decide +kernel
theorem dX11_greatest_37 : decode cX11_greatest 37 = .ok (.istore_n 2, 1) := by decide +kernel
theorem dX11_greatest_38 : decode cX11_greatest 38 = .ok (.iinc 3 1, 3) := by decide +kernel
theorem dX11_greatest_41 : decode cX11_greatest 41 = .ok (.goto (-34), 3) := by decide +kernel
theorem dX11_greatest_44 : decode cX11_greatest 44 = .ok (.iload_n 2, 1) := by decide +kernel
theorem dX11_greatest_45 : decode cX11_greatest 45 = .ok (.ireturn, 1) := by decide +kernel
theorem dX11_unlike_0 : decode cX11_unlike 0 = .ok (.iconst 0, 1) := by decide +kernel
theorem dX11_unlike_1 : decode cX11_unlike 1 = .ok (.istore_n 2, 1) := by decide +kernel
theorem dX11_unlike_2 : decode cX11_unlike 2 = .ok (.aload_n 0, 1) := by decide +kernel
theorem dX11_unlike_3 : decode cX11_unlike 3 = .ok (.getfield 72, 3) := by decide +kernel
theorem dX11_unlike_6 : decode cX11_unlike 6 = .ok (.istore_n 3, 1) := by decide +kernel
theorem dX11_unlike_7 : decode cX11_unlike 7 = .ok (.iload_n 3, 1) := by decide +kernel
theorem dX11_unlike_8 : decode cX11_unlike 8 = .ok (.aload_n 0, 1) := by decide +kernel
theorem dX11_unlike_9 : decode cX11_unlike 9 = .ok (.getfield 72, 3) := by decide +kernel
theorem dX11_unlike_12 : decode cX11_unlike 12 = .ok (.iload_n 1, 1) := by decide +kernel
theorem dX11_unlike_13 : decode cX11_unlike 13 = .ok (.iadd, 1) := by decide +kernel
theorem dX11_unlike_14 : decode cX11_unlike 14 = .ok (.if_icmp .ge 71, 3) := by decide +kernel
theorem dX11_unlike_17 : decode cX11_unlike 17 = .ok (.iconst 1, 1) := by decide +kernel
theorem dX11_unlike_18 : decode cX11_unlike 18 = .ok (.istore 4, 2) := by decide +kernel
theorem dX11_unlike_20 : decode cX11_unlike 20 = .ok (.aload_n 0, 1) := by decide +kernel
theorem dX11_unlike_21 : decode cX11_unlike 21 = .ok (.getfield 72, 3) := by decide +kernel
theorem dX11_unlike_24 : decode cX11_unlike 24 = .ok (.istore 5, 2) := by decide +kernel
theorem dX11_unlike_26 : decode cX11_unlike 26 = .ok (.iload 5, 2) := by decide +kernel
theorem dX11_unlike_28 : decode cX11_unlike 28 = .ok (.iload_n 3, 1) := by decide +kernel
theorem dX11_unlike_29 : decode cX11_unlike 29 = .ok (.if_icmp .ge 37, 3) := by decide +kernel
theorem dX11_unlike_32 : decode cX11_unlike 32 = .ok (.iload 4, 2) := by decide +kernel
theorem dX11_unlike_34 : decode cX11_unlike 34 = .ok (.ifCond .eq 23, 3) := by decide +kernel
theorem dX11_unlike_37 : decode cX11_unlike 37 = .ok (.aload_n 0, 1) := by decide +kernel
theorem dX11_unlike_38 : decode cX11_unlike 38 = .ok (.getfield 19, 3) := by decide +kernel
theorem dX11_unlike_41 : decode cX11_unlike 41 = .ok (.iload 5, 2) := by decide +kernel
theorem dX11_unlike_43 : decode cX11_unlike 43 = .ok (.iaload, 1) := by decide +kernel
theorem dX11_unlike_44 : decode cX11_unlike 44 = .ok (.aload_n 0, 1) := by decide +kernel
theorem dX11_unlike_45 : decode cX11_unlike 45 = .ok (.getfield 19, 3) := by decide +kernel
theorem dX11_unlike_48 : decode cX11_unlike 48 = .ok (.iload_n 3, 1) := by decide +kernel
theorem dX11_unlike_49 : decode cX11_unlike 49 = .ok (.iaload, 1) := by decide +kernel
theorem dX11_unlike_50 : decode cX11_unlike 50 = .ok (.if_icmp .eq 7, 3) := by decide +kernel
theorem dX11_unlike_53 : decode cX11_unlike 53 = .ok (.iconst 1, 1) := by decide +kernel
theorem dX11_unlike_54 : decode cX11_unlike 54 = .ok (.goto 4, 3) := by decide +kernel
theorem dX11_unlike_57 : decode cX11_unlike 57 = .ok (.iconst 0, 1) := by decide +kernel
theorem dX11_unlike_58 : decode cX11_unlike 58 = .ok (.istore 4, 2) := by decide +kernel
theorem dX11_unlike_60 : decode cX11_unlike 60 = .ok (.iinc 5 1, 3) := by decide +kernel
theorem dX11_unlike_63 : decode cX11_unlike 63 = .ok (.goto (-37), 3) := by decide +kernel
theorem dX11_unlike_66 : decode cX11_unlike 66 = .ok (.iload_n 2, 1) := by decide +kernel
theorem dX11_unlike_67 : decode cX11_unlike 67 = .ok (.iload 4, 2) := by decide +kernel
theorem dX11_unlike_69 : decode cX11_unlike 69 = .ok (.ifCond .eq 7, 3) := by decide +kernel
theorem dX11_unlike_72 : decode cX11_unlike 72 = .ok (.iconst 1, 1) := by decide +kernel
theorem dX11_unlike_73 : decode cX11_unlike 73 = .ok (.goto 4, 3) := by decide +kernel
theorem dX11_unlike_76 : decode cX11_unlike 76 = .ok (.iconst 0, 1) := by decide +kernel
theorem dX11_unlike_77 : decode cX11_unlike 77 = .ok (.iadd, 1) := by decide +kernel
theorem dX11_unlike_78 : decode cX11_unlike 78 = .ok (.istore_n 2, 1) := by decide +kernel
theorem dX11_unlike_79 : decode cX11_unlike 79 = .ok (.iinc 3 1, 3) := by decide +kernel
theorem dX11_unlike_82 : decode cX11_unlike 82 = .ok (.goto (-75), 3) := by decide +kernel
theorem dX11_unlike_85 : decode cX11_unlike 85 = .ok (.iload_n 2, 1) := by decide +kernel
theorem dX11_unlike_86 : decode cX11_unlike 86 = .ok (.ireturn, 1) := by decide +kernel
theorem dX11_isMirror_0 : decode cX11_isMirror 0 = .ok (.iconst 1, 1) := by decide +kernel
theorem dX11_isMirror_1 : decode cX11_isMirror 1 = .ok (.istore_n 2, 1) := by decide +kernel
theorem dX11_isMirror_2 : decode cX11_isMirror 2 = .ok (.iconst 0, 1) := by decide +kernel
theorem dX11_isMirror_3 : decode cX11_isMirror 3 = .ok (.istore_n 3, 1) := by decide +kernel
theorem dX11_isMirror_4 : decode cX11_isMirror 4 = .ok (.iload_n 3, 1) := by decide +kernel
theorem dX11_isMirror_5 : decode cX11_isMirror 5 = .ok (.iload_n 1, 1) := by decide +kernel
theorem dX11_isMirror_6 : decode cX11_isMirror 6 = .ok (.iconst 1, 1) := by decide +kernel
theorem dX11_isMirror_7 : decode cX11_isMirror 7 = .ok (.isub, 1) := by decide +kernel
theorem dX11_isMirror_8 : decode cX11_isMirror 8 = .ok (.if_icmp .ge 48, 3) := by decide +kernel
theorem dX11_isMirror_11 : decode cX11_isMirror 11 = .ok (.iload_n 2, 1) := by decide +kernel
theorem dX11_isMirror_12 : decode cX11_isMirror 12 = .ok (.ifCond .eq 36, 3) := by decide +kernel
theorem dX11_isMirror_15 : decode cX11_isMirror 15 = .ok (.aload_n 0, 1) := by decide +kernel
theorem dX11_isMirror_16 : decode cX11_isMirror 16 = .ok (.getfield 19, 3) := by decide +kernel
theorem dX11_isMirror_19 : decode cX11_isMirror 19 = .ok (.aload_n 0, 1) := by decide +kernel
theorem dX11_isMirror_20 : decode cX11_isMirror 20 = .ok (.getfield 72, 3) := by decide +kernel
theorem dX11_isMirror_23 : decode cX11_isMirror 23 = .ok (.iload_n 3, 1) := by decide +kernel
theorem dX11_isMirror_24 : decode cX11_isMirror 24 = .ok (.iadd, 1) := by decide +kernel
theorem dX11_isMirror_25 : decode cX11_isMirror 25 = .ok (.iaload, 1) := by decide +kernel
theorem dX11_isMirror_26 : decode cX11_isMirror 26 = .ok (.aload_n 0, 1) := by decide +kernel
theorem dX11_isMirror_27 : decode cX11_isMirror 27 = .ok (.getfield 19, 3) := by decide +kernel
theorem dX11_isMirror_30 : decode cX11_isMirror 30 = .ok (.aload_n 0, 1) := by decide +kernel
theorem dX11_isMirror_31 : decode cX11_isMirror 31 = .ok (.getfield 72, 3) := by decide +kernel
theorem dX11_isMirror_34 : decode cX11_isMirror 34 = .ok (.iload_n 1, 1) := by decide +kernel
theorem dX11_isMirror_35 : decode cX11_isMirror 35 = .ok (.iadd, 1) := by decide +kernel
theorem dX11_isMirror_36 : decode cX11_isMirror 36 = .ok (.iconst 2, 1) := by decide +kernel
theorem dX11_isMirror_37 : decode cX11_isMirror 37 = .ok (.isub, 1) := by decide +kernel
theorem dX11_isMirror_38 : decode cX11_isMirror 38 = .ok (.iload_n 3, 1) := by decide +kernel
theorem dX11_isMirror_39 : decode cX11_isMirror 39 = .ok (.isub, 1) := by decide +kernel
theorem dX11_isMirror_40 : decode cX11_isMirror 40 = .ok (.iaload, 1) := by decide +kernel
theorem dX11_isMirror_41 : decode cX11_isMirror 41 = .ok (.if_icmp .ne 7, 3) := by decide +kernel
theorem dX11_isMirror_44 : decode cX11_isMirror 44 = .ok (.iconst 1, 1) := by decide +kernel
theorem dX11_isMirror_45 : decode cX11_isMirror 45 = .ok (.goto 4, 3) := by decide +kernel
theorem dX11_isMirror_48 : decode cX11_isMirror 48 = .ok (.iconst 0, 1) := by decide +kernel
theorem dX11_isMirror_49 : decode cX11_isMirror 49 = .ok (.istore_n 2, 1) := by decide +kernel
theorem dX11_isMirror_50 : decode cX11_isMirror 50 = .ok (.iinc 3 1, 3) := by decide +kernel
theorem dX11_isMirror_53 : decode cX11_isMirror 53 = .ok (.goto (-49), 3) := by decide +kernel
theorem dX11_isMirror_56 : decode cX11_isMirror 56 = .ok (.iload_n 2, 1) := by decide +kernel
theorem dX11_isMirror_57 : decode cX11_isMirror 57 = .ok (.ireturn, 1) := by decide +kernel
theorem dX11_again_0 : decode cX11_again 0 = .ok (.iload_n 1, 1) := by decide +kernel
theorem dX11_again_1 : decode cX11_again 1 = .ok (.i2l, 1) := by decide +kernel
theorem dX11_again_2 : decode cX11_again 2 = .ok (.lconst 0, 1) := by decide +kernel
theorem dX11_again_3 : decode cX11_again 3 = .ok (.ldc2_w 75, 3) := by decide +kernel
theorem dX11_again_6 : decode cX11_again 6 = .ok (.invokestatic 44, 3) := by decide +kernel
theorem dX11_again_9 : decode cX11_again 9 = .ok (.ifCond .ne 6, 3) := by decide +kernel
theorem dX11_again_12 : decode cX11_again 12 = .ok (.ldc 50, 2) := by decide +kernel
theorem dX11_again_14 : decode cX11_again 14 = .ok (.ireturn, 1) := by decide +kernel
theorem dX11_again_15 : decode cX11_again 15 = .ok (.aload_n 0, 1) := by decide +kernel
theorem dX11_again_16 : decode cX11_again 16 = .ok (.invokevirtual 77, 3) := by decide +kernel
theorem dX11_again_19 : decode cX11_again 19 = .ok (.istore_n 2, 1) := by decide +kernel
theorem dX11_again_20 : decode cX11_again 20 = .ok (.iload_n 2, 1) := by decide +kernel
theorem dX11_again_21 : decode cX11_again 21 = .ok (.ifCond .ne 6, 3) := by decide +kernel
theorem dX11_again_24 : decode cX11_again 24 = .ok (.ldc 81, 2) := by decide +kernel
theorem dX11_again_26 : decode cX11_again 26 = .ok (.ireturn, 1) := by decide +kernel
theorem dX11_again_27 : decode cX11_again 27 = .ok (.iload_n 1, 1) := by decide +kernel
theorem dX11_again_28 : decode cX11_again 28 = .ok (.ifCond .ne 10, 3) := by decide +kernel
theorem dX11_again_31 : decode cX11_again 31 = .ok (.aload_n 0, 1) := by decide +kernel
theorem dX11_again_32 : decode cX11_again 32 = .ok (.getfield 72, 3) := by decide +kernel
theorem dX11_again_35 : decode cX11_again 35 = .ok (.goto 51, 3) := by decide +kernel
theorem dX11_again_38 : decode cX11_again 38 = .ok (.iload_n 1, 1) := by decide +kernel
theorem dX11_again_39 : decode cX11_again 39 = .ok (.iconst 1, 1) := by decide +kernel
theorem dX11_again_40 : decode cX11_again 40 = .ok (.if_icmp .ne 7, 3) := by decide +kernel
theorem dX11_again_43 : decode cX11_again 43 = .ok (.iload_n 2, 1) := by decide +kernel
theorem dX11_again_44 : decode cX11_again 44 = .ok (.goto 42, 3) := by decide +kernel
theorem dX11_again_47 : decode cX11_again 47 = .ok (.iload_n 1, 1) := by decide +kernel
theorem dX11_again_48 : decode cX11_again 48 = .ok (.iconst 2, 1) := by decide +kernel
theorem dX11_again_49 : decode cX11_again 49 = .ok (.if_icmp .ne 11, 3) := by decide +kernel
theorem dX11_again_52 : decode cX11_again 52 = .ok (.aload_n 0, 1) := by decide +kernel
theorem dX11_again_53 : decode cX11_again 53 = .ok (.iload_n 2, 1) := by decide +kernel
theorem dX11_again_54 : decode cX11_again 54 = .ok (.invokevirtual 82, 3) := by decide +kernel
theorem dX11_again_57 : decode cX11_again 57 = .ok (.goto 29, 3) := by decide +kernel
theorem dX11_again_60 : decode cX11_again 60 = .ok (.iload_n 1, 1) := by decide +kernel
theorem dX11_again_61 : decode cX11_again 61 = .ok (.iconst 3, 1) := by decide +kernel
theorem dX11_again_62 : decode cX11_again 62 = .ok (.if_icmp .ne 11, 3) := by decide +kernel
theorem dX11_again_65 : decode cX11_again 65 = .ok (.aload_n 0, 1) := by decide +kernel
theorem dX11_again_66 : decode cX11_again 66 = .ok (.iload_n 2, 1) := by decide +kernel
theorem dX11_again_67 : decode cX11_again 67 = .ok (.invokevirtual 86, 3) := by decide +kernel
theorem dX11_again_70 : decode cX11_again 70 = .ok (.goto 16, 3) := by decide +kernel
theorem dX11_again_73 : decode cX11_again 73 = .ok (.aload_n 0, 1) := by decide +kernel
theorem dX11_again_74 : decode cX11_again 74 = .ok (.iload_n 2, 1) := by decide +kernel
theorem dX11_again_75 : decode cX11_again 75 = .ok (.invokevirtual 89, 3) := by decide +kernel
theorem dX11_again_78 : decode cX11_again 78 = .ok (.ifCond .eq 7, 3) := by decide +kernel
theorem dX11_again_81 : decode cX11_again 81 = .ok (.iconst 1, 1) := by decide +kernel
theorem dX11_again_82 : decode cX11_again 82 = .ok (.goto 4, 3) := by decide +kernel
theorem dX11_again_85 : decode cX11_again 85 = .ok (.iconst 0, 1) := by decide +kernel
theorem dX11_again_86 : decode cX11_again 86 = .ok (.ireturn, 1) := by decide +kernel
theorem dX11_size_0 : decode cX11_size 0 = .ok (.lload_n 0, 1) := by decide +kernel
theorem dX11_size_1 : decode cX11_size 1 = .ok (.lconst 0, 1) := by decide +kernel
theorem dX11_size_2 : decode cX11_size 2 = .ok (.lcmp, 1) := by decide +kernel
theorem dX11_size_3 : decode cX11_size 3 = .ok (.ifCond .ge 8, 3) := by decide +kernel
theorem dX11_size_6 : decode cX11_size 6 = .ok (.lload_n 0, 1) := by decide +kernel
theorem dX11_size_7 : decode cX11_size 7 = .ok (.lneg, 1) := by decide +kernel
theorem dX11_size_8 : decode cX11_size 8 = .ok (.goto 4, 3) := by decide +kernel
theorem dX11_size_11 : decode cX11_size 11 = .ok (.lload_n 0, 1) := by decide +kernel
theorem dX11_size_12 : decode cX11_size 12 = .ok (.lreturn, 1) := by decide +kernel
theorem dX11_begins_0 : decode cX11_begins 0 = .ok (.aload_n 0, 1) := by decide +kernel
theorem dX11_begins_1 : decode cX11_begins 1 = .ok (.lconst 1, 1) := by decide +kernel
theorem dX11_begins_2 : decode cX11_begins 2 = .ok (.putfield 93, 3) := by decide +kernel
theorem dX11_begins_5 : decode cX11_begins 5 = .ok (.aload_n 0, 1) := by decide +kernel
theorem dX11_begins_6 : decode cX11_begins 6 = .ok (.lconst 0, 1) := by decide +kernel
theorem dX11_begins_7 : decode cX11_begins 7 = .ok (.putfield 97, 3) := by decide +kernel
theorem dX11_begins_10 : decode cX11_begins 10 = .ok (.aload_n 0, 1) := by decide +kernel
theorem dX11_begins_11 : decode cX11_begins 11 = .ok (.lconst 0, 1) := by decide +kernel
theorem dX11_begins_12 : decode cX11_begins 12 = .ok (.putfield 100, 3) := by decide +kernel
theorem dX11_begins_15 : decode cX11_begins 15 = .ok (.aload_n 0, 1) := by decide +kernel
theorem dX11_begins_16 : decode cX11_begins 16 = .ok (.lconst 1, 1) := by decide +kernel
theorem dX11_begins_17 : decode cX11_begins 17 = .ok (.putfield 103, 3) := by decide +kernel
theorem dX11_begins_20 : decode cX11_begins 20 = .ok (.return_, 1) := by decide +kernel
theorem dX11_goesOn_0 : decode cX11_goesOn 0 = .ok (.lload_n 1, 1) := by decide +kernel
theorem dX11_goesOn_1 : decode cX11_goesOn 1 = .ok (.invokestatic 106, 3) := by decide +kernel
theorem dX11_goesOn_4 : decode cX11_goesOn 4 = .ok (.lconst 1, 1) := by decide +kernel
theorem dX11_goesOn_5 : decode cX11_goesOn 5 = .ok (.ladd, 1) := by decide +kernel
theorem dX11_goesOn_6 : decode cX11_goesOn 6 = .ok (.lstore_n 3, 1) := by decide +kernel
theorem dX11_goesOn_7 : decode cX11_goesOn 7 = .ok (.aload_n 0, 1) := by decide +kernel
theorem dX11_goesOn_8 : decode cX11_goesOn 8 = .ok (.getfield 93, 3) := by decide +kernel
theorem dX11_goesOn_11 : decode cX11_goesOn 11 = .ok (.invokestatic 106, 3) := by decide +kernel
theorem dX11_goesOn_14 : decode cX11_goesOn 14 = .ok (.ldc2_w 109, 3) := by decide +kernel
theorem dX11_goesOn_17 : decode cX11_goesOn 17 = .ok (.lload_n 3, 1) := by decide +kernel
theorem dX11_goesOn_18 : decode cX11_goesOn 18 = .ok (.ldiv, 1) := by decide +kernel
theorem dX11_goesOn_19 : decode cX11_goesOn 19 = .ok (.lcmp, 1) := by decide +kernel
theorem dX11_goesOn_20 : decode cX11_goesOn 20 = .ok (.ifCond .gt 16, 3) := by decide +kernel
theorem dX11_goesOn_23 : decode cX11_goesOn 23 = .ok (.aload_n 0, 1) := by decide +kernel
theorem dX11_goesOn_24 : decode cX11_goesOn 24 = .ok (.getfield 97, 3) := by decide +kernel
theorem dX11_goesOn_27 : decode cX11_goesOn 27 = .ok (.ldc2_w 109, 3) := by decide +kernel
theorem dX11_goesOn_30 : decode cX11_goesOn 30 = .ok (.lload_n 3, 1) := by decide +kernel
theorem dX11_goesOn_31 : decode cX11_goesOn 31 = .ok (.ldiv, 1) := by decide +kernel
theorem dX11_goesOn_32 : decode cX11_goesOn 32 = .ok (.lcmp, 1) := by decide +kernel
theorem dX11_goesOn_33 : decode cX11_goesOn 33 = .ok (.ifCond .le 5, 3) := by decide +kernel
theorem dX11_goesOn_36 : decode cX11_goesOn 36 = .ok (.iconst 0, 1) := by decide +kernel
theorem dX11_goesOn_37 : decode cX11_goesOn 37 = .ok (.ireturn, 1) := by decide +kernel
theorem dX11_goesOn_38 : decode cX11_goesOn 38 = .ok (.lload_n 1, 1) := by decide +kernel
theorem dX11_goesOn_39 : decode cX11_goesOn 39 = .ok (.aload_n 0, 1) := by decide +kernel
theorem dX11_goesOn_40 : decode cX11_goesOn 40 = .ok (.getfield 93, 3) := by decide +kernel
theorem dX11_goesOn_43 : decode cX11_goesOn 43 = .ok (.lmul, 1) := by decide +kernel
theorem dX11_goesOn_44 : decode cX11_goesOn 44 = .ok (.aload_n 0, 1) := by decide +kernel
theorem dX11_goesOn_45 : decode cX11_goesOn 45 = .ok (.getfield 100, 3) := by decide +kernel
theorem dX11_goesOn_48 : decode cX11_goesOn 48 = .ok (.ladd, 1) := by decide +kernel
theorem dX11_goesOn_49 : decode cX11_goesOn 49 = .ok (.lstore 5, 2) := by decide +kernel
theorem dX11_goesOn_51 : decode cX11_goesOn 51 = .ok (.lload_n 1, 1) := by decide +kernel
theorem dX11_goesOn_52 : decode cX11_goesOn 52 = .ok (.aload_n 0, 1) := by decide +kernel
theorem dX11_goesOn_53 : decode cX11_goesOn 53 = .ok (.getfield 97, 3) := by decide +kernel
theorem dX11_goesOn_56 : decode cX11_goesOn 56 = .ok (.lmul, 1) := by decide +kernel
theorem dX11_goesOn_57 : decode cX11_goesOn 57 = .ok (.aload_n 0, 1) := by decide +kernel
theorem dX11_goesOn_58 : decode cX11_goesOn 58 = .ok (.getfield 103, 3) := by decide +kernel
theorem dX11_goesOn_61 : decode cX11_goesOn 61 = .ok (.ladd, 1) := by decide +kernel
theorem dX11_goesOn_62 : decode cX11_goesOn 62 = .ok (.lstore 7, 2) := by decide +kernel
theorem dX11_goesOn_64 : decode cX11_goesOn 64 = .ok (.lload 5, 2) := by decide +kernel
theorem dX11_goesOn_66 : decode cX11_goesOn 66 = .ok (.invokestatic 106, 3) := by decide +kernel
theorem dX11_goesOn_69 : decode cX11_goesOn 69 = .ok (.ldc2_w 111, 3) := by decide +kernel
theorem dX11_goesOn_72 : decode cX11_goesOn 72 = .ok (.lcmp, 1) := by decide +kernel
theorem dX11_goesOn_73 : decode cX11_goesOn 73 = .ok (.ifCond .gt 12, 3) := by decide +kernel
theorem dX11_goesOn_76 : decode cX11_goesOn 76 = .ok (.lload 7, 2) := by decide +kernel
theorem dX11_goesOn_78 : decode cX11_goesOn 78 = .ok (.ldc2_w 111, 3) := by decide +kernel
theorem dX11_goesOn_81 : decode cX11_goesOn 81 = .ok (.lcmp, 1) := by decide +kernel
theorem dX11_goesOn_82 : decode cX11_goesOn 82 = .ok (.ifCond .le 5, 3) := by decide +kernel
theorem dX11_goesOn_85 : decode cX11_goesOn 85 = .ok (.iconst 0, 1) := by decide +kernel
theorem dX11_goesOn_86 : decode cX11_goesOn 86 = .ok (.ireturn, 1) := by decide +kernel
theorem dX11_goesOn_87 : decode cX11_goesOn 87 = .ok (.aload_n 0, 1) := by decide +kernel
theorem dX11_goesOn_88 : decode cX11_goesOn 88 = .ok (.aload_n 0, 1) := by decide +kernel
theorem dX11_goesOn_89 : decode cX11_goesOn 89 = .ok (.getfield 93, 3) := by decide +kernel
theorem dX11_goesOn_92 : decode cX11_goesOn 92 = .ok (.putfield 100, 3) := by decide +kernel
theorem dX11_goesOn_95 : decode cX11_goesOn 95 = .ok (.aload_n 0, 1) := by decide +kernel
theorem dX11_goesOn_96 : decode cX11_goesOn 96 = .ok (.aload_n 0, 1) := by decide +kernel
theorem dX11_goesOn_97 : decode cX11_goesOn 97 = .ok (.getfield 97, 3) := by decide +kernel
theorem dX11_goesOn_100 : decode cX11_goesOn 100 = .ok (.putfield 103, 3) := by decide +kernel
theorem dX11_goesOn_103 : decode cX11_goesOn 103 = .ok (.aload_n 0, 1) := by decide +kernel
theorem dX11_goesOn_104 : decode cX11_goesOn 104 = .ok (.lload 5, 2) := by decide +kernel
theorem dX11_goesOn_106 : decode cX11_goesOn 106 = .ok (.putfield 93, 3) := by decide +kernel
theorem dX11_goesOn_109 : decode cX11_goesOn 109 = .ok (.aload_n 0, 1) := by decide +kernel
theorem dX11_goesOn_110 : decode cX11_goesOn 110 = .ok (.lload 7, 2) := by decide +kernel
theorem dX11_goesOn_112 : decode cX11_goesOn 112 = .ok (.putfield 97, 3) := by decide +kernel
theorem dX11_goesOn_115 : decode cX11_goesOn 115 = .ok (.iconst 1, 1) := by decide +kernel
theorem dX11_goesOn_116 : decode cX11_goesOn 116 = .ok (.ireturn, 1) := by decide +kernel
theorem dX11_goesTo_0 : decode cX11_goesTo 0 = .ok (.aload_n 0, 1) := by decide +kernel
theorem dX11_goesTo_1 : decode cX11_goesTo 1 = .ok (.invokevirtual 69, 3) := by decide +kernel
theorem dX11_goesTo_4 : decode cX11_goesTo 4 = .ok (.aload_n 0, 1) := by decide +kernel
theorem dX11_goesTo_5 : decode cX11_goesTo 5 = .ok (.invokevirtual 113, 3) := by decide +kernel
theorem dX11_goesTo_8 : decode cX11_goesTo 8 = .ok (.iconst 1, 1) := by decide +kernel
theorem dX11_goesTo_9 : decode cX11_goesTo 9 = .ok (.istore_n 2, 1) := by decide +kernel
theorem dX11_goesTo_10 : decode cX11_goesTo 10 = .ok (.iconst 0, 1) := by decide +kernel
theorem dX11_goesTo_11 : decode cX11_goesTo 11 = .ok (.istore_n 3, 1) := by decide +kernel
theorem dX11_goesTo_12 : decode cX11_goesTo 12 = .ok (.iload_n 3, 1) := by decide +kernel
theorem dX11_goesTo_13 : decode cX11_goesTo 13 = .ok (.iload_n 1, 1) := by decide +kernel
theorem dX11_goesTo_14 : decode cX11_goesTo 14 = .ok (.if_icmp .gt 25, 3) := by decide +kernel
theorem dX11_goesTo_17 : decode cX11_goesTo 17 = .ok (.iload_n 2, 1) := by decide +kernel
theorem dX11_goesTo_18 : decode cX11_goesTo 18 = .ok (.ifCond .eq 21, 3) := by decide +kernel
theorem dX11_goesTo_21 : decode cX11_goesTo 21 = .ok (.aload_n 0, 1) := by decide +kernel
theorem dX11_goesTo_22 : decode cX11_goesTo 22 = .ok (.aload_n 0, 1) := by decide +kernel
theorem dX11_goesTo_23 : decode cX11_goesTo 23 = .ok (.getfield 19, 3) := by decide +kernel
theorem dX11_goesTo_26 : decode cX11_goesTo 26 = .ok (.iload_n 3, 1) := by decide +kernel
theorem dX11_goesTo_27 : decode cX11_goesTo 27 = .ok (.iaload, 1) := by decide +kernel
theorem dX11_goesTo_28 : decode cX11_goesTo 28 = .ok (.i2l, 1) := by decide +kernel
theorem dX11_goesTo_29 : decode cX11_goesTo 29 = .ok (.invokevirtual 116, 3) := by decide +kernel
theorem dX11_goesTo_32 : decode cX11_goesTo 32 = .ok (.istore_n 2, 1) := by decide +kernel
theorem dX11_goesTo_33 : decode cX11_goesTo 33 = .ok (.iinc 3 1, 3) := by decide +kernel
theorem dX11_goesTo_36 : decode cX11_goesTo 36 = .ok (.goto (-24), 3) := by decide +kernel
theorem dX11_goesTo_39 : decode cX11_goesTo 39 = .ok (.iload_n 2, 1) := by decide +kernel
theorem dX11_goesTo_40 : decode cX11_goesTo 40 = .ok (.ireturn, 1) := by decide +kernel
theorem dX11_convergent_0 : decode cX11_convergent 0 = .ok (.iload_n 1, 1) := by decide +kernel
theorem dX11_convergent_1 : decode cX11_convergent 1 = .ok (.i2l, 1) := by decide +kernel
theorem dX11_convergent_2 : decode cX11_convergent 2 = .ok (.lconst 0, 1) := by decide +kernel
theorem dX11_convergent_3 : decode cX11_convergent 3 = .ok (.ldc2_w 67, 3) := by decide +kernel
theorem dX11_convergent_6 : decode cX11_convergent 6 = .ok (.invokestatic 44, 3) := by decide +kernel
theorem dX11_convergent_9 : decode cX11_convergent 9 = .ok (.ifCond .eq 13, 3) := by decide +kernel
theorem dX11_convergent_12 : decode cX11_convergent 12 = .ok (.iload_n 2, 1) := by decide +kernel
theorem dX11_convergent_13 : decode cX11_convergent 13 = .ok (.i2l, 1) := by decide +kernel
theorem dX11_convergent_14 : decode cX11_convergent 14 = .ok (.lconst 0, 1) := by decide +kernel
theorem dX11_convergent_15 : decode cX11_convergent 15 = .ok (.lconst 1, 1) := by decide +kernel
theorem dX11_convergent_16 : decode cX11_convergent 16 = .ok (.invokestatic 44, 3) := by decide +kernel
theorem dX11_convergent_19 : decode cX11_convergent 19 = .ok (.ifCond .ne 7, 3) := by decide +kernel
theorem dX11_convergent_22 : decode cX11_convergent 22 = .ok (.ldc2_w 120, 3) := by decide +kernel
theorem dX11_convergent_25 : decode cX11_convergent 25 = .ok (.lreturn, 1) := by decide +kernel
theorem dX11_convergent_26 : decode cX11_convergent 26 = .ok (.aload_n 0, 1) := by decide +kernel
theorem dX11_convergent_27 : decode cX11_convergent 27 = .ok (.iload_n 1, 1) := by decide +kernel
theorem dX11_convergent_28 : decode cX11_convergent 28 = .ok (.invokevirtual 122, 3) := by decide +kernel
theorem dX11_convergent_31 : decode cX11_convergent 31 = .ok (.ifCond .ne 9, 3) := by decide +kernel
theorem dX11_convergent_34 : decode cX11_convergent 34 = .ok (.ldc2_w 125, 3) := by decide +kernel
theorem dX11_convergent_37 : decode cX11_convergent 37 = .ok (.goto 22, 3) := by decide +kernel
theorem dX11_convergent_40 : decode cX11_convergent 40 = .ok (.iload_n 2, 1) := by decide +kernel
theorem dX11_convergent_41 : decode cX11_convergent 41 = .ok (.ifCond .ne 14, 3) := by decide +kernel
theorem dX11_convergent_44 : decode cX11_convergent 44 = .ok (.aload_n 0, 1) := by decide +kernel
theorem dX11_convergent_45 : decode cX11_convergent 45 = .ok (.getfield 93, 3) := by decide +kernel
theorem dX11_convergent_48 : decode cX11_convergent 48 = .ok (.ldc2_w 111, 3) := by decide +kernel
theorem dX11_convergent_51 : decode cX11_convergent 51 = .ok (.ladd, 1) := by decide +kernel
theorem dX11_convergent_52 : decode cX11_convergent 52 = .ok (.goto 7, 3) := by decide +kernel
theorem dX11_convergent_55 : decode cX11_convergent 55 = .ok (.aload_n 0, 1) := by decide +kernel
theorem dX11_convergent_56 : decode cX11_convergent 56 = .ok (.getfield 97, 3) := by decide +kernel
theorem dX11_convergent_59 : decode cX11_convergent 59 = .ok (.lreturn, 1) := by decide +kernel
theorem dX11_between_0 : decode cX11_between 0 = .ok (.iload_n 1, 1) := by decide +kernel
theorem dX11_between_1 : decode cX11_between 1 = .ok (.i2l, 1) := by decide +kernel
theorem dX11_between_2 : decode cX11_between 2 = .ok (.ldc2_w 38, 3) := by decide +kernel
theorem dX11_between_5 : decode cX11_between 5 = .ok (.ldc2_w 67, 3) := by decide +kernel
theorem dX11_between_8 : decode cX11_between 8 = .ok (.invokestatic 44, 3) := by decide +kernel
theorem dX11_between_11 : decode cX11_between 11 = .ok (.ifCond .eq 18, 3) := by decide +kernel
theorem dX11_between_14 : decode cX11_between 14 = .ok (.iload_n 2, 1) := by decide +kernel
theorem dX11_between_15 : decode cX11_between 15 = .ok (.iconst 1, 1) := by decide +kernel
theorem dX11_between_16 : decode cX11_between 16 = .ok (.if_icmp .lt 13, 3) := by decide +kernel
theorem dX11_between_19 : decode cX11_between 19 = .ok (.iload_n 3, 1) := by decide +kernel
theorem dX11_between_20 : decode cX11_between 20 = .ok (.i2l, 1) := by decide +kernel
theorem dX11_between_21 : decode cX11_between 21 = .ok (.lconst 0, 1) := by decide +kernel
theorem dX11_between_22 : decode cX11_between 22 = .ok (.lconst 1, 1) := by decide +kernel
theorem dX11_between_23 : decode cX11_between 23 = .ok (.invokestatic 44, 3) := by decide +kernel
theorem dX11_between_26 : decode cX11_between 26 = .ok (.ifCond .ne 7, 3) := by decide +kernel
theorem dX11_between_29 : decode cX11_between 29 = .ok (.ldc2_w 120, 3) := by decide +kernel
theorem dX11_between_32 : decode cX11_between 32 = .ok (.lreturn, 1) := by decide +kernel
theorem dX11_between_33 : decode cX11_between 33 = .ok (.aload_n 0, 1) := by decide +kernel
theorem dX11_between_34 : decode cX11_between 34 = .ok (.invokevirtual 69, 3) := by decide +kernel
theorem dX11_between_37 : decode cX11_between 37 = .ok (.iload_n 2, 1) := by decide +kernel
theorem dX11_between_38 : decode cX11_between 38 = .ok (.aload_n 0, 1) := by decide +kernel
theorem dX11_between_39 : decode cX11_between 39 = .ok (.getfield 19, 3) := by decide +kernel
theorem dX11_between_42 : decode cX11_between 42 = .ok (.iload_n 1, 1) := by decide +kernel
theorem dX11_between_43 : decode cX11_between 43 = .ok (.iaload, 1) := by decide +kernel
theorem dX11_between_44 : decode cX11_between 44 = .ok (.if_icmp .lt 7, 3) := by decide +kernel
theorem dX11_between_47 : decode cX11_between 47 = .ok (.ldc2_w 120, 3) := by decide +kernel
theorem dX11_between_50 : decode cX11_between 50 = .ok (.lreturn, 1) := by decide +kernel
theorem dX11_between_51 : decode cX11_between 51 = .ok (.aload_n 0, 1) := by decide +kernel
theorem dX11_between_52 : decode cX11_between 52 = .ok (.iload_n 1, 1) := by decide +kernel
theorem dX11_between_53 : decode cX11_between 53 = .ok (.invokevirtual 122, 3) := by decide +kernel
theorem dX11_between_56 : decode cX11_between 56 = .ok (.ifCond .ne 7, 3) := by decide +kernel
theorem dX11_between_59 : decode cX11_between 59 = .ok (.ldc2_w 125, 3) := by decide +kernel
theorem dX11_between_62 : decode cX11_between 62 = .ok (.lreturn, 1) := by decide +kernel
theorem dX11_between_63 : decode cX11_between 63 = .ok (.aload_n 0, 1) := by decide +kernel
theorem dX11_between_64 : decode cX11_between 64 = .ok (.getfield 19, 3) := by decide +kernel
theorem dX11_between_67 : decode cX11_between 67 = .ok (.iload_n 1, 1) := by decide +kernel
theorem dX11_between_68 : decode cX11_between 68 = .ok (.iaload, 1) := by decide +kernel
theorem dX11_between_69 : decode cX11_between 69 = .ok (.iload_n 2, 1) := by decide +kernel
theorem dX11_between_70 : decode cX11_between 70 = .ok (.isub, 1) := by decide +kernel
theorem dX11_between_71 : decode cX11_between 71 = .ok (.i2l, 1) := by decide +kernel
theorem dX11_between_72 : decode cX11_between 72 = .ok (.lstore 4, 2) := by decide +kernel
theorem dX11_between_74 : decode cX11_between 74 = .ok (.iload_n 3, 1) := by decide +kernel
theorem dX11_between_75 : decode cX11_between 75 = .ok (.ifCond .ne 22, 3) := by decide +kernel
theorem dX11_between_78 : decode cX11_between 78 = .ok (.aload_n 0, 1) := by decide +kernel
theorem dX11_between_79 : decode cX11_between 79 = .ok (.getfield 93, 3) := by decide +kernel
theorem dX11_between_82 : decode cX11_between 82 = .ok (.lload 4, 2) := by decide +kernel
theorem dX11_between_84 : decode cX11_between 84 = .ok (.aload_n 0, 1) := by decide +kernel
theorem dX11_between_85 : decode cX11_between 85 = .ok (.getfield 100, 3) := by decide +kernel
theorem dX11_between_88 : decode cX11_between 88 = .ok (.lmul, 1) := by decide +kernel
theorem dX11_between_89 : decode cX11_between 89 = .ok (.lsub, 1) := by decide +kernel
theorem dX11_between_90 : decode cX11_between 90 = .ok (.ldc2_w 111, 3) := by decide +kernel
theorem dX11_between_93 : decode cX11_between 93 = .ok (.ladd, 1) := by decide +kernel
theorem dX11_between_94 : decode cX11_between 94 = .ok (.goto 15, 3) := by decide +kernel
theorem dX11_between_97 : decode cX11_between 97 = .ok (.aload_n 0, 1) := by decide +kernel
theorem dX11_between_98 : decode cX11_between 98 = .ok (.getfield 97, 3) := by decide +kernel
theorem dX11_between_101 : decode cX11_between 101 = .ok (.lload 4, 2) := by decide +kernel
theorem dX11_between_103 : decode cX11_between 103 = .ok (.aload_n 0, 1) := by decide +kernel
theorem dX11_between_104 : decode cX11_between 104 = .ok (.getfield 103, 3) := by decide +kernel
theorem dX11_between_107 : decode cX11_between 107 = .ok (.lmul, 1) := by decide +kernel
theorem dX11_between_108 : decode cX11_between 108 = .ok (.lsub, 1) := by decide +kernel
theorem dX11_between_109 : decode cX11_between 109 = .ok (.lreturn, 1) := by decide +kernel
theorem dX11_isAbove_0 : decode cX11_isAbove 0 = .ok (.lload_n 1, 1) := by decide +kernel
theorem dX11_isAbove_1 : decode cX11_isAbove 1 = .ok (.aload_n 0, 1) := by decide +kernel
theorem dX11_isAbove_2 : decode cX11_isAbove 2 = .ok (.getfield 7, 3) := by decide +kernel
theorem dX11_isAbove_5 : decode cX11_isAbove 5 = .ok (.iconst 2, 1) := by decide +kernel
theorem dX11_isAbove_6 : decode cX11_isAbove 6 = .ok (.iaload, 1) := by decide +kernel
theorem dX11_isAbove_7 : decode cX11_isAbove 7 = .ok (.i2l, 1) := by decide +kernel
theorem dX11_isAbove_8 : decode cX11_isAbove 8 = .ok (.lmul, 1) := by decide +kernel
theorem dX11_isAbove_9 : decode cX11_isAbove 9 = .ok (.aload_n 0, 1) := by decide +kernel
theorem dX11_isAbove_10 : decode cX11_isAbove 10 = .ok (.getfield 7, 3) := by decide +kernel
theorem dX11_isAbove_13 : decode cX11_isAbove 13 = .ok (.iconst 0, 1) := by decide +kernel
theorem dX11_isAbove_14 : decode cX11_isAbove 14 = .ok (.iaload, 1) := by decide +kernel
theorem dX11_isAbove_15 : decode cX11_isAbove 15 = .ok (.i2l, 1) := by decide +kernel
theorem dX11_isAbove_16 : decode cX11_isAbove 16 = .ok (.lload_n 3, 1) := by decide +kernel
theorem dX11_isAbove_17 : decode cX11_isAbove 17 = .ok (.lmul, 1) := by decide +kernel
theorem dX11_isAbove_18 : decode cX11_isAbove 18 = .ok (.lsub, 1) := by decide +kernel
theorem dX11_isAbove_19 : decode cX11_isAbove 19 = .ok (.lstore 5, 2) := by decide +kernel
theorem dX11_isAbove_21 : decode cX11_isAbove 21 = .ok (.lload 5, 2) := by decide +kernel
theorem dX11_isAbove_23 : decode cX11_isAbove 23 = .ok (.lconst 0, 1) := by decide +kernel
theorem dX11_isAbove_24 : decode cX11_isAbove 24 = .ok (.lcmp, 1) := by decide +kernel
theorem dX11_isAbove_25 : decode cX11_isAbove 25 = .ok (.ifCond .lt 23, 3) := by decide +kernel
theorem dX11_isAbove_28 : decode cX11_isAbove 28 = .ok (.lload_n 3, 1) := by decide +kernel
theorem dX11_isAbove_29 : decode cX11_isAbove 29 = .ok (.lload_n 3, 1) := by decide +kernel
theorem dX11_isAbove_30 : decode cX11_isAbove 30 = .ok (.lmul, 1) := by decide +kernel
theorem dX11_isAbove_31 : decode cX11_isAbove 31 = .ok (.aload_n 0, 1) := by decide +kernel
theorem dX11_isAbove_32 : decode cX11_isAbove 32 = .ok (.getfield 7, 3) := by decide +kernel
theorem dX11_isAbove_35 : decode cX11_isAbove 35 = .ok (.iconst 1, 1) := by decide +kernel
theorem dX11_isAbove_36 : decode cX11_isAbove 36 = .ok (.iaload, 1) := by decide +kernel
theorem dX11_isAbove_37 : decode cX11_isAbove 37 = .ok (.i2l, 1) := by decide +kernel
theorem dX11_isAbove_38 : decode cX11_isAbove 38 = .ok (.lmul, 1) := by decide +kernel
theorem dX11_isAbove_39 : decode cX11_isAbove 39 = .ok (.lload 5, 2) := by decide +kernel
theorem dX11_isAbove_41 : decode cX11_isAbove 41 = .ok (.lload 5, 2) := by decide +kernel
theorem dX11_isAbove_43 : decode cX11_isAbove 43 = .ok (.lmul, 1) := by decide +kernel
theorem dX11_isAbove_44 : decode cX11_isAbove 44 = .ok (.lcmp, 1) := by decide +kernel
theorem dX11_isAbove_45 : decode cX11_isAbove 45 = .ok (.ifCond .le 7, 3) := by decide +kernel
theorem dX11_isAbove_48 : decode cX11_isAbove 48 = .ok (.iconst 1, 1) := by decide +kernel
theorem dX11_isAbove_49 : decode cX11_isAbove 49 = .ok (.goto 4, 3) := by decide +kernel
theorem dX11_isAbove_52 : decode cX11_isAbove 52 = .ok (.iconst 0, 1) := by decide +kernel
theorem dX11_isAbove_53 : decode cX11_isAbove 53 = .ok (.istore 7, 2) := by decide +kernel
theorem dX11_isAbove_55 : decode cX11_isAbove 55 = .ok (.aload_n 0, 1) := by decide +kernel
theorem dX11_isAbove_56 : decode cX11_isAbove 56 = .ok (.getfield 7, 3) := by decide +kernel
theorem dX11_isAbove_59 : decode cX11_isAbove 59 = .ok (.iconst 2, 1) := by decide +kernel
theorem dX11_isAbove_60 : decode cX11_isAbove 60 = .ok (.iaload, 1) := by decide +kernel
theorem dX11_isAbove_61 : decode cX11_isAbove 61 = .ok (.ifCond .le 8, 3) := by decide +kernel
theorem dX11_isAbove_64 : decode cX11_isAbove 64 = .ok (.iload 7, 2) := by decide +kernel
theorem dX11_isAbove_66 : decode cX11_isAbove 66 = .ok (.goto 13, 3) := by decide +kernel
theorem dX11_isAbove_69 : decode cX11_isAbove 69 = .ok (.iload 7, 2) := by decide +kernel
theorem dX11_isAbove_71 : decode cX11_isAbove 71 = .ok (.ifCond .ne 7, 3) := by decide +kernel
theorem dX11_isAbove_74 : decode cX11_isAbove 74 = .ok (.iconst 1, 1) := by decide +kernel
theorem dX11_isAbove_75 : decode cX11_isAbove 75 = .ok (.goto 4, 3) := by decide +kernel
theorem dX11_isAbove_78 : decode cX11_isAbove 78 = .ok (.iconst 0, 1) := by decide +kernel
theorem dX11_isAbove_79 : decode cX11_isAbove 79 = .ok (.ireturn, 1) := by decide +kernel
theorem dX11_isNearer_0 : decode cX11_isNearer 0 = .ok (.aload_n 0, 1) := by decide +kernel
theorem dX11_isNearer_1 : decode cX11_isNearer 1 = .ok (.lload_n 1, 1) := by decide +kernel
theorem dX11_isNearer_2 : decode cX11_isNearer 2 = .ok (.lload_n 3, 1) := by decide +kernel
theorem dX11_isNearer_3 : decode cX11_isNearer 3 = .ok (.invokevirtual 127, 3) := by decide +kernel
theorem dX11_isNearer_6 : decode cX11_isNearer 6 = .ok (.istore 9, 2) := by decide +kernel
theorem dX11_isNearer_8 : decode cX11_isNearer 8 = .ok (.aload_n 0, 1) := by decide +kernel
theorem dX11_isNearer_9 : decode cX11_isNearer 9 = .ok (.lload 5, 2) := by decide +kernel
theorem dX11_isNearer_11 : decode cX11_isNearer 11 = .ok (.lload 7, 2) := by decide +kernel
theorem dX11_isNearer_13 : decode cX11_isNearer 13 = .ok (.invokevirtual 127, 3) := by decide +kernel
theorem dX11_isNearer_16 : decode cX11_isNearer 16 = .ok (.istore 10, 2) := by decide +kernel
theorem dX11_isNearer_18 : decode cX11_isNearer 18 = .ok (.iload 9, 2) := by decide +kernel
theorem dX11_isNearer_20 : decode cX11_isNearer 20 = .ok (.iload 10, 2) := by decide +kernel
theorem dX11_isNearer_22 : decode cX11_isNearer 22 = .ok (.if_icmp .ne 46, 3) := by decide +kernel
theorem dX11_isNearer_25 : decode cX11_isNearer 25 = .ok (.iload 9, 2) := by decide +kernel
theorem dX11_isNearer_27 : decode cX11_isNearer 27 = .ok (.ifCond .eq 23, 3) := by decide +kernel
theorem dX11_isNearer_30 : decode cX11_isNearer 30 = .ok (.lload_n 1, 1) := by decide +kernel
theorem dX11_isNearer_31 : decode cX11_isNearer 31 = .ok (.lload 7, 2) := by decide +kernel
theorem dX11_isNearer_33 : decode cX11_isNearer 33 = .ok (.lmul, 1) := by decide +kernel
theorem dX11_isNearer_34 : decode cX11_isNearer 34 = .ok (.lload 5, 2) := by decide +kernel
theorem dX11_isNearer_36 : decode cX11_isNearer 36 = .ok (.lload_n 3, 1) := by decide +kernel
theorem dX11_isNearer_37 : decode cX11_isNearer 37 = .ok (.lmul, 1) := by decide +kernel
theorem dX11_isNearer_38 : decode cX11_isNearer 38 = .ok (.lcmp, 1) := by decide +kernel
theorem dX11_isNearer_39 : decode cX11_isNearer 39 = .ok (.ifCond .le 7, 3) := by decide +kernel
theorem dX11_isNearer_42 : decode cX11_isNearer 42 = .ok (.iconst 1, 1) := by decide +kernel
theorem dX11_isNearer_43 : decode cX11_isNearer 43 = .ok (.goto 24, 3) := by decide +kernel
theorem dX11_isNearer_46 : decode cX11_isNearer 46 = .ok (.iconst 0, 1) := by decide +kernel
theorem dX11_isNearer_47 : decode cX11_isNearer 47 = .ok (.goto 20, 3) := by decide +kernel
theorem dX11_isNearer_50 : decode cX11_isNearer 50 = .ok (.lload_n 1, 1) := by decide +kernel
theorem dX11_isNearer_51 : decode cX11_isNearer 51 = .ok (.lload 7, 2) := by decide +kernel
theorem dX11_isNearer_53 : decode cX11_isNearer 53 = .ok (.lmul, 1) := by decide +kernel
theorem dX11_isNearer_54 : decode cX11_isNearer 54 = .ok (.lload 5, 2) := by decide +kernel
theorem dX11_isNearer_56 : decode cX11_isNearer 56 = .ok (.lload_n 3, 1) := by decide +kernel
theorem dX11_isNearer_57 : decode cX11_isNearer 57 = .ok (.lmul, 1) := by decide +kernel
theorem dX11_isNearer_58 : decode cX11_isNearer 58 = .ok (.lcmp, 1) := by decide +kernel
theorem dX11_isNearer_59 : decode cX11_isNearer 59 = .ok (.ifCond .ge 7, 3) := by decide +kernel
theorem dX11_isNearer_62 : decode cX11_isNearer 62 = .ok (.iconst 1, 1) := by decide +kernel
theorem dX11_isNearer_63 : decode cX11_isNearer 63 = .ok (.goto 4, 3) := by decide +kernel
theorem dX11_isNearer_66 : decode cX11_isNearer 66 = .ok (.iconst 0, 1) := by decide +kernel
theorem dX11_isNearer_67 : decode cX11_isNearer 67 = .ok (.ireturn, 1) := by decide +kernel
theorem dX11_isNearer_68 : decode cX11_isNearer 68 = .ok (.aload_n 0, 1) := by decide +kernel
theorem dX11_isNearer_69 : decode cX11_isNearer 69 = .ok (.lload_n 1, 1) := by decide +kernel
theorem dX11_isNearer_70 : decode cX11_isNearer 70 = .ok (.lload 7, 2) := by decide +kernel
theorem dX11_isNearer_72 : decode cX11_isNearer 72 = .ok (.lmul, 1) := by decide +kernel
theorem dX11_isNearer_73 : decode cX11_isNearer 73 = .ok (.lload 5, 2) := by decide +kernel
theorem dX11_isNearer_75 : decode cX11_isNearer 75 = .ok (.lload_n 3, 1) := by decide +kernel
theorem dX11_isNearer_76 : decode cX11_isNearer 76 = .ok (.lmul, 1) := by decide +kernel
theorem dX11_isNearer_77 : decode cX11_isNearer 77 = .ok (.ladd, 1) := by decide +kernel
theorem dX11_isNearer_78 : decode cX11_isNearer 78 = .ok (.ldc2_w 38, 3) := by decide +kernel
theorem dX11_isNearer_81 : decode cX11_isNearer 81 = .ok (.lload_n 3, 1) := by decide +kernel
theorem dX11_isNearer_82 : decode cX11_isNearer 82 = .ok (.lmul, 1) := by decide +kernel
theorem dX11_isNearer_83 : decode cX11_isNearer 83 = .ok (.lload 7, 2) := by decide +kernel
theorem dX11_isNearer_85 : decode cX11_isNearer 85 = .ok (.lmul, 1) := by decide +kernel
theorem dX11_isNearer_86 : decode cX11_isNearer 86 = .ok (.invokevirtual 127, 3) := by decide +kernel
theorem dX11_isNearer_89 : decode cX11_isNearer 89 = .ok (.istore 11, 2) := by decide +kernel
theorem dX11_isNearer_91 : decode cX11_isNearer 91 = .ok (.iload 9, 2) := by decide +kernel
theorem dX11_isNearer_93 : decode cX11_isNearer 93 = .ok (.ifCond .eq 16, 3) := by decide +kernel
theorem dX11_isNearer_96 : decode cX11_isNearer 96 = .ok (.iload 11, 2) := by decide +kernel
theorem dX11_isNearer_98 : decode cX11_isNearer 98 = .ok (.ifCond .ne 7, 3) := by decide +kernel
theorem dX11_isNearer_101 : decode cX11_isNearer 101 = .ok (.iconst 1, 1) := by decide +kernel
theorem dX11_isNearer_102 : decode cX11_isNearer 102 = .ok (.goto 9, 3) := by decide +kernel
theorem dX11_isNearer_105 : decode cX11_isNearer 105 = .ok (.iconst 0, 1) := by decide +kernel
theorem dX11_isNearer_106 : decode cX11_isNearer 106 = .ok (.goto 5, 3) := by decide +kernel
theorem dX11_isNearer_109 : decode cX11_isNearer 109 = .ok (.iload 11, 2) := by decide +kernel
theorem dX11_isNearer_111 : decode cX11_isNearer 111 = .ok (.ireturn, 1) := by decide +kernel
theorem dX11_floorOf_0 : decode cX11_floorOf 0 = .ok (.iload_n 1, 1) := by decide +kernel
theorem dX11_floorOf_1 : decode cX11_floorOf 1 = .ok (.i2l, 1) := by decide +kernel
theorem dX11_floorOf_2 : decode cX11_floorOf 2 = .ok (.iload_n 1, 1) := by decide +kernel
theorem dX11_floorOf_3 : decode cX11_floorOf 3 = .ok (.i2l, 1) := by decide +kernel
theorem dX11_floorOf_4 : decode cX11_floorOf 4 = .ok (.lmul, 1) := by decide +kernel
theorem dX11_floorOf_5 : decode cX11_floorOf 5 = .ok (.aload_n 0, 1) := by decide +kernel
theorem dX11_floorOf_6 : decode cX11_floorOf 6 = .ok (.getfield 7, 3) := by decide +kernel
theorem dX11_floorOf_9 : decode cX11_floorOf 9 = .ok (.iconst 1, 1) := by decide +kernel
theorem dX11_floorOf_10 : decode cX11_floorOf 10 = .ok (.iaload, 1) := by decide +kernel
theorem dX11_floorOf_11 : decode cX11_floorOf 11 = .ok (.i2l, 1) := by decide +kernel
theorem dX11_floorOf_12 : decode cX11_floorOf 12 = .ok (.lmul, 1) := by decide +kernel
theorem dX11_floorOf_13 : decode cX11_floorOf 13 = .ok (.invokestatic 51, 3) := by decide +kernel
theorem dX11_floorOf_16 : decode cX11_floorOf 16 = .ok (.iload_n 1, 1) := by decide +kernel
theorem dX11_floorOf_17 : decode cX11_floorOf 17 = .ok (.i2l, 1) := by decide +kernel
theorem dX11_floorOf_18 : decode cX11_floorOf 18 = .ok (.aload_n 0, 1) := by decide +kernel
theorem dX11_floorOf_19 : decode cX11_floorOf 19 = .ok (.getfield 7, 3) := by decide +kernel
theorem dX11_floorOf_22 : decode cX11_floorOf 22 = .ok (.iconst 0, 1) := by decide +kernel
theorem dX11_floorOf_23 : decode cX11_floorOf 23 = .ok (.iaload, 1) := by decide +kernel
theorem dX11_floorOf_24 : decode cX11_floorOf 24 = .ok (.i2l, 1) := by decide +kernel
theorem dX11_floorOf_25 : decode cX11_floorOf 25 = .ok (.lmul, 1) := by decide +kernel
theorem dX11_floorOf_26 : decode cX11_floorOf 26 = .ok (.ladd, 1) := by decide +kernel
theorem dX11_floorOf_27 : decode cX11_floorOf 27 = .ok (.lstore_n 2, 1) := by decide +kernel
theorem dX11_floorOf_28 : decode cX11_floorOf 28 = .ok (.aload_n 0, 1) := by decide +kernel
theorem dX11_floorOf_29 : decode cX11_floorOf 29 = .ok (.getfield 7, 3) := by decide +kernel
theorem dX11_floorOf_32 : decode cX11_floorOf 32 = .ok (.iconst 2, 1) := by decide +kernel
theorem dX11_floorOf_33 : decode cX11_floorOf 33 = .ok (.iaload, 1) := by decide +kernel
theorem dX11_floorOf_34 : decode cX11_floorOf 34 = .ok (.ifCond .le 17, 3) := by decide +kernel
theorem dX11_floorOf_37 : decode cX11_floorOf 37 = .ok (.lload_n 2, 1) := by decide +kernel
theorem dX11_floorOf_38 : decode cX11_floorOf 38 = .ok (.aload_n 0, 1) := by decide +kernel
theorem dX11_floorOf_39 : decode cX11_floorOf 39 = .ok (.getfield 7, 3) := by decide +kernel
theorem dX11_floorOf_42 : decode cX11_floorOf 42 = .ok (.iconst 2, 1) := by decide +kernel
theorem dX11_floorOf_43 : decode cX11_floorOf 43 = .ok (.iaload, 1) := by decide +kernel
theorem dX11_floorOf_44 : decode cX11_floorOf 44 = .ok (.i2l, 1) := by decide +kernel
theorem dX11_floorOf_45 : decode cX11_floorOf 45 = .ok (.invokestatic 59, 3) := by decide +kernel
theorem dX11_floorOf_48 : decode cX11_floorOf 48 = .ok (.goto 18, 3) := by decide +kernel
theorem dX11_floorOf_51 : decode cX11_floorOf 51 = .ok (.lload_n 2, 1) := by decide +kernel
theorem dX11_floorOf_52 : decode cX11_floorOf 52 = .ok (.aload_n 0, 1) := by decide +kernel
theorem dX11_floorOf_53 : decode cX11_floorOf 53 = .ok (.getfield 7, 3) := by decide +kernel
theorem dX11_floorOf_56 : decode cX11_floorOf 56 = .ok (.iconst 2, 1) := by decide +kernel
theorem dX11_floorOf_57 : decode cX11_floorOf 57 = .ok (.iaload, 1) := by decide +kernel
theorem dX11_floorOf_58 : decode cX11_floorOf 58 = .ok (.ineg, 1) := by decide +kernel
theorem dX11_floorOf_59 : decode cX11_floorOf 59 = .ok (.i2l, 1) := by decide +kernel
theorem dX11_floorOf_60 : decode cX11_floorOf 60 = .ok (.invokestatic 59, 3) := by decide +kernel
theorem dX11_floorOf_63 : decode cX11_floorOf 63 = .ok (.lneg, 1) := by decide +kernel
theorem dX11_floorOf_64 : decode cX11_floorOf 64 = .ok (.lconst 1, 1) := by decide +kernel
theorem dX11_floorOf_65 : decode cX11_floorOf 65 = .ok (.lsub, 1) := by decide +kernel
theorem dX11_floorOf_66 : decode cX11_floorOf 66 = .ok (.lreturn, 1) := by decide +kernel
theorem dX11_seeks_0 : decode cX11_seeks 0 = .ok (.iconst 0, 1) := by decide +kernel
theorem dX11_seeks_1 : decode cX11_seeks 1 = .ok (.istore_n 2, 1) := by decide +kernel
theorem dX11_seeks_2 : decode cX11_seeks 2 = .ok (.iconst 1, 1) := by decide +kernel
theorem dX11_seeks_3 : decode cX11_seeks 3 = .ok (.istore_n 3, 1) := by decide +kernel
theorem dX11_seeks_4 : decode cX11_seeks 4 = .ok (.iload_n 3, 1) := by decide +kernel
theorem dX11_seeks_5 : decode cX11_seeks 5 = .ok (.iload_n 1, 1) := by decide +kernel
theorem dX11_seeks_6 : decode cX11_seeks 6 = .ok (.if_icmp .gt 83, 3) := by decide +kernel
theorem dX11_seeks_9 : decode cX11_seeks 9 = .ok (.aload_n 0, 1) := by decide +kernel
theorem dX11_seeks_10 : decode cX11_seeks 10 = .ok (.iload_n 3, 1) := by decide +kernel
theorem dX11_seeks_11 : decode cX11_seeks 11 = .ok (.invokevirtual 131, 3) := by decide +kernel
theorem dX11_seeks_14 : decode cX11_seeks 14 = .ok (.lstore 4, 2) := by decide +kernel
theorem dX11_seeks_16 : decode cX11_seeks 16 = .ok (.aload_n 0, 1) := by decide +kernel
theorem dX11_seeks_17 : decode cX11_seeks 17 = .ok (.lload 4, 2) := by decide +kernel
theorem dX11_seeks_19 : decode cX11_seeks 19 = .ok (.lconst 1, 1) := by decide +kernel
theorem dX11_seeks_20 : decode cX11_seeks 20 = .ok (.ladd, 1) := by decide +kernel
theorem dX11_seeks_21 : decode cX11_seeks 21 = .ok (.iload_n 3, 1) := by decide +kernel
theorem dX11_seeks_22 : decode cX11_seeks 22 = .ok (.i2l, 1) := by decide +kernel
theorem dX11_seeks_23 : decode cX11_seeks 23 = .ok (.lload 4, 2) := by decide +kernel
theorem dX11_seeks_25 : decode cX11_seeks 25 = .ok (.iload_n 3, 1) := by decide +kernel
theorem dX11_seeks_26 : decode cX11_seeks 26 = .ok (.i2l, 1) := by decide +kernel
theorem dX11_seeks_27 : decode cX11_seeks 27 = .ok (.invokevirtual 135, 3) := by decide +kernel
theorem dX11_seeks_30 : decode cX11_seeks 30 = .ok (.ifCond .eq 10, 3) := by decide +kernel
theorem dX11_seeks_33 : decode cX11_seeks 33 = .ok (.lload 4, 2) := by decide +kernel
theorem dX11_seeks_35 : decode cX11_seeks 35 = .ok (.lconst 1, 1) := by decide +kernel
theorem dX11_seeks_36 : decode cX11_seeks 36 = .ok (.ladd, 1) := by decide +kernel
theorem dX11_seeks_37 : decode cX11_seeks 37 = .ok (.goto 5, 3) := by decide +kernel
theorem dX11_seeks_40 : decode cX11_seeks 40 = .ok (.lload 4, 2) := by decide +kernel
theorem dX11_seeks_42 : decode cX11_seeks 42 = .ok (.lstore 4, 2) := by decide +kernel
theorem dX11_seeks_44 : decode cX11_seeks 44 = .ok (.iload_n 3, 1) := by decide +kernel
theorem dX11_seeks_45 : decode cX11_seeks 45 = .ok (.iconst 1, 1) := by decide +kernel
theorem dX11_seeks_46 : decode cX11_seeks 46 = .ok (.if_icmp .eq 23, 3) := by decide +kernel
theorem dX11_seeks_49 : decode cX11_seeks 49 = .ok (.aload_n 0, 1) := by decide +kernel
theorem dX11_seeks_50 : decode cX11_seeks 50 = .ok (.lload 4, 2) := by decide +kernel
theorem dX11_seeks_52 : decode cX11_seeks 52 = .ok (.iload_n 3, 1) := by decide +kernel
theorem dX11_seeks_53 : decode cX11_seeks 53 = .ok (.i2l, 1) := by decide +kernel
theorem dX11_seeks_54 : decode cX11_seeks 54 = .ok (.aload_n 0, 1) := by decide +kernel
theorem dX11_seeks_55 : decode cX11_seeks 55 = .ok (.getfield 139, 3) := by decide +kernel
theorem dX11_seeks_58 : decode cX11_seeks 58 = .ok (.aload_n 0, 1) := by decide +kernel
theorem dX11_seeks_59 : decode cX11_seeks 59 = .ok (.getfield 142, 3) := by decide +kernel
theorem dX11_seeks_62 : decode cX11_seeks 62 = .ok (.i2l, 1) := by decide +kernel
theorem dX11_seeks_63 : decode cX11_seeks 63 = .ok (.invokevirtual 135, 3) := by decide +kernel
theorem dX11_seeks_66 : decode cX11_seeks 66 = .ok (.ifCond .eq 17, 3) := by decide +kernel
theorem dX11_seeks_69 : decode cX11_seeks 69 = .ok (.aload_n 0, 1) := by decide +kernel
theorem dX11_seeks_70 : decode cX11_seeks 70 = .ok (.lload 4, 2) := by decide +kernel
theorem dX11_seeks_72 : decode cX11_seeks 72 = .ok (.putfield 139, 3) := by decide +kernel
theorem dX11_seeks_75 : decode cX11_seeks 75 = .ok (.aload_n 0, 1) := by decide +kernel
theorem dX11_seeks_76 : decode cX11_seeks 76 = .ok (.iload_n 3, 1) := by decide +kernel
theorem dX11_seeks_77 : decode cX11_seeks 77 = .ok (.putfield 142, 3) := by decide +kernel
theorem dX11_seeks_80 : decode cX11_seeks 80 = .ok (.iinc 2 1, 3) := by decide +kernel
theorem dX11_seeks_83 : decode cX11_seeks 83 = .ok (.iinc 3 1, 3) := by decide +kernel
theorem dX11_seeks_86 : decode cX11_seeks 86 = .ok (.goto (-82), 3) := by decide +kernel
theorem dX11_seeks_89 : decode cX11_seeks 89 = .ok (.iload_n 2, 1) := by decide +kernel
theorem dX11_seeks_90 : decode cX11_seeks 90 = .ok (.ireturn, 1) := by decide +kernel
theorem dX11_best_0 : decode cX11_best 0 = .ok (.iload_n 1, 1) := by decide +kernel
theorem dX11_best_1 : decode cX11_best 1 = .ok (.ifCond .ne 14, 3) := by decide +kernel
theorem dX11_best_4 : decode cX11_best 4 = .ok (.aload_n 0, 1) := by decide +kernel
theorem dX11_best_5 : decode cX11_best 5 = .ok (.getfield 139, 3) := by decide +kernel
theorem dX11_best_8 : decode cX11_best 8 = .ok (.l2i, 1) := by decide +kernel
theorem dX11_best_9 : decode cX11_best 9 = .ok (.ldc 145, 2) := by decide +kernel
theorem dX11_best_11 : decode cX11_best 11 = .ok (.iadd, 1) := by decide +kernel
theorem dX11_best_12 : decode cX11_best 12 = .ok (.goto 7, 3) := by decide +kernel
theorem dX11_best_15 : decode cX11_best 15 = .ok (.aload_n 0, 1) := by decide +kernel
theorem dX11_best_16 : decode cX11_best 16 = .ok (.getfield 142, 3) := by decide +kernel
theorem dX11_best_19 : decode cX11_best 19 = .ok (.ireturn, 1) := by decide +kernel
theorem dX11_nearest_0 : decode cX11_nearest 0 = .ok (.iload_n 1, 1) := by decide +kernel
theorem dX11_nearest_1 : decode cX11_nearest 1 = .ok (.i2l, 1) := by decide +kernel
theorem dX11_nearest_2 : decode cX11_nearest 2 = .ok (.lconst 1, 1) := by decide +kernel
theorem dX11_nearest_3 : decode cX11_nearest 3 = .ok (.ldc2_w 146, 3) := by decide +kernel
theorem dX11_nearest_6 : decode cX11_nearest 6 = .ok (.invokestatic 44, 3) := by decide +kernel
theorem dX11_nearest_9 : decode cX11_nearest 9 = .ok (.ifCond .eq 13, 3) := by decide +kernel
theorem dX11_nearest_12 : decode cX11_nearest 12 = .ok (.iload_n 2, 1) := by decide +kernel
theorem dX11_nearest_13 : decode cX11_nearest 13 = .ok (.i2l, 1) := by decide +kernel
theorem dX11_nearest_14 : decode cX11_nearest 14 = .ok (.lconst 0, 1) := by decide +kernel
theorem dX11_nearest_15 : decode cX11_nearest 15 = .ok (.lconst 1, 1) := by decide +kernel
theorem dX11_nearest_16 : decode cX11_nearest 16 = .ok (.invokestatic 44, 3) := by decide +kernel
theorem dX11_nearest_19 : decode cX11_nearest 19 = .ok (.ifCond .ne 6, 3) := by decide +kernel
theorem dX11_nearest_22 : decode cX11_nearest 22 = .ok (.ldc 50, 2) := by decide +kernel
theorem dX11_nearest_24 : decode cX11_nearest 24 = .ok (.ireturn, 1) := by decide +kernel
theorem dX11_nearest_25 : decode cX11_nearest 25 = .ok (.aload_n 0, 1) := by decide +kernel
theorem dX11_nearest_26 : decode cX11_nearest 26 = .ok (.iload_n 1, 1) := by decide +kernel
theorem dX11_nearest_27 : decode cX11_nearest 27 = .ok (.invokevirtual 148, 3) := by decide +kernel
theorem dX11_nearest_30 : decode cX11_nearest 30 = .ok (.pop, 1) := by decide +kernel
theorem dX11_nearest_31 : decode cX11_nearest 31 = .ok (.aload_n 0, 1) := by decide +kernel
theorem dX11_nearest_32 : decode cX11_nearest 32 = .ok (.iload_n 2, 1) := by decide +kernel
theorem dX11_nearest_33 : decode cX11_nearest 33 = .ok (.invokevirtual 151, 3) := by decide +kernel
theorem dX11_nearest_36 : decode cX11_nearest 36 = .ok (.ireturn, 1) := by decide +kernel
theorem dX11_beside_0 : decode cX11_beside 0 = .ok (.iload_n 1, 1) := by decide +kernel
theorem dX11_beside_1 : decode cX11_beside 1 = .ok (.i2l, 1) := by decide +kernel
theorem dX11_beside_2 : decode cX11_beside 2 = .ok (.lconst 1, 1) := by decide +kernel
theorem dX11_beside_3 : decode cX11_beside 3 = .ok (.ldc2_w 146, 3) := by decide +kernel
theorem dX11_beside_6 : decode cX11_beside 6 = .ok (.invokestatic 44, 3) := by decide +kernel
theorem dX11_beside_9 : decode cX11_beside 9 = .ok (.ifCond .eq 23, 3) := by decide +kernel
theorem dX11_beside_12 : decode cX11_beside 12 = .ok (.iload_n 2, 1) := by decide +kernel
theorem dX11_beside_13 : decode cX11_beside 13 = .ok (.i2l, 1) := by decide +kernel
theorem dX11_beside_14 : decode cX11_beside 14 = .ok (.lconst 0, 1) := by decide +kernel
theorem dX11_beside_15 : decode cX11_beside 15 = .ok (.lconst 1, 1) := by decide +kernel
theorem dX11_beside_16 : decode cX11_beside 16 = .ok (.invokestatic 44, 3) := by decide +kernel
theorem dX11_beside_19 : decode cX11_beside 19 = .ok (.ifCond .eq 13, 3) := by decide +kernel
theorem dX11_beside_22 : decode cX11_beside 22 = .ok (.iload_n 3, 1) := by decide +kernel
theorem dX11_beside_23 : decode cX11_beside 23 = .ok (.i2l, 1) := by decide +kernel
theorem dX11_beside_24 : decode cX11_beside 24 = .ok (.lconst 0, 1) := by decide +kernel
theorem dX11_beside_25 : decode cX11_beside 25 = .ok (.lconst 1, 1) := by decide +kernel
theorem dX11_beside_26 : decode cX11_beside 26 = .ok (.invokestatic 44, 3) := by decide +kernel
theorem dX11_beside_29 : decode cX11_beside 29 = .ok (.ifCond .ne 6, 3) := by decide +kernel
theorem dX11_beside_32 : decode cX11_beside 32 = .ok (.ldc 50, 2) := by decide +kernel
theorem dX11_beside_34 : decode cX11_beside 34 = .ok (.ireturn, 1) := by decide +kernel
theorem dX11_beside_35 : decode cX11_beside 35 = .ok (.iconst 1, 1) := by decide +kernel
theorem dX11_beside_36 : decode cX11_beside 36 = .ok (.istore 4, 2) := by decide +kernel
theorem dX11_beside_38 : decode cX11_beside 38 = .ok (.iload 4, 2) := by decide +kernel
theorem dX11_beside_40 : decode cX11_beside 40 = .ok (.iload_n 1, 1) := by decide +kernel
theorem dX11_beside_41 : decode cX11_beside 41 = .ok (.if_icmp .gt 78, 3) := by decide +kernel
theorem dX11_beside_44 : decode cX11_beside 44 = .ok (.aload_n 0, 1) := by decide +kernel
theorem dX11_beside_45 : decode cX11_beside 45 = .ok (.iload 4, 2) := by decide +kernel
theorem dX11_beside_47 : decode cX11_beside 47 = .ok (.invokevirtual 131, 3) := by decide +kernel
theorem dX11_beside_50 : decode cX11_beside 50 = .ok (.iload_n 2, 1) := by decide +kernel
theorem dX11_beside_51 : decode cX11_beside 51 = .ok (.i2l, 1) := by decide +kernel
theorem dX11_beside_52 : decode cX11_beside 52 = .ok (.ladd, 1) := by decide +kernel
theorem dX11_beside_53 : decode cX11_beside 53 = .ok (.lstore 5, 2) := by decide +kernel
theorem dX11_beside_55 : decode cX11_beside 55 = .ok (.lload 5, 2) := by decide +kernel
theorem dX11_beside_57 : decode cX11_beside 57 = .ok (.aload_n 0, 1) := by decide +kernel
theorem dX11_beside_58 : decode cX11_beside 58 = .ok (.getfield 142, 3) := by decide +kernel
theorem dX11_beside_61 : decode cX11_beside 61 = .ok (.i2l, 1) := by decide +kernel
theorem dX11_beside_62 : decode cX11_beside 62 = .ok (.lmul, 1) := by decide +kernel
theorem dX11_beside_63 : decode cX11_beside 63 = .ok (.aload_n 0, 1) := by decide +kernel
theorem dX11_beside_64 : decode cX11_beside 64 = .ok (.getfield 139, 3) := by decide +kernel
theorem dX11_beside_67 : decode cX11_beside 67 = .ok (.iload 4, 2) := by decide +kernel
theorem dX11_beside_69 : decode cX11_beside 69 = .ok (.i2l, 1) := by decide +kernel
theorem dX11_beside_70 : decode cX11_beside 70 = .ok (.lmul, 1) := by decide +kernel
theorem dX11_beside_71 : decode cX11_beside 71 = .ok (.lsub, 1) := by decide +kernel
theorem dX11_beside_72 : decode cX11_beside 72 = .ok (.lstore 7, 2) := by decide +kernel
theorem dX11_beside_74 : decode cX11_beside 74 = .ok (.iload 4, 2) := by decide +kernel
theorem dX11_beside_76 : decode cX11_beside 76 = .ok (.iconst 1, 1) := by decide +kernel
theorem dX11_beside_77 : decode cX11_beside 77 = .ok (.if_icmp .eq 24, 3) := by decide +kernel
theorem dX11_beside_80 : decode cX11_beside 80 = .ok (.iload_n 2, 1) := by decide +kernel
theorem dX11_beside_81 : decode cX11_beside 81 = .ok (.ifCond .ne 13, 3) := by decide +kernel
theorem dX11_beside_84 : decode cX11_beside 84 = .ok (.lload 7, 2) := by decide +kernel
theorem dX11_beside_86 : decode cX11_beside 86 = .ok (.lconst 0, 1) := by decide +kernel
theorem dX11_beside_87 : decode cX11_beside 87 = .ok (.lcmp, 1) := by decide +kernel
theorem dX11_beside_88 : decode cX11_beside 88 = .ok (.ifCond .le 25, 3) := by decide +kernel
theorem dX11_beside_91 : decode cX11_beside 91 = .ok (.goto 10, 3) := by decide +kernel
theorem dX11_beside_94 : decode cX11_beside 94 = .ok (.lload 7, 2) := by decide +kernel
theorem dX11_beside_96 : decode cX11_beside 96 = .ok (.lconst 0, 1) := by decide +kernel
theorem dX11_beside_97 : decode cX11_beside 97 = .ok (.lcmp, 1) := by decide +kernel
theorem dX11_beside_98 : decode cX11_beside 98 = .ok (.ifCond .ge 15, 3) := by decide +kernel
theorem dX11_beside_101 : decode cX11_beside 101 = .ok (.aload_n 0, 1) := by decide +kernel
theorem dX11_beside_102 : decode cX11_beside 102 = .ok (.lload 5, 2) := by decide +kernel
theorem dX11_beside_104 : decode cX11_beside 104 = .ok (.putfield 139, 3) := by decide +kernel
theorem dX11_beside_107 : decode cX11_beside 107 = .ok (.aload_n 0, 1) := by decide +kernel
theorem dX11_beside_108 : decode cX11_beside 108 = .ok (.iload 4, 2) := by decide +kernel
theorem dX11_beside_110 : decode cX11_beside 110 = .ok (.putfield 142, 3) := by decide +kernel
theorem dX11_beside_113 : decode cX11_beside 113 = .ok (.iinc 4 1, 3) := by decide +kernel
theorem dX11_beside_116 : decode cX11_beside 116 = .ok (.goto (-78), 3) := by decide +kernel
theorem dX11_beside_119 : decode cX11_beside 119 = .ok (.aload_n 0, 1) := by decide +kernel
theorem dX11_beside_120 : decode cX11_beside 120 = .ok (.iload_n 3, 1) := by decide +kernel
theorem dX11_beside_121 : decode cX11_beside 121 = .ok (.invokevirtual 151, 3) := by decide +kernel
theorem dX11_beside_124 : decode cX11_beside 124 = .ok (.ireturn, 1) := by decide +kernel
theorem dX11_records_0 : decode cX11_records 0 = .ok (.iload_n 1, 1) := by decide +kernel
theorem dX11_records_1 : decode cX11_records 1 = .ok (.i2l, 1) := by decide +kernel
theorem dX11_records_2 : decode cX11_records 2 = .ok (.lconst 1, 1) := by decide +kernel
theorem dX11_records_3 : decode cX11_records 3 = .ok (.ldc2_w 146, 3) := by decide +kernel
theorem dX11_records_6 : decode cX11_records 6 = .ok (.invokestatic 44, 3) := by decide +kernel
theorem dX11_records_9 : decode cX11_records 9 = .ok (.ifCond .eq 11, 3) := by decide +kernel
theorem dX11_records_12 : decode cX11_records 12 = .ok (.aload_n 0, 1) := by decide +kernel
theorem dX11_records_13 : decode cX11_records 13 = .ok (.iload_n 1, 1) := by decide +kernel
theorem dX11_records_14 : decode cX11_records 14 = .ok (.invokevirtual 148, 3) := by decide +kernel
theorem dX11_records_17 : decode cX11_records 17 = .ok (.goto 5, 3) := by decide +kernel
theorem dX11_records_20 : decode cX11_records 20 = .ok (.ldc 50, 2) := by decide +kernel
theorem dX11_records_22 : decode cX11_records 22 = .ok (.ireturn, 1) := by decide +kernel
theorem dX11_solves_0 : decode cX11_solves 0 = .ok (.aload_n 0, 1) := by decide +kernel
theorem dX11_solves_1 : decode cX11_solves 1 = .ok (.iconst 0, 1) := by decide +kernel
theorem dX11_solves_2 : decode cX11_solves 2 = .ok (.putfield 154, 3) := by decide +kernel
theorem dX11_solves_5 : decode cX11_solves 5 = .ok (.iconst 0, 1) := by decide +kernel
theorem dX11_solves_6 : decode cX11_solves 6 = .ok (.istore_n 3, 1) := by decide +kernel
theorem dX11_solves_7 : decode cX11_solves 7 = .ok (.iload_n 3, 1) := by decide +kernel
theorem dX11_solves_8 : decode cX11_solves 8 = .ok (.sipush 5000, 3) := by decide +kernel
theorem dX11_solves_11 : decode cX11_solves 11 = .ok (.if_icmp .gt 117, 3) := by decide +kernel
theorem dX11_solves_14 : decode cX11_solves 14 = .ok (.iload_n 1, 1) := by decide +kernel
theorem dX11_solves_15 : decode cX11_solves 15 = .ok (.i2l, 1) := by decide +kernel
theorem dX11_solves_16 : decode cX11_solves 16 = .ok (.aload_n 0, 1) := by decide +kernel
theorem dX11_solves_17 : decode cX11_solves 17 = .ok (.getfield 7, 3) := by decide +kernel
theorem dX11_solves_20 : decode cX11_solves 20 = .ok (.iconst 1, 1) := by decide +kernel
theorem dX11_solves_21 : decode cX11_solves 21 = .ok (.iaload, 1) := by decide +kernel
theorem dX11_solves_22 : decode cX11_solves 22 = .ok (.i2l, 1) := by decide +kernel
theorem dX11_solves_23 : decode cX11_solves 23 = .ok (.iload_n 3, 1) := by decide +kernel
theorem dX11_solves_24 : decode cX11_solves 24 = .ok (.i2l, 1) := by decide +kernel
theorem dX11_solves_25 : decode cX11_solves 25 = .ok (.lmul, 1) := by decide +kernel
theorem dX11_solves_26 : decode cX11_solves 26 = .ok (.iload_n 3, 1) := by decide +kernel
theorem dX11_solves_27 : decode cX11_solves 27 = .ok (.i2l, 1) := by decide +kernel
theorem dX11_solves_28 : decode cX11_solves 28 = .ok (.lmul, 1) := by decide +kernel
theorem dX11_solves_29 : decode cX11_solves 29 = .ok (.ladd, 1) := by decide +kernel
theorem dX11_solves_30 : decode cX11_solves 30 = .ok (.lstore 4, 2) := by decide +kernel
theorem dX11_solves_32 : decode cX11_solves 32 = .ok (.lload 4, 2) := by decide +kernel
theorem dX11_solves_34 : decode cX11_solves 34 = .ok (.lconst 0, 1) := by decide +kernel
theorem dX11_solves_35 : decode cX11_solves 35 = .ok (.lcmp, 1) := by decide +kernel
theorem dX11_solves_36 : decode cX11_solves 36 = .ok (.ifCond .ge 9, 3) := by decide +kernel
theorem dX11_solves_39 : decode cX11_solves 39 = .ok (.ldc2_w 157, 3) := by decide +kernel
theorem dX11_solves_42 : decode cX11_solves 42 = .ok (.goto 8, 3) := by decide +kernel
theorem dX11_solves_45 : decode cX11_solves 45 = .ok (.lload 4, 2) := by decide +kernel
theorem dX11_solves_47 : decode cX11_solves 47 = .ok (.invokestatic 51, 3) := by decide +kernel
theorem dX11_solves_50 : decode cX11_solves 50 = .ok (.lstore 6, 2) := by decide +kernel
theorem dX11_solves_52 : decode cX11_solves 52 = .ok (.lload 6, 2) := by decide +kernel
theorem dX11_solves_54 : decode cX11_solves 54 = .ok (.lconst 0, 1) := by decide +kernel
theorem dX11_solves_55 : decode cX11_solves 55 = .ok (.lcmp, 1) := by decide +kernel
theorem dX11_solves_56 : decode cX11_solves 56 = .ok (.ifCond .lt 66, 3) := by decide +kernel
theorem dX11_solves_59 : decode cX11_solves 59 = .ok (.lload 6, 2) := by decide +kernel
theorem dX11_solves_61 : decode cX11_solves 61 = .ok (.lload 6, 2) := by decide +kernel
theorem dX11_solves_63 : decode cX11_solves 63 = .ok (.lmul, 1) := by decide +kernel
theorem dX11_solves_64 : decode cX11_solves 64 = .ok (.lload 4, 2) := by decide +kernel
theorem dX11_solves_66 : decode cX11_solves 66 = .ok (.lcmp, 1) := by decide +kernel
theorem dX11_solves_67 : decode cX11_solves 67 = .ok (.ifCond .ne 55, 3) := by decide +kernel
theorem dX11_solves_70 : decode cX11_solves 70 = .ok (.aload_n 0, 1) := by decide +kernel
theorem dX11_solves_71 : decode cX11_solves 71 = .ok (.aload_n 0, 1) := by decide +kernel
theorem dX11_solves_72 : decode cX11_solves 72 = .ok (.getfield 154, 3) := by decide +kernel
theorem dX11_solves_75 : decode cX11_solves 75 = .ok (.iload_n 2, 1) := by decide +kernel
theorem dX11_solves_76 : decode cX11_solves 76 = .ok (.if_icmp .ne 9, 3) := by decide +kernel
theorem dX11_solves_79 : decode cX11_solves 79 = .ok (.lload 6, 2) := by decide +kernel
theorem dX11_solves_81 : decode cX11_solves 81 = .ok (.l2i, 1) := by decide +kernel
theorem dX11_solves_82 : decode cX11_solves 82 = .ok (.goto 7, 3) := by decide +kernel
theorem dX11_solves_85 : decode cX11_solves 85 = .ok (.aload_n 0, 1) := by decide +kernel
theorem dX11_solves_86 : decode cX11_solves 86 = .ok (.getfield 159, 3) := by decide +kernel
theorem dX11_solves_89 : decode cX11_solves 89 = .ok (.putfield 159, 3) := by decide +kernel
theorem dX11_solves_92 : decode cX11_solves 92 = .ok (.aload_n 0, 1) := by decide +kernel
theorem dX11_solves_93 : decode cX11_solves 93 = .ok (.aload_n 0, 1) := by decide +kernel
theorem dX11_solves_94 : decode cX11_solves 94 = .ok (.getfield 154, 3) := by decide +kernel
theorem dX11_solves_97 : decode cX11_solves 97 = .ok (.iload_n 2, 1) := by decide +kernel
theorem dX11_solves_98 : decode cX11_solves 98 = .ok (.if_icmp .ne 7, 3) := by decide +kernel
theorem dX11_solves_101 : decode cX11_solves 101 = .ok (.iload_n 3, 1) := by decide +kernel
theorem dX11_solves_102 : decode cX11_solves 102 = .ok (.goto 7, 3) := by decide +kernel
theorem dX11_solves_105 : decode cX11_solves 105 = .ok (.aload_n 0, 1) := by decide +kernel
theorem dX11_solves_106 : decode cX11_solves 106 = .ok (.getfield 162, 3) := by decide +kernel
theorem dX11_solves_109 : decode cX11_solves 109 = .ok (.putfield 162, 3) := by decide +kernel
theorem dX11_solves_112 : decode cX11_solves 112 = .ok (.aload_n 0, 1) := by decide +kernel
theorem dX11_solves_113 : decode cX11_solves 113 = .ok (.dup, 1) := by decide +kernel
theorem dX11_solves_114 : decode cX11_solves 114 = .ok (.getfield 154, 3) := by decide +kernel
theorem dX11_solves_117 : decode cX11_solves 117 = .ok (.iconst 1, 1) := by decide +kernel
theorem dX11_solves_118 : decode cX11_solves 118 = .ok (.iadd, 1) := by decide +kernel
theorem dX11_solves_119 : decode cX11_solves 119 = .ok (.putfield 154, 3) := by decide +kernel
theorem dX11_solves_122 : decode cX11_solves 122 = .ok (.iinc 3 1, 3) := by decide +kernel
theorem dX11_solves_125 : decode cX11_solves 125 = .ok (.goto (-118), 3) := by decide +kernel
theorem dX11_solves_128 : decode cX11_solves 128 = .ok (.return_, 1) := by decide +kernel
theorem dX11_isN_0 : decode cX11_isN 0 = .ok (.iload_n 0, 1) := by decide +kernel
theorem dX11_isN_1 : decode cX11_isN 1 = .ok (.i2l, 1) := by decide +kernel
theorem dX11_isN_2 : decode cX11_isN 2 = .ok (.ldc2_w 165, 3) := by decide +kernel
theorem dX11_isN_5 : decode cX11_isN 5 = .ok (.ldc2_w 167, 3) := by decide +kernel
theorem dX11_isN_8 : decode cX11_isN 8 = .ok (.invokestatic 44, 3) := by decide +kernel
theorem dX11_isN_11 : decode cX11_isN 11 = .ok (.ifCond .eq 11, 3) := by decide +kernel
theorem dX11_isN_14 : decode cX11_isN 14 = .ok (.iload_n 0, 1) := by decide +kernel
theorem dX11_isN_15 : decode cX11_isN 15 = .ok (.ifCond .eq 7, 3) := by decide +kernel
theorem dX11_isN_18 : decode cX11_isN 18 = .ok (.iconst 1, 1) := by decide +kernel
theorem dX11_isN_19 : decode cX11_isN 19 = .ok (.goto 4, 3) := by decide +kernel
theorem dX11_isN_22 : decode cX11_isN 22 = .ok (.iconst 0, 1) := by decide +kernel
theorem dX11_isN_23 : decode cX11_isN 23 = .ok (.ireturn, 1) := by decide +kernel
theorem dX11_solution_0 : decode cX11_solution 0 = .ok (.iload_n 1, 1) := by decide +kernel
theorem dX11_solution_1 : decode cX11_solution 1 = .ok (.invokestatic 169, 3) := by decide +kernel
theorem dX11_solution_4 : decode cX11_solution 4 = .ok (.ifCond .eq 17, 3) := by decide +kernel
theorem dX11_solution_7 : decode cX11_solution 7 = .ok (.iload_n 2, 1) := by decide +kernel
theorem dX11_solution_8 : decode cX11_solution 8 = .ok (.ifCond .lt 13, 3) := by decide +kernel
theorem dX11_solution_11 : decode cX11_solution 11 = .ok (.iload_n 3, 1) := by decide +kernel
theorem dX11_solution_12 : decode cX11_solution 12 = .ok (.i2l, 1) := by decide +kernel
theorem dX11_solution_13 : decode cX11_solution 13 = .ok (.lconst 0, 1) := by decide +kernel
theorem dX11_solution_14 : decode cX11_solution 14 = .ok (.lconst 1, 1) := by decide +kernel
theorem dX11_solution_15 : decode cX11_solution 15 = .ok (.invokestatic 44, 3) := by decide +kernel
theorem dX11_solution_18 : decode cX11_solution 18 = .ok (.ifCond .ne 6, 3) := by decide +kernel
theorem dX11_solution_21 : decode cX11_solution 21 = .ok (.ldc 50, 2) := by decide +kernel
theorem dX11_solution_23 : decode cX11_solution 23 = .ok (.ireturn, 1) := by decide +kernel
theorem dX11_solution_24 : decode cX11_solution 24 = .ok (.aload_n 0, 1) := by decide +kernel
theorem dX11_solution_25 : decode cX11_solution 25 = .ok (.iload_n 1, 1) := by decide +kernel
theorem dX11_solution_26 : decode cX11_solution 26 = .ok (.iload_n 2, 1) := by decide +kernel
theorem dX11_solution_27 : decode cX11_solution 27 = .ok (.invokevirtual 172, 3) := by decide +kernel
theorem dX11_solution_30 : decode cX11_solution 30 = .ok (.iload_n 2, 1) := by decide +kernel
theorem dX11_solution_31 : decode cX11_solution 31 = .ok (.aload_n 0, 1) := by decide +kernel
theorem dX11_solution_32 : decode cX11_solution 32 = .ok (.getfield 154, 3) := by decide +kernel
theorem dX11_solution_35 : decode cX11_solution 35 = .ok (.if_icmp .lt 8, 3) := by decide +kernel
theorem dX11_solution_38 : decode cX11_solution 38 = .ok (.ldc 176, 2) := by decide +kernel
theorem dX11_solution_40 : decode cX11_solution 40 = .ok (.goto 18, 3) := by decide +kernel
theorem dX11_solution_43 : decode cX11_solution 43 = .ok (.iload_n 3, 1) := by decide +kernel
theorem dX11_solution_44 : decode cX11_solution 44 = .ok (.ifCond .ne 10, 3) := by decide +kernel
theorem dX11_solution_47 : decode cX11_solution 47 = .ok (.aload_n 0, 1) := by decide +kernel
theorem dX11_solution_48 : decode cX11_solution 48 = .ok (.getfield 159, 3) := by decide +kernel
theorem dX11_solution_51 : decode cX11_solution 51 = .ok (.goto 7, 3) := by decide +kernel
theorem dX11_solution_54 : decode cX11_solution 54 = .ok (.aload_n 0, 1) := by decide +kernel
theorem dX11_solution_55 : decode cX11_solution 55 = .ok (.getfield 162, 3) := by decide +kernel
theorem dX11_solution_58 : decode cX11_solution 58 = .ok (.ireturn, 1) := by decide +kernel
theorem dX11_solutions_0 : decode cX11_solutions 0 = .ok (.iload_n 1, 1) := by decide +kernel
theorem dX11_solutions_1 : decode cX11_solutions 1 = .ok (.invokestatic 169, 3) := by decide +kernel
theorem dX11_solutions_4 : decode cX11_solutions 4 = .ok (.ifCond .ne 6, 3) := by decide +kernel
theorem dX11_solutions_7 : decode cX11_solutions 7 = .ok (.ldc 50, 2) := by decide +kernel
theorem dX11_solutions_9 : decode cX11_solutions 9 = .ok (.ireturn, 1) := by decide +kernel
theorem dX11_solutions_10 : decode cX11_solutions 10 = .ok (.aload_n 0, 1) := by decide +kernel
theorem dX11_solutions_11 : decode cX11_solutions 11 = .ok (.iload_n 1, 1) := by decide +kernel
theorem dX11_solutions_12 : decode cX11_solutions 12 = .ok (.ldc 176, 2) := by decide +kernel
theorem dX11_solutions_14 : decode cX11_solutions 14 = .ok (.invokevirtual 172, 3) := by decide +kernel
theorem dX11_solutions_17 : decode cX11_solutions 17 = .ok (.aload_n 0, 1) := by decide +kernel
theorem dX11_solutions_18 : decode cX11_solutions 18 = .ok (.getfield 154, 3) := by decide +kernel
theorem dX11_solutions_21 : decode cX11_solutions 21 = .ok (.ireturn, 1) := by decide +kernel
theorem dX11_leastSolution_0 : decode cX11_leastSolution 0 = .ok (.iload_n 1, 1) := by decide +kernel
theorem dX11_leastSolution_1 : decode cX11_leastSolution 1 = .ok (.i2l, 1) := by decide +kernel
theorem dX11_leastSolution_2 : decode cX11_leastSolution 2 = .ok (.lconst 0, 1) := by decide +kernel
theorem dX11_leastSolution_3 : decode cX11_leastSolution 3 = .ok (.lconst 1, 1) := by decide +kernel
theorem dX11_leastSolution_4 : decode cX11_leastSolution 4 = .ok (.invokestatic 44, 3) := by decide +kernel
theorem dX11_leastSolution_7 : decode cX11_leastSolution 7 = .ok (.ifCond .ne 7, 3) := by decide +kernel
theorem dX11_leastSolution_10 : decode cX11_leastSolution 10 = .ok (.ldc2_w 120, 3) := by decide +kernel
theorem dX11_leastSolution_13 : decode cX11_leastSolution 13 = .ok (.lreturn, 1) := by decide +kernel
theorem dX11_leastSolution_14 : decode cX11_leastSolution 14 = .ok (.aload_n 0, 1) := by decide +kernel
theorem dX11_leastSolution_15 : decode cX11_leastSolution 15 = .ok (.lconst 0, 1) := by decide +kernel
theorem dX11_leastSolution_16 : decode cX11_leastSolution 16 = .ok (.aload_n 0, 1) := by decide +kernel
theorem dX11_leastSolution_17 : decode cX11_leastSolution 17 = .ok (.getfield 7, 3) := by decide +kernel
theorem dX11_leastSolution_20 : decode cX11_leastSolution 20 = .ok (.iconst 1, 1) := by decide +kernel
theorem dX11_leastSolution_21 : decode cX11_leastSolution 21 = .ok (.iaload, 1) := by decide +kernel
theorem dX11_leastSolution_22 : decode cX11_leastSolution 22 = .ok (.i2l, 1) := by decide +kernel
theorem dX11_leastSolution_23 : decode cX11_leastSolution 23 = .ok (.lconst 1, 1) := by decide +kernel
theorem dX11_leastSolution_24 : decode cX11_leastSolution 24 = .ok (.invokevirtual 63, 3) := by decide +kernel
theorem dX11_leastSolution_27 : decode cX11_leastSolution 27 = .ok (.aload_n 0, 1) := by decide +kernel
theorem dX11_leastSolution_28 : decode cX11_leastSolution 28 = .ok (.invokevirtual 113, 3) := by decide +kernel
theorem dX11_leastSolution_31 : decode cX11_leastSolution 31 = .ok (.iconst 0, 1) := by decide +kernel
theorem dX11_leastSolution_32 : decode cX11_leastSolution 32 = .ok (.istore_n 2, 1) := by decide +kernel
theorem dX11_leastSolution_33 : decode cX11_leastSolution 33 = .ok (.iload_n 2, 1) := by decide +kernel
theorem dX11_leastSolution_34 : decode cX11_leastSolution 34 = .ok (.sipush 400, 3) := by decide +kernel
theorem dX11_leastSolution_37 : decode cX11_leastSolution 37 = .ok (.if_icmp .ge 63, 3) := by decide +kernel
theorem dX11_leastSolution_40 : decode cX11_leastSolution 40 = .ok (.aload_n 0, 1) := by decide +kernel
theorem dX11_leastSolution_41 : decode cX11_leastSolution 41 = .ok (.aload_n 0, 1) := by decide +kernel
theorem dX11_leastSolution_42 : decode cX11_leastSolution 42 = .ok (.getfield 19, 3) := by decide +kernel
theorem dX11_leastSolution_45 : decode cX11_leastSolution 45 = .ok (.iload_n 2, 1) := by decide +kernel
theorem dX11_leastSolution_46 : decode cX11_leastSolution 46 = .ok (.iaload, 1) := by decide +kernel
theorem dX11_leastSolution_47 : decode cX11_leastSolution 47 = .ok (.i2l, 1) := by decide +kernel
theorem dX11_leastSolution_48 : decode cX11_leastSolution 48 = .ok (.invokevirtual 116, 3) := by decide +kernel
theorem dX11_leastSolution_51 : decode cX11_leastSolution 51 = .ok (.ifCond .ne 7, 3) := by decide +kernel
theorem dX11_leastSolution_54 : decode cX11_leastSolution 54 = .ok (.ldc2_w 125, 3) := by decide +kernel
theorem dX11_leastSolution_57 : decode cX11_leastSolution 57 = .ok (.lreturn, 1) := by decide +kernel
theorem dX11_leastSolution_58 : decode cX11_leastSolution 58 = .ok (.iload_n 2, 1) := by decide +kernel
theorem dX11_leastSolution_59 : decode cX11_leastSolution 59 = .ok (.iconst 2, 1) := by decide +kernel
theorem dX11_leastSolution_60 : decode cX11_leastSolution 60 = .ok (.irem, 1) := by decide +kernel
theorem dX11_leastSolution_61 : decode cX11_leastSolution 61 = .ok (.iconst 1, 1) := by decide +kernel
theorem dX11_leastSolution_62 : decode cX11_leastSolution 62 = .ok (.if_icmp .ne 32, 3) := by decide +kernel
theorem dX11_leastSolution_65 : decode cX11_leastSolution 65 = .ok (.aload_n 0, 1) := by decide +kernel
theorem dX11_leastSolution_66 : decode cX11_leastSolution 66 = .ok (.getfield 26, 3) := by decide +kernel
theorem dX11_leastSolution_69 : decode cX11_leastSolution 69 = .ok (.iload_n 2, 1) := by decide +kernel
theorem dX11_leastSolution_70 : decode cX11_leastSolution 70 = .ok (.iconst 1, 1) := by decide +kernel
theorem dX11_leastSolution_71 : decode cX11_leastSolution 71 = .ok (.iadd, 1) := by decide +kernel
theorem dX11_leastSolution_72 : decode cX11_leastSolution 72 = .ok (.laload, 1) := by decide +kernel
theorem dX11_leastSolution_73 : decode cX11_leastSolution 73 = .ok (.lconst 1, 1) := by decide +kernel
theorem dX11_leastSolution_74 : decode cX11_leastSolution 74 = .ok (.lcmp, 1) := by decide +kernel
theorem dX11_leastSolution_75 : decode cX11_leastSolution 75 = .ok (.ifCond .ne 19, 3) := by decide +kernel
theorem dX11_leastSolution_78 : decode cX11_leastSolution 78 = .ok (.iload_n 1, 1) := by decide +kernel
theorem dX11_leastSolution_79 : decode cX11_leastSolution 79 = .ok (.ifCond .ne 10, 3) := by decide +kernel
theorem dX11_leastSolution_82 : decode cX11_leastSolution 82 = .ok (.aload_n 0, 1) := by decide +kernel
theorem dX11_leastSolution_83 : decode cX11_leastSolution 83 = .ok (.getfield 93, 3) := by decide +kernel
theorem dX11_leastSolution_86 : decode cX11_leastSolution 86 = .ok (.goto 7, 3) := by decide +kernel
theorem dX11_leastSolution_89 : decode cX11_leastSolution 89 = .ok (.aload_n 0, 1) := by decide +kernel
theorem dX11_leastSolution_90 : decode cX11_leastSolution 90 = .ok (.getfield 97, 3) := by decide +kernel
theorem dX11_leastSolution_93 : decode cX11_leastSolution 93 = .ok (.lreturn, 1) := by decide +kernel
theorem dX11_leastSolution_94 : decode cX11_leastSolution 94 = .ok (.iinc 2 1, 3) := by decide +kernel
theorem dX11_leastSolution_97 : decode cX11_leastSolution 97 = .ok (.goto (-64), 3) := by decide +kernel
theorem dX11_leastSolution_100 : decode cX11_leastSolution 100 = .ok (.ldc2_w 125, 3) := by decide +kernel
theorem dX11_leastSolution_103 : decode cX11_leastSolution 103 = .ok (.lreturn, 1) := by decide +kernel
theorem dX11_isAt_0 : decode cX11_isAt 0 = .ok (.aload_n 0, 1) := by decide +kernel
theorem dX11_isAt_1 : decode cX11_isAt 1 = .ok (.getfield 177, 3) := by decide +kernel
theorem dX11_isAt_4 : decode cX11_isAt 4 = .ok (.aload_n 0, 1) := by decide +kernel
theorem dX11_isAt_5 : decode cX11_isAt 5 = .ok (.getfield 180, 3) := by decide +kernel
theorem dX11_isAt_8 : decode cX11_isAt 8 = .ok (.if_icmp .ge 27, 3) := by decide +kernel
theorem dX11_isAt_11 : decode cX11_isAt 11 = .ok (.aload_n 0, 1) := by decide +kernel
theorem dX11_isAt_12 : decode cX11_isAt 12 = .ok (.getfield 16, 3) := by decide +kernel
theorem dX11_isAt_15 : decode cX11_isAt 15 = .ok (.aload_n 0, 1) := by decide +kernel
theorem dX11_isAt_16 : decode cX11_isAt 16 = .ok (.getfield 177, 3) := by decide +kernel
theorem dX11_isAt_19 : decode cX11_isAt 19 = .ok (.iaload, 1) := by decide +kernel
theorem dX11_isAt_20 : decode cX11_isAt 20 = .ok (.i2l, 1) := by decide +kernel
theorem dX11_isAt_21 : decode cX11_isAt 21 = .ok (.iload_n 1, 1) := by decide +kernel
theorem dX11_isAt_22 : decode cX11_isAt 22 = .ok (.i2l, 1) := by decide +kernel
theorem dX11_isAt_23 : decode cX11_isAt 23 = .ok (.iload_n 2, 1) := by decide +kernel
theorem dX11_isAt_24 : decode cX11_isAt 24 = .ok (.i2l, 1) := by decide +kernel
theorem dX11_isAt_25 : decode cX11_isAt 25 = .ok (.invokestatic 44, 3) := by decide +kernel
theorem dX11_isAt_28 : decode cX11_isAt 28 = .ok (.ifCond .eq 7, 3) := by decide +kernel
theorem dX11_isAt_31 : decode cX11_isAt 31 = .ok (.iconst 1, 1) := by decide +kernel
theorem dX11_isAt_32 : decode cX11_isAt 32 = .ok (.goto 4, 3) := by decide +kernel
theorem dX11_isAt_35 : decode cX11_isAt 35 = .ok (.iconst 0, 1) := by decide +kernel
theorem dX11_isAt_36 : decode cX11_isAt 36 = .ok (.ireturn, 1) := by decide +kernel
theorem dX11_passes_0 : decode cX11_passes 0 = .ok (.aload_n 0, 1) := by decide +kernel
theorem dX11_passes_1 : decode cX11_passes 1 = .ok (.iload_n 1, 1) := by decide +kernel
theorem dX11_passes_2 : decode cX11_passes 2 = .ok (.iload_n 1, 1) := by decide +kernel
theorem dX11_passes_3 : decode cX11_passes 3 = .ok (.invokevirtual 183, 3) := by decide +kernel
theorem dX11_passes_6 : decode cX11_passes 6 = .ok (.istore_n 2, 1) := by decide +kernel
theorem dX11_passes_7 : decode cX11_passes 7 = .ok (.aload_n 0, 1) := by decide +kernel
theorem dX11_passes_8 : decode cX11_passes 8 = .ok (.dup, 1) := by decide +kernel
theorem dX11_passes_9 : decode cX11_passes 9 = .ok (.getfield 177, 3) := by decide +kernel
theorem dX11_passes_12 : decode cX11_passes 12 = .ok (.iload_n 2, 1) := by decide +kernel
theorem dX11_passes_13 : decode cX11_passes 13 = .ok (.ifCond .eq 7, 3) := by decide +kernel
theorem dX11_passes_16 : decode cX11_passes 16 = .ok (.iconst 1, 1) := by decide +kernel
theorem dX11_passes_17 : decode cX11_passes 17 = .ok (.goto 4, 3) := by decide +kernel
theorem dX11_passes_20 : decode cX11_passes 20 = .ok (.iconst 0, 1) := by decide +kernel
theorem dX11_passes_21 : decode cX11_passes 21 = .ok (.iadd, 1) := by decide +kernel
theorem dX11_passes_22 : decode cX11_passes 22 = .ok (.putfield 177, 3) := by decide +kernel
theorem dX11_passes_25 : decode cX11_passes 25 = .ok (.iload_n 2, 1) := by decide +kernel
theorem dX11_passes_26 : decode cX11_passes 26 = .ok (.ireturn, 1) := by decide +kernel
theorem dX11_number_0 : decode cX11_number 0 = .ok (.aload_n 0, 1) := by decide +kernel
theorem dX11_number_1 : decode cX11_number 1 = .ok (.getfield 177, 3) := by decide +kernel
theorem dX11_number_4 : decode cX11_number 4 = .ok (.istore_n 1, 1) := by decide +kernel
theorem dX11_number_5 : decode cX11_number 5 = .ok (.iconst 0, 1) := by decide +kernel
theorem dX11_number_6 : decode cX11_number 6 = .ok (.istore_n 2, 1) := by decide +kernel
theorem dX11_number_7 : decode cX11_number 7 = .ok (.aload_n 0, 1) := by decide +kernel
theorem dX11_number_8 : decode cX11_number 8 = .ok (.bipush 48, 2) := by decide +kernel
theorem dX11_number_10 : decode cX11_number 10 = .ok (.bipush 57, 2) := by decide +kernel
theorem dX11_number_12 : decode cX11_number 12 = .ok (.invokevirtual 183, 3) := by decide +kernel
theorem dX11_number_15 : decode cX11_number 15 = .ok (.ifCond .eq 56, 3) := by decide +kernel
theorem dX11_number_18 : decode cX11_number 18 = .ok (.aload_n 0, 1) := by decide +kernel
theorem dX11_number_19 : decode cX11_number 19 = .ok (.getfield 177, 3) := by decide +kernel
theorem dX11_number_22 : decode cX11_number 22 = .ok (.iload_n 1, 1) := by decide +kernel
theorem dX11_number_23 : decode cX11_number 23 = .ok (.isub, 1) := by decide +kernel
theorem dX11_number_24 : decode cX11_number 24 = .ok (.iconst 3, 1) := by decide +kernel
theorem dX11_number_25 : decode cX11_number 25 = .ok (.if_icmp .ge 46, 3) := by decide +kernel
theorem dX11_number_28 : decode cX11_number 28 = .ok (.aload_n 0, 1) := by decide +kernel
theorem dX11_number_29 : decode cX11_number 29 = .ok (.getfield 177, 3) := by decide +kernel
theorem dX11_number_32 : decode cX11_number 32 = .ok (.iload_n 1, 1) := by decide +kernel
theorem dX11_number_33 : decode cX11_number 33 = .ok (.if_icmp .eq 7, 3) := by decide +kernel
theorem dX11_number_36 : decode cX11_number 36 = .ok (.iload_n 2, 1) := by decide +kernel
theorem dX11_number_37 : decode cX11_number 37 = .ok (.ifCond .le 34, 3) := by decide +kernel
theorem dX11_number_40 : decode cX11_number 40 = .ok (.bipush 10, 2) := by decide +kernel
theorem dX11_number_42 : decode cX11_number 42 = .ok (.iload_n 2, 1) := by decide +kernel
theorem dX11_number_43 : decode cX11_number 43 = .ok (.imul, 1) := by decide +kernel
theorem dX11_number_44 : decode cX11_number 44 = .ok (.aload_n 0, 1) := by decide +kernel
theorem dX11_number_45 : decode cX11_number 45 = .ok (.getfield 16, 3) := by decide +kernel
theorem dX11_number_48 : decode cX11_number 48 = .ok (.aload_n 0, 1) := by decide +kernel
theorem dX11_number_49 : decode cX11_number 49 = .ok (.getfield 177, 3) := by decide +kernel
theorem dX11_number_52 : decode cX11_number 52 = .ok (.iaload, 1) := by decide +kernel
theorem dX11_number_53 : decode cX11_number 53 = .ok (.iadd, 1) := by decide +kernel
theorem dX11_number_54 : decode cX11_number 54 = .ok (.bipush 48, 2) := by decide +kernel
theorem dX11_number_56 : decode cX11_number 56 = .ok (.isub, 1) := by decide +kernel
theorem dX11_number_57 : decode cX11_number 57 = .ok (.istore_n 2, 1) := by decide +kernel
theorem dX11_number_58 : decode cX11_number 58 = .ok (.aload_n 0, 1) := by decide +kernel
theorem dX11_number_59 : decode cX11_number 59 = .ok (.dup, 1) := by decide +kernel
theorem dX11_number_60 : decode cX11_number 60 = .ok (.getfield 177, 3) := by decide +kernel
theorem dX11_number_63 : decode cX11_number 63 = .ok (.iconst 1, 1) := by decide +kernel
theorem dX11_number_64 : decode cX11_number 64 = .ok (.iadd, 1) := by decide +kernel
theorem dX11_number_65 : decode cX11_number 65 = .ok (.putfield 177, 3) := by decide +kernel
theorem dX11_number_68 : decode cX11_number 68 = .ok (.goto (-61), 3) := by decide +kernel
theorem dX11_number_71 : decode cX11_number 71 = .ok (.aload_n 0, 1) := by decide +kernel
theorem dX11_number_72 : decode cX11_number 72 = .ok (.getfield 29, 3) := by decide +kernel
theorem dX11_number_75 : decode cX11_number 75 = .ok (.aload_n 0, 1) := by decide +kernel
theorem dX11_number_76 : decode cX11_number 76 = .ok (.getfield 187, 3) := by decide +kernel
theorem dX11_number_79 : decode cX11_number 79 = .ok (.iload_n 2, 1) := by decide +kernel
theorem dX11_number_80 : decode cX11_number 80 = .ok (.iastore, 1) := by decide +kernel
theorem dX11_number_81 : decode cX11_number 81 = .ok (.aload_n 0, 1) := by decide +kernel
theorem dX11_number_82 : decode cX11_number 82 = .ok (.getfield 177, 3) := by decide +kernel
theorem dX11_number_85 : decode cX11_number 85 = .ok (.iload_n 1, 1) := by decide +kernel
theorem dX11_number_86 : decode cX11_number 86 = .ok (.if_icmp .le 7, 3) := by decide +kernel
theorem dX11_number_89 : decode cX11_number 89 = .ok (.iconst 1, 1) := by decide +kernel
theorem dX11_number_90 : decode cX11_number 90 = .ok (.goto 4, 3) := by decide +kernel
theorem dX11_number_93 : decode cX11_number 93 = .ok (.iconst 0, 1) := by decide +kernel
theorem dX11_number_94 : decode cX11_number 94 = .ok (.ireturn, 1) := by decide +kernel
theorem dX11_later_0 : decode cX11_later 0 = .ok (.aload_n 0, 1) := by decide +kernel
theorem dX11_later_1 : decode cX11_later 1 = .ok (.getfield 177, 3) := by decide +kernel
theorem dX11_later_4 : decode cX11_later 4 = .ok (.istore_n 1, 1) := by decide +kernel
theorem dX11_later_5 : decode cX11_later 5 = .ok (.aload_n 0, 1) := by decide +kernel
theorem dX11_later_6 : decode cX11_later 6 = .ok (.invokevirtual 190, 3) := by decide +kernel
theorem dX11_later_9 : decode cX11_later 9 = .ok (.ifCond .ne 5, 3) := by decide +kernel
theorem dX11_later_12 : decode cX11_later 12 = .ok (.iconst 0, 1) := by decide +kernel
theorem dX11_later_13 : decode cX11_later 13 = .ok (.ireturn, 1) := by decide +kernel
theorem dX11_later_14 : decode cX11_later 14 = .ok (.aload_n 0, 1) := by decide +kernel
theorem dX11_later_15 : decode cX11_later 15 = .ok (.getfield 29, 3) := by decide +kernel
theorem dX11_later_18 : decode cX11_later 18 = .ok (.aload_n 0, 1) := by decide +kernel
theorem dX11_later_19 : decode cX11_later 19 = .ok (.getfield 187, 3) := by decide +kernel
theorem dX11_later_22 : decode cX11_later 22 = .ok (.iaload, 1) := by decide +kernel
theorem dX11_later_23 : decode cX11_later 23 = .ok (.ifCond .ne 15, 3) := by decide +kernel
theorem dX11_later_26 : decode cX11_later 26 = .ok (.aload_n 0, 1) := by decide +kernel
theorem dX11_later_27 : decode cX11_later 27 = .ok (.iload_n 1, 1) := by decide +kernel
theorem dX11_later_28 : decode cX11_later 28 = .ok (.putfield 177, 3) := by decide +kernel
theorem dX11_later_31 : decode cX11_later 31 = .ok (.aload_n 0, 1) := by decide +kernel
theorem dX11_later_32 : decode cX11_later 32 = .ok (.iconst 2, 1) := by decide +kernel
theorem dX11_later_33 : decode cX11_later 33 = .ok (.putfield 194, 3) := by decide +kernel
theorem dX11_later_36 : decode cX11_later 36 = .ok (.iconst 0, 1) := by decide +kernel
theorem dX11_later_37 : decode cX11_later 37 = .ok (.ireturn, 1) := by decide +kernel
theorem dX11_later_38 : decode cX11_later 38 = .ok (.aload_n 0, 1) := by decide +kernel
theorem dX11_later_39 : decode cX11_later 39 = .ok (.dup, 1) := by decide +kernel
theorem dX11_later_40 : decode cX11_later 40 = .ok (.getfield 187, 3) := by decide +kernel
theorem dX11_later_43 : decode cX11_later 43 = .ok (.iconst 1, 1) := by decide +kernel
theorem dX11_later_44 : decode cX11_later 44 = .ok (.iadd, 1) := by decide +kernel
theorem dX11_later_45 : decode cX11_later 45 = .ok (.putfield 187, 3) := by decide +kernel
theorem dX11_later_48 : decode cX11_later 48 = .ok (.iconst 1, 1) := by decide +kernel
theorem dX11_later_49 : decode cX11_later 49 = .ok (.ireturn, 1) := by decide +kernel
theorem dX11_reads_0 : decode cX11_reads 0 = .ok (.aload_n 0, 1) := by decide +kernel
theorem dX11_reads_1 : decode cX11_reads 1 = .ok (.iconst 0, 1) := by decide +kernel
theorem dX11_reads_2 : decode cX11_reads 2 = .ok (.putfield 177, 3) := by decide +kernel
theorem dX11_reads_5 : decode cX11_reads 5 = .ok (.aload_n 0, 1) := by decide +kernel
theorem dX11_reads_6 : decode cX11_reads 6 = .ok (.iconst 1, 1) := by decide +kernel
theorem dX11_reads_7 : decode cX11_reads 7 = .ok (.putfield 194, 3) := by decide +kernel
theorem dX11_reads_10 : decode cX11_reads 10 = .ok (.aload_n 0, 1) := by decide +kernel
theorem dX11_reads_11 : decode cX11_reads 11 = .ok (.iconst 0, 1) := by decide +kernel
theorem dX11_reads_12 : decode cX11_reads 12 = .ok (.putfield 187, 3) := by decide +kernel
theorem dX11_reads_15 : decode cX11_reads 15 = .ok (.aload_n 0, 1) := by decide +kernel
theorem dX11_reads_16 : decode cX11_reads 16 = .ok (.bipush 45, 2) := by decide +kernel
theorem dX11_reads_18 : decode cX11_reads 18 = .ok (.invokevirtual 197, 3) := by decide +kernel
theorem dX11_reads_21 : decode cX11_reads 21 = .ok (.istore_n 1, 1) := by decide +kernel
theorem dX11_reads_22 : decode cX11_reads 22 = .ok (.aload_n 0, 1) := by decide +kernel
theorem dX11_reads_23 : decode cX11_reads 23 = .ok (.invokevirtual 190, 3) := by decide +kernel
theorem dX11_reads_26 : decode cX11_reads 26 = .ok (.ifCond .ne 5, 3) := by decide +kernel
theorem dX11_reads_29 : decode cX11_reads 29 = .ok (.iconst 0, 1) := by decide +kernel
theorem dX11_reads_30 : decode cX11_reads 30 = .ok (.ireturn, 1) := by decide +kernel
theorem dX11_reads_31 : decode cX11_reads 31 = .ok (.aload_n 0, 1) := by decide +kernel
theorem dX11_reads_32 : decode cX11_reads 32 = .ok (.getfield 29, 3) := by decide +kernel
theorem dX11_reads_35 : decode cX11_reads 35 = .ok (.iconst 0, 1) := by decide +kernel
theorem dX11_reads_36 : decode cX11_reads 36 = .ok (.iload_n 1, 1) := by decide +kernel
theorem dX11_reads_37 : decode cX11_reads 37 = .ok (.ifCond .eq 13, 3) := by decide +kernel
theorem dX11_reads_40 : decode cX11_reads 40 = .ok (.aload_n 0, 1) := by decide +kernel
theorem dX11_reads_41 : decode cX11_reads 41 = .ok (.getfield 29, 3) := by decide +kernel
theorem dX11_reads_44 : decode cX11_reads 44 = .ok (.iconst 0, 1) := by decide +kernel
theorem dX11_reads_45 : decode cX11_reads 45 = .ok (.iaload, 1) := by decide +kernel
theorem dX11_reads_46 : decode cX11_reads 46 = .ok (.ineg, 1) := by decide +kernel
theorem dX11_reads_47 : decode cX11_reads 47 = .ok (.goto 9, 3) := by decide +kernel
theorem dX11_reads_50 : decode cX11_reads 50 = .ok (.aload_n 0, 1) := by decide +kernel
theorem dX11_reads_51 : decode cX11_reads 51 = .ok (.getfield 29, 3) := by decide +kernel
theorem dX11_reads_54 : decode cX11_reads 54 = .ok (.iconst 0, 1) := by decide +kernel
theorem dX11_reads_55 : decode cX11_reads 55 = .ok (.iaload, 1) := by decide +kernel
theorem dX11_reads_56 : decode cX11_reads 56 = .ok (.iastore, 1) := by decide +kernel
theorem dX11_reads_57 : decode cX11_reads 57 = .ok (.aload_n 0, 1) := by decide +kernel
theorem dX11_reads_58 : decode cX11_reads 58 = .ok (.iconst 1, 1) := by decide +kernel
theorem dX11_reads_59 : decode cX11_reads 59 = .ok (.putfield 187, 3) := by decide +kernel
theorem dX11_reads_62 : decode cX11_reads 62 = .ok (.aload_n 0, 1) := by decide +kernel
theorem dX11_reads_63 : decode cX11_reads 63 = .ok (.bipush 59, 2) := by decide +kernel
theorem dX11_reads_65 : decode cX11_reads 65 = .ok (.invokevirtual 197, 3) := by decide +kernel
theorem dX11_reads_68 : decode cX11_reads 68 = .ok (.ifCond .eq 10, 3) := by decide +kernel
theorem dX11_reads_71 : decode cX11_reads 71 = .ok (.aload_n 0, 1) := by decide +kernel
theorem dX11_reads_72 : decode cX11_reads 72 = .ok (.invokevirtual 200, 3) := by decide +kernel
theorem dX11_reads_75 : decode cX11_reads 75 = .ok (.ifCond .eq 7, 3) := by decide +kernel
theorem dX11_reads_78 : decode cX11_reads 78 = .ok (.iconst 1, 1) := by decide +kernel
theorem dX11_reads_79 : decode cX11_reads 79 = .ok (.goto 4, 3) := by decide +kernel
theorem dX11_reads_82 : decode cX11_reads 82 = .ok (.iconst 0, 1) := by decide +kernel
theorem dX11_reads_83 : decode cX11_reads 83 = .ok (.istore_n 2, 1) := by decide +kernel
theorem dX11_reads_84 : decode cX11_reads 84 = .ok (.iload_n 2, 1) := by decide +kernel
theorem dX11_reads_85 : decode cX11_reads 85 = .ok (.ifCond .eq 47, 3) := by decide +kernel
theorem dX11_reads_88 : decode cX11_reads 88 = .ok (.aload_n 0, 1) := by decide +kernel
theorem dX11_reads_89 : decode cX11_reads 89 = .ok (.getfield 187, 3) := by decide +kernel
theorem dX11_reads_92 : decode cX11_reads 92 = .ok (.iconst 1, 1) := by decide +kernel
theorem dX11_reads_93 : decode cX11_reads 93 = .ok (.if_icmp .le 39, 3) := by decide +kernel
theorem dX11_reads_96 : decode cX11_reads 96 = .ok (.aload_n 0, 1) := by decide +kernel
theorem dX11_reads_97 : decode cX11_reads 97 = .ok (.getfield 177, 3) := by decide +kernel
theorem dX11_reads_100 : decode cX11_reads 100 = .ok (.aload_n 0, 1) := by decide +kernel
theorem dX11_reads_101 : decode cX11_reads 101 = .ok (.getfield 180, 3) := by decide +kernel
theorem dX11_reads_104 : decode cX11_reads 104 = .ok (.if_icmp .ge 28, 3) := by decide +kernel
theorem dX11_reads_107 : decode cX11_reads 107 = .ok (.aload_n 0, 1) := by decide +kernel
theorem dX11_reads_108 : decode cX11_reads 108 = .ok (.bipush 44, 2) := by decide +kernel
theorem dX11_reads_110 : decode cX11_reads 110 = .ok (.invokevirtual 197, 3) := by decide +kernel
theorem dX11_reads_113 : decode cX11_reads 113 = .ok (.ifCond .eq 14, 3) := by decide +kernel
theorem dX11_reads_116 : decode cX11_reads 116 = .ok (.aload_n 0, 1) := by decide +kernel
theorem dX11_reads_117 : decode cX11_reads 117 = .ok (.invokevirtual 200, 3) := by decide +kernel
theorem dX11_reads_120 : decode cX11_reads 120 = .ok (.ifCond .eq 7, 3) := by decide +kernel
theorem dX11_reads_123 : decode cX11_reads 123 = .ok (.iconst 1, 1) := by decide +kernel
theorem dX11_reads_124 : decode cX11_reads 124 = .ok (.goto 4, 3) := by decide +kernel
theorem dX11_reads_127 : decode cX11_reads 127 = .ok (.iconst 0, 1) := by decide +kernel
theorem dX11_reads_128 : decode cX11_reads 128 = .ok (.istore_n 2, 1) := by decide +kernel
theorem dX11_reads_129 : decode cX11_reads 129 = .ok (.goto (-45), 3) := by decide +kernel
theorem dX11_reads_132 : decode cX11_reads 132 = .ok (.iload_n 2, 1) := by decide +kernel
theorem dX11_reads_133 : decode cX11_reads 133 = .ok (.ifCond .eq 18, 3) := by decide +kernel
theorem dX11_reads_136 : decode cX11_reads 136 = .ok (.aload_n 0, 1) := by decide +kernel
theorem dX11_reads_137 : decode cX11_reads 137 = .ok (.getfield 177, 3) := by decide +kernel
theorem dX11_reads_140 : decode cX11_reads 140 = .ok (.aload_n 0, 1) := by decide +kernel
theorem dX11_reads_141 : decode cX11_reads 141 = .ok (.getfield 180, 3) := by decide +kernel
theorem dX11_reads_144 : decode cX11_reads 144 = .ok (.if_icmp .ne 7, 3) := by decide +kernel
theorem dX11_reads_147 : decode cX11_reads 147 = .ok (.iconst 1, 1) := by decide +kernel
theorem dX11_reads_148 : decode cX11_reads 148 = .ok (.goto 4, 3) := by decide +kernel
theorem dX11_reads_151 : decode cX11_reads 151 = .ok (.iconst 0, 1) := by decide +kernel
theorem dX11_reads_152 : decode cX11_reads 152 = .ok (.ireturn, 1) := by decide +kernel
theorem dX11_fault_0 : decode cX11_fault 0 = .ok (.iload_n 1, 1) := by decide +kernel
theorem dX11_fault_1 : decode cX11_fault 1 = .ok (.i2l, 1) := by decide +kernel
theorem dX11_fault_2 : decode cX11_fault 2 = .ok (.lconst 0, 1) := by decide +kernel
theorem dX11_fault_3 : decode cX11_fault 3 = .ok (.lconst 1, 1) := by decide +kernel
theorem dX11_fault_4 : decode cX11_fault 4 = .ok (.invokestatic 44, 3) := by decide +kernel
theorem dX11_fault_7 : decode cX11_fault 7 = .ok (.ifCond .ne 6, 3) := by decide +kernel
theorem dX11_fault_10 : decode cX11_fault 10 = .ok (.ldc 50, 2) := by decide +kernel
theorem dX11_fault_12 : decode cX11_fault 12 = .ok (.ireturn, 1) := by decide +kernel
theorem dX11_fault_13 : decode cX11_fault 13 = .ok (.aload_n 0, 1) := by decide +kernel
theorem dX11_fault_14 : decode cX11_fault 14 = .ok (.invokevirtual 203, 3) := by decide +kernel
theorem dX11_fault_17 : decode cX11_fault 17 = .ok (.ifCond .eq 8, 3) := by decide +kernel
theorem dX11_fault_20 : decode cX11_fault 20 = .ok (.ldc 176, 2) := by decide +kernel
theorem dX11_fault_22 : decode cX11_fault 22 = .ok (.goto 18, 3) := by decide +kernel
theorem dX11_fault_25 : decode cX11_fault 25 = .ok (.iload_n 1, 1) := by decide +kernel
theorem dX11_fault_26 : decode cX11_fault 26 = .ok (.ifCond .ne 10, 3) := by decide +kernel
theorem dX11_fault_29 : decode cX11_fault 29 = .ok (.aload_n 0, 1) := by decide +kernel
theorem dX11_fault_30 : decode cX11_fault 30 = .ok (.getfield 177, 3) := by decide +kernel
theorem dX11_fault_33 : decode cX11_fault 33 = .ok (.goto 7, 3) := by decide +kernel
theorem dX11_fault_36 : decode cX11_fault 36 = .ok (.aload_n 0, 1) := by decide +kernel
theorem dX11_fault_37 : decode cX11_fault 37 = .ok (.getfield 194, 3) := by decide +kernel
theorem dX11_fault_40 : decode cX11_fault 40 = .ok (.ireturn, 1) := by decide +kernel
theorem dX11_tells_0 : decode cX11_tells 0 = .ok (.aload_n 0, 1) := by decide +kernel
theorem dX11_tells_1 : decode cX11_tells 1 = .ok (.invokevirtual 113, 3) := by decide +kernel
theorem dX11_tells_4 : decode cX11_tells 4 = .ok (.iconst 1, 1) := by decide +kernel
theorem dX11_tells_5 : decode cX11_tells 5 = .ok (.istore_n 1, 1) := by decide +kernel
theorem dX11_tells_6 : decode cX11_tells 6 = .ok (.iconst 0, 1) := by decide +kernel
theorem dX11_tells_7 : decode cX11_tells 7 = .ok (.istore_n 2, 1) := by decide +kernel
theorem dX11_tells_8 : decode cX11_tells 8 = .ok (.iload_n 2, 1) := by decide +kernel
theorem dX11_tells_9 : decode cX11_tells 9 = .ok (.aload_n 0, 1) := by decide +kernel
theorem dX11_tells_10 : decode cX11_tells 10 = .ok (.getfield 187, 3) := by decide +kernel
theorem dX11_tells_13 : decode cX11_tells 13 = .ok (.if_icmp .ge 25, 3) := by decide +kernel
theorem dX11_tells_16 : decode cX11_tells 16 = .ok (.iload_n 1, 1) := by decide +kernel
theorem dX11_tells_17 : decode cX11_tells 17 = .ok (.ifCond .eq 21, 3) := by decide +kernel
theorem dX11_tells_20 : decode cX11_tells 20 = .ok (.aload_n 0, 1) := by decide +kernel
theorem dX11_tells_21 : decode cX11_tells 21 = .ok (.aload_n 0, 1) := by decide +kernel
theorem dX11_tells_22 : decode cX11_tells 22 = .ok (.getfield 29, 3) := by decide +kernel
theorem dX11_tells_25 : decode cX11_tells 25 = .ok (.iload_n 2, 1) := by decide +kernel
theorem dX11_tells_26 : decode cX11_tells 26 = .ok (.iaload, 1) := by decide +kernel
theorem dX11_tells_27 : decode cX11_tells 27 = .ok (.i2l, 1) := by decide +kernel
theorem dX11_tells_28 : decode cX11_tells 28 = .ok (.invokevirtual 116, 3) := by decide +kernel
theorem dX11_tells_31 : decode cX11_tells 31 = .ok (.istore_n 1, 1) := by decide +kernel
theorem dX11_tells_32 : decode cX11_tells 32 = .ok (.iinc 2 1, 3) := by decide +kernel
theorem dX11_tells_35 : decode cX11_tells 35 = .ok (.goto (-27), 3) := by decide +kernel
theorem dX11_tells_38 : decode cX11_tells 38 = .ok (.iload_n 1, 1) := by decide +kernel
theorem dX11_tells_39 : decode cX11_tells 39 = .ok (.ireturn, 1) := by decide +kernel
theorem dX11_fits_0 : decode cX11_fits 0 = .ok (.aload_n 0, 1) := by decide +kernel
theorem dX11_fits_1 : decode cX11_fits 1 = .ok (.getfield 93, 3) := by decide +kernel
theorem dX11_fits_4 : decode cX11_fits 4 = .ok (.ldc2_w 206, 3) := by decide +kernel
theorem dX11_fits_7 : decode cX11_fits 7 = .ok (.ldc2_w 208, 3) := by decide +kernel
theorem dX11_fits_10 : decode cX11_fits 10 = .ok (.invokestatic 44, 3) := by decide +kernel
theorem dX11_fits_13 : decode cX11_fits 13 = .ok (.ifCond .eq 21, 3) := by decide +kernel
theorem dX11_fits_16 : decode cX11_fits 16 = .ok (.aload_n 0, 1) := by decide +kernel
theorem dX11_fits_17 : decode cX11_fits 17 = .ok (.getfield 97, 3) := by decide +kernel
theorem dX11_fits_20 : decode cX11_fits 20 = .ok (.lconst 1, 1) := by decide +kernel
theorem dX11_fits_21 : decode cX11_fits 21 = .ok (.ldc2_w 146, 3) := by decide +kernel
theorem dX11_fits_24 : decode cX11_fits 24 = .ok (.invokestatic 44, 3) := by decide +kernel
theorem dX11_fits_27 : decode cX11_fits 27 = .ok (.ifCond .eq 7, 3) := by decide +kernel
theorem dX11_fits_30 : decode cX11_fits 30 = .ok (.iconst 1, 1) := by decide +kernel
theorem dX11_fits_31 : decode cX11_fits 31 = .ok (.goto 4, 3) := by decide +kernel
theorem dX11_fits_34 : decode cX11_fits 34 = .ok (.iconst 0, 1) := by decide +kernel
theorem dX11_fits_35 : decode cX11_fits 35 = .ok (.ireturn, 1) := by decide +kernel
theorem dX11_alike_0 : decode cX11_alike 0 = .ok (.aload_n 0, 1) := by decide +kernel
theorem dX11_alike_1 : decode cX11_alike 1 = .ok (.invokevirtual 69, 3) := by decide +kernel
theorem dX11_alike_4 : decode cX11_alike 4 = .ok (.iconst 0, 1) := by decide +kernel
theorem dX11_alike_5 : decode cX11_alike 5 = .ok (.istore_n 1, 1) := by decide +kernel
theorem dX11_alike_6 : decode cX11_alike 6 = .ok (.iload_n 1, 1) := by decide +kernel
theorem dX11_alike_7 : decode cX11_alike 7 = .ok (.aload_n 0, 1) := by decide +kernel
theorem dX11_alike_8 : decode cX11_alike 8 = .ok (.getfield 187, 3) := by decide +kernel
theorem dX11_alike_11 : decode cX11_alike 11 = .ok (.if_icmp .ge 24, 3) := by decide +kernel
theorem dX11_alike_14 : decode cX11_alike 14 = .ok (.aload_n 0, 1) := by decide +kernel
theorem dX11_alike_15 : decode cX11_alike 15 = .ok (.getfield 29, 3) := by decide +kernel
theorem dX11_alike_18 : decode cX11_alike 18 = .ok (.iload_n 1, 1) := by decide +kernel
theorem dX11_alike_19 : decode cX11_alike 19 = .ok (.iaload, 1) := by decide +kernel
theorem dX11_alike_20 : decode cX11_alike 20 = .ok (.aload_n 0, 1) := by decide +kernel
theorem dX11_alike_21 : decode cX11_alike 21 = .ok (.getfield 19, 3) := by decide +kernel
theorem dX11_alike_24 : decode cX11_alike 24 = .ok (.iload_n 1, 1) := by decide +kernel
theorem dX11_alike_25 : decode cX11_alike 25 = .ok (.iaload, 1) := by decide +kernel
theorem dX11_alike_26 : decode cX11_alike 26 = .ok (.if_icmp .ne 9, 3) := by decide +kernel
theorem dX11_alike_29 : decode cX11_alike 29 = .ok (.iinc 1 1, 3) := by decide +kernel
theorem dX11_alike_32 : decode cX11_alike 32 = .ok (.goto (-26), 3) := by decide +kernel
theorem dX11_alike_35 : decode cX11_alike 35 = .ok (.iload_n 1, 1) := by decide +kernel
theorem dX11_alike_36 : decode cX11_alike 36 = .ok (.ireturn, 1) := by decide +kernel
theorem dX11_told_0 : decode cX11_told 0 = .ok (.iload_n 1, 1) := by decide +kernel
theorem dX11_told_1 : decode cX11_told 1 = .ok (.i2l, 1) := by decide +kernel
theorem dX11_told_2 : decode cX11_told 2 = .ok (.lconst 0, 1) := by decide +kernel
theorem dX11_told_3 : decode cX11_told 3 = .ok (.ldc2_w 75, 3) := by decide +kernel
theorem dX11_told_6 : decode cX11_told 6 = .ok (.invokestatic 44, 3) := by decide +kernel
theorem dX11_told_9 : decode cX11_told 9 = .ok (.ifCond .ne 7, 3) := by decide +kernel
theorem dX11_told_12 : decode cX11_told 12 = .ok (.ldc2_w 120, 3) := by decide +kernel
theorem dX11_told_15 : decode cX11_told 15 = .ok (.lreturn, 1) := by decide +kernel
theorem dX11_told_16 : decode cX11_told 16 = .ok (.aload_n 0, 1) := by decide +kernel
theorem dX11_told_17 : decode cX11_told 17 = .ok (.invokevirtual 203, 3) := by decide +kernel
theorem dX11_told_20 : decode cX11_told 20 = .ok (.ifCond .ne 7, 3) := by decide +kernel
theorem dX11_told_23 : decode cX11_told 23 = .ok (.ldc2_w 210, 3) := by decide +kernel
theorem dX11_told_26 : decode cX11_told 26 = .ok (.lreturn, 1) := by decide +kernel
theorem dX11_told_27 : decode cX11_told 27 = .ok (.iload_n 1, 1) := by decide +kernel
theorem dX11_told_28 : decode cX11_told 28 = .ok (.iconst 2, 1) := by decide +kernel
theorem dX11_told_29 : decode cX11_told 29 = .ok (.if_icmp .eq 8, 3) := by decide +kernel
theorem dX11_told_32 : decode cX11_told 32 = .ok (.iload_n 1, 1) := by decide +kernel
theorem dX11_told_33 : decode cX11_told 33 = .ok (.iconst 3, 1) := by decide +kernel
theorem dX11_told_34 : decode cX11_told 34 = .ok (.if_icmp .ne 22, 3) := by decide +kernel
theorem dX11_told_37 : decode cX11_told 37 = .ok (.iload_n 1, 1) := by decide +kernel
theorem dX11_told_38 : decode cX11_told 38 = .ok (.iconst 2, 1) := by decide +kernel
theorem dX11_told_39 : decode cX11_told 39 = .ok (.if_icmp .ne 11, 3) := by decide +kernel
theorem dX11_told_42 : decode cX11_told 42 = .ok (.aload_n 0, 1) := by decide +kernel
theorem dX11_told_43 : decode cX11_told 43 = .ok (.getfield 187, 3) := by decide +kernel
theorem dX11_told_46 : decode cX11_told 46 = .ok (.i2l, 1) := by decide +kernel
theorem dX11_told_47 : decode cX11_told 47 = .ok (.goto 8, 3) := by decide +kernel
theorem dX11_told_50 : decode cX11_told 50 = .ok (.aload_n 0, 1) := by decide +kernel
theorem dX11_told_51 : decode cX11_told 51 = .ok (.invokevirtual 212, 3) := by decide +kernel
theorem dX11_told_54 : decode cX11_told 54 = .ok (.i2l, 1) := by decide +kernel
theorem dX11_told_55 : decode cX11_told 55 = .ok (.lreturn, 1) := by decide +kernel
theorem dX11_told_56 : decode cX11_told 56 = .ok (.aload_n 0, 1) := by decide +kernel
theorem dX11_told_57 : decode cX11_told 57 = .ok (.invokevirtual 215, 3) := by decide +kernel
theorem dX11_told_60 : decode cX11_told 60 = .ok (.ifCond .eq 15, 3) := by decide +kernel
theorem dX11_told_63 : decode cX11_told 63 = .ok (.iload_n 1, 1) := by decide +kernel
theorem dX11_told_64 : decode cX11_told 64 = .ok (.iconst 4, 1) := by decide +kernel
theorem dX11_told_65 : decode cX11_told 65 = .ok (.if_icmp .ne 14, 3) := by decide +kernel
theorem dX11_told_68 : decode cX11_told 68 = .ok (.aload_n 0, 1) := by decide +kernel
theorem dX11_told_69 : decode cX11_told 69 = .ok (.invokevirtual 218, 3) := by decide +kernel
theorem dX11_told_72 : decode cX11_told 72 = .ok (.ifCond .ne 7, 3) := by decide +kernel
theorem dX11_told_75 : decode cX11_told 75 = .ok (.ldc2_w 125, 3) := by decide +kernel
theorem dX11_told_78 : decode cX11_told 78 = .ok (.lreturn, 1) := by decide +kernel
theorem dX11_told_79 : decode cX11_told 79 = .ok (.iload_n 1, 1) := by decide +kernel
theorem dX11_told_80 : decode cX11_told 80 = .ok (.ifCond .ne 14, 3) := by decide +kernel
theorem dX11_told_83 : decode cX11_told 83 = .ok (.aload_n 0, 1) := by decide +kernel
theorem dX11_told_84 : decode cX11_told 84 = .ok (.getfield 93, 3) := by decide +kernel
theorem dX11_told_87 : decode cX11_told 87 = .ok (.ldc2_w 111, 3) := by decide +kernel
theorem dX11_told_90 : decode cX11_told 90 = .ok (.ladd, 1) := by decide +kernel
theorem dX11_told_91 : decode cX11_told 91 = .ok (.goto 35, 3) := by decide +kernel
theorem dX11_told_94 : decode cX11_told 94 = .ok (.iload_n 1, 1) := by decide +kernel
theorem dX11_told_95 : decode cX11_told 95 = .ok (.iconst 1, 1) := by decide +kernel
theorem dX11_told_96 : decode cX11_told 96 = .ok (.if_icmp .ne 10, 3) := by decide +kernel
theorem dX11_told_99 : decode cX11_told 99 = .ok (.aload_n 0, 1) := by decide +kernel
theorem dX11_told_100 : decode cX11_told 100 = .ok (.getfield 97, 3) := by decide +kernel
theorem dX11_told_103 : decode cX11_told 103 = .ok (.goto 23, 3) := by decide +kernel
theorem dX11_told_106 : decode cX11_told 106 = .ok (.aload_n 0, 1) := by decide +kernel
theorem dX11_told_107 : decode cX11_told 107 = .ok (.aload_n 0, 1) := by decide +kernel
theorem dX11_told_108 : decode cX11_told 108 = .ok (.getfield 93, 3) := by decide +kernel
theorem dX11_told_111 : decode cX11_told 111 = .ok (.aload_n 0, 1) := by decide +kernel
theorem dX11_told_112 : decode cX11_told 112 = .ok (.getfield 97, 3) := by decide +kernel
theorem dX11_told_115 : decode cX11_told 115 = .ok (.invokevirtual 127, 3) := by decide +kernel
theorem dX11_told_118 : decode cX11_told 118 = .ok (.ifCond .eq 7, 3) := by decide +kernel
theorem dX11_told_121 : decode cX11_told 121 = .ok (.lconst 0, 1) := by decide +kernel
theorem dX11_told_122 : decode cX11_told 122 = .ok (.goto 4, 3) := by decide +kernel
theorem dX11_told_125 : decode cX11_told 125 = .ok (.lconst 1, 1) := by decide +kernel
theorem dX11_told_126 : decode cX11_told 126 = .ok (.lreturn, 1) := by decide +kernel
theorem dX11_upOf_0 : decode cX11_upOf 0 = .ok (.aload_n 0, 1) := by decide +kernel
theorem dX11_upOf_1 : decode cX11_upOf 1 = .ok (.getfield 7, 3) := by decide +kernel
theorem dX11_upOf_4 : decode cX11_upOf 4 = .ok (.iconst 4, 1) := by decide +kernel
theorem dX11_upOf_5 : decode cX11_upOf 5 = .ok (.iconst 2, 1) := by decide +kernel
theorem dX11_upOf_6 : decode cX11_upOf 6 = .ok (.iload_n 1, 1) := by decide +kernel
theorem dX11_upOf_7 : decode cX11_upOf 7 = .ok (.imul, 1) := by decide +kernel
theorem dX11_upOf_8 : decode cX11_upOf 8 = .ok (.iadd, 1) := by decide +kernel
theorem dX11_upOf_9 : decode cX11_upOf 9 = .ok (.iaload, 1) := by decide +kernel
theorem dX11_upOf_10 : decode cX11_upOf 10 = .ok (.ireturn, 1) := by decide +kernel
theorem dX11_lowOf_0 : decode cX11_lowOf 0 = .ok (.aload_n 0, 1) := by decide +kernel
theorem dX11_lowOf_1 : decode cX11_lowOf 1 = .ok (.getfield 7, 3) := by decide +kernel
theorem dX11_lowOf_4 : decode cX11_lowOf 4 = .ok (.iconst 4, 1) := by decide +kernel
theorem dX11_lowOf_5 : decode cX11_lowOf 5 = .ok (.iconst 2, 1) := by decide +kernel
theorem dX11_lowOf_6 : decode cX11_lowOf 6 = .ok (.iload_n 1, 1) := by decide +kernel
theorem dX11_lowOf_7 : decode cX11_lowOf 7 = .ok (.imul, 1) := by decide +kernel
theorem dX11_lowOf_8 : decode cX11_lowOf 8 = .ok (.iadd, 1) := by decide +kernel
theorem dX11_lowOf_9 : decode cX11_lowOf 9 = .ok (.iconst 1, 1) := by decide +kernel
theorem dX11_lowOf_10 : decode cX11_lowOf 10 = .ok (.iadd, 1) := by decide +kernel
theorem dX11_lowOf_11 : decode cX11_lowOf 11 = .ok (.iaload, 1) := by decide +kernel
theorem dX11_lowOf_12 : decode cX11_lowOf 12 = .ok (.ireturn, 1) := by decide +kernel
theorem dX11_placeOf_0 : decode cX11_placeOf 0 = .ok (.iconst 0, 1) := by decide +kernel
theorem dX11_placeOf_1 : decode cX11_placeOf 1 = .ok (.istore_n 2, 1) := by decide +kernel
theorem dX11_placeOf_2 : decode cX11_placeOf 2 = .ok (.iconst 0, 1) := by decide +kernel
theorem dX11_placeOf_3 : decode cX11_placeOf 3 = .ok (.istore_n 3, 1) := by decide +kernel
theorem dX11_placeOf_4 : decode cX11_placeOf 4 = .ok (.iload_n 3, 1) := by decide +kernel
theorem dX11_placeOf_5 : decode cX11_placeOf 5 = .ok (.aload_n 0, 1) := by decide +kernel
theorem dX11_placeOf_6 : decode cX11_placeOf 6 = .ok (.getfield 7, 3) := by decide +kernel
theorem dX11_placeOf_9 : decode cX11_placeOf 9 = .ok (.iconst 3, 1) := by decide +kernel
theorem dX11_placeOf_10 : decode cX11_placeOf 10 = .ok (.iaload, 1) := by decide +kernel
theorem dX11_placeOf_11 : decode cX11_placeOf 11 = .ok (.if_icmp .ge 53, 3) := by decide +kernel
theorem dX11_placeOf_14 : decode cX11_placeOf 14 = .ok (.iload_n 2, 1) := by decide +kernel
theorem dX11_placeOf_15 : decode cX11_placeOf 15 = .ok (.iload_n 3, 1) := by decide +kernel
theorem dX11_placeOf_16 : decode cX11_placeOf 16 = .ok (.iload_n 1, 1) := by decide +kernel
theorem dX11_placeOf_17 : decode cX11_placeOf 17 = .ok (.if_icmp .eq 38, 3) := by decide +kernel
theorem dX11_placeOf_20 : decode cX11_placeOf 20 = .ok (.aload_n 0, 1) := by decide +kernel
theorem dX11_placeOf_21 : decode cX11_placeOf 21 = .ok (.aload_n 0, 1) := by decide +kernel
theorem dX11_placeOf_22 : decode cX11_placeOf 22 = .ok (.iload_n 3, 1) := by decide +kernel
theorem dX11_placeOf_23 : decode cX11_placeOf 23 = .ok (.invokevirtual 221, 3) := by decide +kernel
theorem dX11_placeOf_26 : decode cX11_placeOf 26 = .ok (.i2l, 1) := by decide +kernel
theorem dX11_placeOf_27 : decode cX11_placeOf 27 = .ok (.aload_n 0, 1) := by decide +kernel
theorem dX11_placeOf_28 : decode cX11_placeOf 28 = .ok (.iload_n 3, 1) := by decide +kernel
theorem dX11_placeOf_29 : decode cX11_placeOf 29 = .ok (.invokevirtual 224, 3) := by decide +kernel
theorem dX11_placeOf_32 : decode cX11_placeOf 32 = .ok (.i2l, 1) := by decide +kernel
theorem dX11_placeOf_33 : decode cX11_placeOf 33 = .ok (.aload_n 0, 1) := by decide +kernel
theorem dX11_placeOf_34 : decode cX11_placeOf 34 = .ok (.iload_n 1, 1) := by decide +kernel
theorem dX11_placeOf_35 : decode cX11_placeOf 35 = .ok (.invokevirtual 221, 3) := by decide +kernel
theorem dX11_placeOf_38 : decode cX11_placeOf 38 = .ok (.i2l, 1) := by decide +kernel
theorem dX11_placeOf_39 : decode cX11_placeOf 39 = .ok (.aload_n 0, 1) := by decide +kernel
theorem dX11_placeOf_40 : decode cX11_placeOf 40 = .ok (.iload_n 1, 1) := by decide +kernel
theorem dX11_placeOf_41 : decode cX11_placeOf 41 = .ok (.invokevirtual 224, 3) := by decide +kernel
theorem dX11_placeOf_44 : decode cX11_placeOf 44 = .ok (.i2l, 1) := by decide +kernel
theorem dX11_placeOf_45 : decode cX11_placeOf 45 = .ok (.invokevirtual 135, 3) := by decide +kernel
theorem dX11_placeOf_48 : decode cX11_placeOf 48 = .ok (.ifCond .eq 7, 3) := by decide +kernel
theorem dX11_placeOf_51 : decode cX11_placeOf 51 = .ok (.iconst 1, 1) := by decide +kernel
theorem dX11_placeOf_52 : decode cX11_placeOf 52 = .ok (.goto 4, 3) := by decide +kernel
theorem dX11_placeOf_55 : decode cX11_placeOf 55 = .ok (.iconst 0, 1) := by decide +kernel
theorem dX11_placeOf_56 : decode cX11_placeOf 56 = .ok (.iadd, 1) := by decide +kernel
theorem dX11_placeOf_57 : decode cX11_placeOf 57 = .ok (.istore_n 2, 1) := by decide +kernel
theorem dX11_placeOf_58 : decode cX11_placeOf 58 = .ok (.iinc 3 1, 3) := by decide +kernel
theorem dX11_placeOf_61 : decode cX11_placeOf 61 = .ok (.goto (-57), 3) := by decide +kernel
theorem dX11_placeOf_64 : decode cX11_placeOf 64 = .ok (.iload_n 2, 1) := by decide +kernel
theorem dX11_placeOf_65 : decode cX11_placeOf 65 = .ok (.ireturn, 1) := by decide +kernel
theorem dX11_at_0 : decode cX11_at 0 = .ok (.ldc 176, 2) := by decide +kernel
theorem dX11_at_2 : decode cX11_at 2 = .ok (.istore_n 2, 1) := by decide +kernel
theorem dX11_at_3 : decode cX11_at 3 = .ok (.iconst 0, 1) := by decide +kernel
theorem dX11_at_4 : decode cX11_at 4 = .ok (.istore_n 3, 1) := by decide +kernel
theorem dX11_at_5 : decode cX11_at 5 = .ok (.iload_n 3, 1) := by decide +kernel
theorem dX11_at_6 : decode cX11_at 6 = .ok (.aload_n 0, 1) := by decide +kernel
theorem dX11_at_7 : decode cX11_at 7 = .ok (.getfield 7, 3) := by decide +kernel
theorem dX11_at_10 : decode cX11_at 10 = .ok (.iconst 3, 1) := by decide +kernel
theorem dX11_at_11 : decode cX11_at 11 = .ok (.iaload, 1) := by decide +kernel
theorem dX11_at_12 : decode cX11_at 12 = .ok (.if_icmp .ge 24, 3) := by decide +kernel
theorem dX11_at_15 : decode cX11_at 15 = .ok (.aload_n 0, 1) := by decide +kernel
theorem dX11_at_16 : decode cX11_at 16 = .ok (.iload_n 3, 1) := by decide +kernel
theorem dX11_at_17 : decode cX11_at 17 = .ok (.invokevirtual 227, 3) := by decide +kernel
theorem dX11_at_20 : decode cX11_at 20 = .ok (.iload_n 1, 1) := by decide +kernel
theorem dX11_at_21 : decode cX11_at 21 = .ok (.if_icmp .ne 7, 3) := by decide +kernel
theorem dX11_at_24 : decode cX11_at 24 = .ok (.iload_n 3, 1) := by decide +kernel
theorem dX11_at_25 : decode cX11_at 25 = .ok (.goto 4, 3) := by decide +kernel
theorem dX11_at_28 : decode cX11_at 28 = .ok (.iload_n 2, 1) := by decide +kernel
theorem dX11_at_29 : decode cX11_at 29 = .ok (.istore_n 2, 1) := by decide +kernel
theorem dX11_at_30 : decode cX11_at 30 = .ok (.iinc 3 1, 3) := by decide +kernel
theorem dX11_at_33 : decode cX11_at 33 = .ok (.goto (-28), 3) := by decide +kernel
theorem dX11_at_36 : decode cX11_at 36 = .ok (.iload_n 2, 1) := by decide +kernel
theorem dX11_at_37 : decode cX11_at 37 = .ok (.ireturn, 1) := by decide +kernel
theorem dX11_isNoted_0 : decode cX11_isNoted 0 = .ok (.iconst 0, 1) := by decide +kernel
theorem dX11_isNoted_1 : decode cX11_isNoted 1 = .ok (.istore 5, 2) := by decide +kernel
theorem dX11_isNoted_3 : decode cX11_isNoted 3 = .ok (.iconst 0, 1) := by decide +kernel
theorem dX11_isNoted_4 : decode cX11_isNoted 4 = .ok (.istore 6, 2) := by decide +kernel
theorem dX11_isNoted_6 : decode cX11_isNoted 6 = .ok (.iload 6, 2) := by decide +kernel
theorem dX11_isNoted_8 : decode cX11_isNoted 8 = .ok (.aload_n 0, 1) := by decide +kernel
theorem dX11_isNoted_9 : decode cX11_isNoted 9 = .ok (.getfield 7, 3) := by decide +kernel
theorem dX11_isNoted_12 : decode cX11_isNoted 12 = .ok (.iconst 3, 1) := by decide +kernel
theorem dX11_isNoted_13 : decode cX11_isNoted 13 = .ok (.iaload, 1) := by decide +kernel
theorem dX11_isNoted_14 : decode cX11_isNoted 14 = .ok (.if_icmp .ge 45, 3) := by decide +kernel
theorem dX11_isNoted_17 : decode cX11_isNoted 17 = .ok (.iload 5, 2) := by decide +kernel
theorem dX11_isNoted_19 : decode cX11_isNoted 19 = .ok (.ifCond .ne 27, 3) := by decide +kernel
theorem dX11_isNoted_22 : decode cX11_isNoted 22 = .ok (.aload_n 0, 1) := by decide +kernel
theorem dX11_isNoted_23 : decode cX11_isNoted 23 = .ok (.iload 6, 2) := by decide +kernel
theorem dX11_isNoted_25 : decode cX11_isNoted 25 = .ok (.invokevirtual 221, 3) := by decide +kernel
theorem dX11_isNoted_28 : decode cX11_isNoted 28 = .ok (.i2l, 1) := by decide +kernel
theorem dX11_isNoted_29 : decode cX11_isNoted 29 = .ok (.lload_n 1, 1) := by decide +kernel
theorem dX11_isNoted_30 : decode cX11_isNoted 30 = .ok (.lcmp, 1) := by decide +kernel
theorem dX11_isNoted_31 : decode cX11_isNoted 31 = .ok (.ifCond .ne 19, 3) := by decide +kernel
theorem dX11_isNoted_34 : decode cX11_isNoted 34 = .ok (.aload_n 0, 1) := by decide +kernel
theorem dX11_isNoted_35 : decode cX11_isNoted 35 = .ok (.iload 6, 2) := by decide +kernel
theorem dX11_isNoted_37 : decode cX11_isNoted 37 = .ok (.invokevirtual 224, 3) := by decide +kernel
theorem dX11_isNoted_40 : decode cX11_isNoted 40 = .ok (.i2l, 1) := by decide +kernel
theorem dX11_isNoted_41 : decode cX11_isNoted 41 = .ok (.lload_n 3, 1) := by decide +kernel
theorem dX11_isNoted_42 : decode cX11_isNoted 42 = .ok (.lcmp, 1) := by decide +kernel
theorem dX11_isNoted_43 : decode cX11_isNoted 43 = .ok (.ifCond .ne 7, 3) := by decide +kernel
theorem dX11_isNoted_46 : decode cX11_isNoted 46 = .ok (.iconst 1, 1) := by decide +kernel
theorem dX11_isNoted_47 : decode cX11_isNoted 47 = .ok (.goto 4, 3) := by decide +kernel
theorem dX11_isNoted_50 : decode cX11_isNoted 50 = .ok (.iconst 0, 1) := by decide +kernel
theorem dX11_isNoted_51 : decode cX11_isNoted 51 = .ok (.istore 5, 2) := by decide +kernel
theorem dX11_isNoted_53 : decode cX11_isNoted 53 = .ok (.iinc 6 1, 3) := by decide +kernel
theorem dX11_isNoted_56 : decode cX11_isNoted 56 = .ok (.goto (-50), 3) := by decide +kernel
theorem dX11_isNoted_59 : decode cX11_isNoted 59 = .ok (.iload 5, 2) := by decide +kernel
theorem dX11_isNoted_61 : decode cX11_isNoted 61 = .ok (.ireturn, 1) := by decide +kernel
theorem dX11_note_0 : decode cX11_note 0 = .ok (.aload_n 0, 1) := by decide +kernel
theorem dX11_note_1 : decode cX11_note 1 = .ok (.invokevirtual 203, 3) := by decide +kernel
theorem dX11_note_4 : decode cX11_note 4 = .ok (.ifCond .eq 32, 3) := by decide +kernel
theorem dX11_note_7 : decode cX11_note 7 = .ok (.aload_n 0, 1) := by decide +kernel
theorem dX11_note_8 : decode cX11_note 8 = .ok (.invokevirtual 215, 3) := by decide +kernel
theorem dX11_note_11 : decode cX11_note 11 = .ok (.ifCond .eq 25, 3) := by decide +kernel
theorem dX11_note_14 : decode cX11_note 14 = .ok (.aload_n 0, 1) := by decide +kernel
theorem dX11_note_15 : decode cX11_note 15 = .ok (.invokevirtual 218, 3) := by decide +kernel
theorem dX11_note_18 : decode cX11_note 18 = .ok (.ifCond .eq 18, 3) := by decide +kernel
theorem dX11_note_21 : decode cX11_note 21 = .ok (.aload_n 0, 1) := by decide +kernel
theorem dX11_note_22 : decode cX11_note 22 = .ok (.aload_n 0, 1) := by decide +kernel
theorem dX11_note_23 : decode cX11_note 23 = .ok (.getfield 93, 3) := by decide +kernel
theorem dX11_note_26 : decode cX11_note 26 = .ok (.aload_n 0, 1) := by decide +kernel
theorem dX11_note_27 : decode cX11_note 27 = .ok (.getfield 97, 3) := by decide +kernel
theorem dX11_note_30 : decode cX11_note 30 = .ok (.invokevirtual 230, 3) := by decide +kernel
theorem dX11_note_33 : decode cX11_note 33 = .ok (.ifCond .eq 6, 3) := by decide +kernel
theorem dX11_note_36 : decode cX11_note 36 = .ok (.ldc 55, 2) := by decide +kernel
theorem dX11_note_38 : decode cX11_note 38 = .ok (.ireturn, 1) := by decide +kernel
theorem dX11_note_39 : decode cX11_note 39 = .ok (.aload_n 0, 1) := by decide +kernel
theorem dX11_note_40 : decode cX11_note 40 = .ok (.getfield 7, 3) := by decide +kernel
theorem dX11_note_43 : decode cX11_note 43 = .ok (.iconst 3, 1) := by decide +kernel
theorem dX11_note_44 : decode cX11_note 44 = .ok (.iaload, 1) := by decide +kernel
theorem dX11_note_45 : decode cX11_note 45 = .ok (.bipush 8, 2) := by decide +kernel
theorem dX11_note_47 : decode cX11_note 47 = .ok (.if_icmp .ne 6, 3) := by decide +kernel
theorem dX11_note_50 : decode cX11_note 50 = .ok (.ldc 81, 2) := by decide +kernel
theorem dX11_note_52 : decode cX11_note 52 = .ok (.ireturn, 1) := by decide +kernel
theorem dX11_note_53 : decode cX11_note 53 = .ok (.aload_n 0, 1) := by decide +kernel
theorem dX11_note_54 : decode cX11_note 54 = .ok (.invokevirtual 56, 3) := by decide +kernel
theorem dX11_note_57 : decode cX11_note 57 = .ok (.aload_n 0, 1) := by decide +kernel
theorem dX11_note_58 : decode cX11_note 58 = .ok (.getfield 7, 3) := by decide +kernel
theorem dX11_note_61 : decode cX11_note 61 = .ok (.iconst 4, 1) := by decide +kernel
theorem dX11_note_62 : decode cX11_note 62 = .ok (.iconst 2, 1) := by decide +kernel
theorem dX11_note_63 : decode cX11_note 63 = .ok (.aload_n 0, 1) := by decide +kernel
theorem dX11_note_64 : decode cX11_note 64 = .ok (.getfield 7, 3) := by decide +kernel
theorem dX11_note_67 : decode cX11_note 67 = .ok (.iconst 3, 1) := by decide +kernel
theorem dX11_note_68 : decode cX11_note 68 = .ok (.iaload, 1) := by decide +kernel
theorem dX11_note_69 : decode cX11_note 69 = .ok (.imul, 1) := by decide +kernel
theorem dX11_note_70 : decode cX11_note 70 = .ok (.iadd, 1) := by decide +kernel
theorem dX11_note_71 : decode cX11_note 71 = .ok (.aload_n 0, 1) := by decide +kernel
theorem dX11_note_72 : decode cX11_note 72 = .ok (.getfield 93, 3) := by decide +kernel
theorem dX11_note_75 : decode cX11_note 75 = .ok (.l2i, 1) := by decide +kernel
theorem dX11_note_76 : decode cX11_note 76 = .ok (.iastore, 1) := by decide +kernel
theorem dX11_note_77 : decode cX11_note 77 = .ok (.aload_n 0, 1) := by decide +kernel
theorem dX11_note_78 : decode cX11_note 78 = .ok (.getfield 7, 3) := by decide +kernel
theorem dX11_note_81 : decode cX11_note 81 = .ok (.iconst 4, 1) := by decide +kernel
theorem dX11_note_82 : decode cX11_note 82 = .ok (.iconst 2, 1) := by decide +kernel
theorem dX11_note_83 : decode cX11_note 83 = .ok (.aload_n 0, 1) := by decide +kernel
theorem dX11_note_84 : decode cX11_note 84 = .ok (.getfield 7, 3) := by decide +kernel
theorem dX11_note_87 : decode cX11_note 87 = .ok (.iconst 3, 1) := by decide +kernel
theorem dX11_note_88 : decode cX11_note 88 = .ok (.iaload, 1) := by decide +kernel
theorem dX11_note_89 : decode cX11_note 89 = .ok (.imul, 1) := by decide +kernel
theorem dX11_note_90 : decode cX11_note 90 = .ok (.iadd, 1) := by decide +kernel
theorem dX11_note_91 : decode cX11_note 91 = .ok (.iconst 1, 1) := by decide +kernel
theorem dX11_note_92 : decode cX11_note 92 = .ok (.iadd, 1) := by decide +kernel
theorem dX11_note_93 : decode cX11_note 93 = .ok (.aload_n 0, 1) := by decide +kernel
theorem dX11_note_94 : decode cX11_note 94 = .ok (.getfield 97, 3) := by decide +kernel
theorem dX11_note_97 : decode cX11_note 97 = .ok (.l2i, 1) := by decide +kernel
theorem dX11_note_98 : decode cX11_note 98 = .ok (.iastore, 1) := by decide +kernel
theorem dX11_note_99 : decode cX11_note 99 = .ok (.aload_n 0, 1) := by decide +kernel
theorem dX11_note_100 : decode cX11_note 100 = .ok (.getfield 7, 3) := by decide +kernel
theorem dX11_note_103 : decode cX11_note 103 = .ok (.iconst 3, 1) := by decide +kernel
theorem dX11_note_104 : decode cX11_note 104 = .ok (.dup2, 1) := by decide +kernel
theorem dX11_note_105 : decode cX11_note 105 = .ok (.iaload, 1) := by decide +kernel
theorem dX11_note_106 : decode cX11_note 106 = .ok (.iconst 1, 1) := by decide +kernel
theorem dX11_note_107 : decode cX11_note 107 = .ok (.iadd, 1) := by decide +kernel
theorem dX11_note_108 : decode cX11_note 108 = .ok (.iastore, 1) := by decide +kernel
theorem dX11_note_109 : decode cX11_note 109 = .ok (.aload_n 0, 1) := by decide +kernel
theorem dX11_note_110 : decode cX11_note 110 = .ok (.aload_n 0, 1) := by decide +kernel
theorem dX11_note_111 : decode cX11_note 111 = .ok (.getfield 7, 3) := by decide +kernel
theorem dX11_note_114 : decode cX11_note 114 = .ok (.iconst 3, 1) := by decide +kernel
theorem dX11_note_115 : decode cX11_note 115 = .ok (.iaload, 1) := by decide +kernel
theorem dX11_note_116 : decode cX11_note 116 = .ok (.iconst 1, 1) := by decide +kernel
theorem dX11_note_117 : decode cX11_note 117 = .ok (.isub, 1) := by decide +kernel
theorem dX11_note_118 : decode cX11_note 118 = .ok (.invokevirtual 227, 3) := by decide +kernel
theorem dX11_note_121 : decode cX11_note 121 = .ok (.ireturn, 1) := by decide +kernel
theorem dX11_strike_0 : decode cX11_strike 0 = .ok (.iload_n 1, 1) := by decide +kernel
theorem dX11_strike_1 : decode cX11_strike 1 = .ok (.ifCond .ge 6, 3) := by decide +kernel
theorem dX11_strike_4 : decode cX11_strike 4 = .ok (.ldc 50, 2) := by decide +kernel
theorem dX11_strike_6 : decode cX11_strike 6 = .ok (.ireturn, 1) := by decide +kernel
theorem dX11_strike_7 : decode cX11_strike 7 = .ok (.aload_n 0, 1) := by decide +kernel
theorem dX11_strike_8 : decode cX11_strike 8 = .ok (.iload_n 1, 1) := by decide +kernel
theorem dX11_strike_9 : decode cX11_strike 9 = .ok (.invokevirtual 233, 3) := by decide +kernel
theorem dX11_strike_12 : decode cX11_strike 12 = .ok (.istore_n 2, 1) := by decide +kernel
theorem dX11_strike_13 : decode cX11_strike 13 = .ok (.iload_n 2, 1) := by decide +kernel
theorem dX11_strike_14 : decode cX11_strike 14 = .ok (.ifCond .ge 6, 3) := by decide +kernel
theorem dX11_strike_17 : decode cX11_strike 17 = .ok (.ldc 55, 2) := by decide +kernel
theorem dX11_strike_19 : decode cX11_strike 19 = .ok (.ireturn, 1) := by decide +kernel
theorem dX11_strike_20 : decode cX11_strike 20 = .ok (.aload_n 0, 1) := by decide +kernel
theorem dX11_strike_21 : decode cX11_strike 21 = .ok (.invokevirtual 56, 3) := by decide +kernel
theorem dX11_strike_24 : decode cX11_strike 24 = .ok (.aload_n 0, 1) := by decide +kernel
theorem dX11_strike_25 : decode cX11_strike 25 = .ok (.getfield 7, 3) := by decide +kernel
theorem dX11_strike_28 : decode cX11_strike 28 = .ok (.iconst 3, 1) := by decide +kernel
theorem dX11_strike_29 : decode cX11_strike 29 = .ok (.dup2, 1) := by decide +kernel
theorem dX11_strike_30 : decode cX11_strike 30 = .ok (.iaload, 1) := by decide +kernel
theorem dX11_strike_31 : decode cX11_strike 31 = .ok (.iconst 1, 1) := by decide +kernel
theorem dX11_strike_32 : decode cX11_strike 32 = .ok (.isub, 1) := by decide +kernel
theorem dX11_strike_33 : decode cX11_strike 33 = .ok (.iastore, 1) := by decide +kernel
theorem dX11_strike_34 : decode cX11_strike 34 = .ok (.iconst 4, 1) := by decide +kernel
theorem dX11_strike_35 : decode cX11_strike 35 = .ok (.iconst 2, 1) := by decide +kernel
theorem dX11_strike_36 : decode cX11_strike 36 = .ok (.iload_n 2, 1) := by decide +kernel
theorem dX11_strike_37 : decode cX11_strike 37 = .ok (.imul, 1) := by decide +kernel
theorem dX11_strike_38 : decode cX11_strike 38 = .ok (.iadd, 1) := by decide +kernel
theorem dX11_strike_39 : decode cX11_strike 39 = .ok (.istore_n 3, 1) := by decide +kernel
theorem dX11_strike_40 : decode cX11_strike 40 = .ok (.iload_n 3, 1) := by decide +kernel
theorem dX11_strike_41 : decode cX11_strike 41 = .ok (.iconst 4, 1) := by decide +kernel
theorem dX11_strike_42 : decode cX11_strike 42 = .ok (.iconst 2, 1) := by decide +kernel
theorem dX11_strike_43 : decode cX11_strike 43 = .ok (.aload_n 0, 1) := by decide +kernel
theorem dX11_strike_44 : decode cX11_strike 44 = .ok (.getfield 7, 3) := by decide +kernel
theorem dX11_strike_47 : decode cX11_strike 47 = .ok (.iconst 3, 1) := by decide +kernel
theorem dX11_strike_48 : decode cX11_strike 48 = .ok (.iaload, 1) := by decide +kernel
theorem dX11_strike_49 : decode cX11_strike 49 = .ok (.imul, 1) := by decide +kernel
theorem dX11_strike_50 : decode cX11_strike 50 = .ok (.iadd, 1) := by decide +kernel
theorem dX11_strike_51 : decode cX11_strike 51 = .ok (.if_icmp .ge 23, 3) := by decide +kernel
theorem dX11_strike_54 : decode cX11_strike 54 = .ok (.aload_n 0, 1) := by decide +kernel
theorem dX11_strike_55 : decode cX11_strike 55 = .ok (.getfield 7, 3) := by decide +kernel
theorem dX11_strike_58 : decode cX11_strike 58 = .ok (.iload_n 3, 1) := by decide +kernel
theorem dX11_strike_59 : decode cX11_strike 59 = .ok (.aload_n 0, 1) := by decide +kernel
theorem dX11_strike_60 : decode cX11_strike 60 = .ok (.getfield 7, 3) := by decide +kernel
theorem dX11_strike_63 : decode cX11_strike 63 = .ok (.iload_n 3, 1) := by decide +kernel
theorem dX11_strike_64 : decode cX11_strike 64 = .ok (.iconst 2, 1) := by decide +kernel
theorem dX11_strike_65 : decode cX11_strike 65 = .ok (.iadd, 1) := by decide +kernel
theorem dX11_strike_66 : decode cX11_strike 66 = .ok (.iaload, 1) := by decide +kernel
theorem dX11_strike_67 : decode cX11_strike 67 = .ok (.iastore, 1) := by decide +kernel
theorem dX11_strike_68 : decode cX11_strike 68 = .ok (.iinc 3 1, 3) := by decide +kernel
theorem dX11_strike_71 : decode cX11_strike 71 = .ok (.goto (-31), 3) := by decide +kernel
theorem dX11_strike_74 : decode cX11_strike 74 = .ok (.aload_n 0, 1) := by decide +kernel
theorem dX11_strike_75 : decode cX11_strike 75 = .ok (.getfield 7, 3) := by decide +kernel
theorem dX11_strike_78 : decode cX11_strike 78 = .ok (.iconst 3, 1) := by decide +kernel
theorem dX11_strike_79 : decode cX11_strike 79 = .ok (.iaload, 1) := by decide +kernel
theorem dX11_strike_80 : decode cX11_strike 80 = .ok (.ireturn, 1) := by decide +kernel
theorem dX11_strikeAll_0 : decode cX11_strikeAll 0 = .ok (.aload_n 0, 1) := by decide +kernel
theorem dX11_strikeAll_1 : decode cX11_strikeAll 1 = .ok (.invokevirtual 56, 3) := by decide +kernel
theorem dX11_strikeAll_4 : decode cX11_strikeAll 4 = .ok (.aload_n 0, 1) := by decide +kernel
theorem dX11_strikeAll_5 : decode cX11_strikeAll 5 = .ok (.getfield 7, 3) := by decide +kernel
theorem dX11_strikeAll_8 : decode cX11_strikeAll 8 = .ok (.iconst 3, 1) := by decide +kernel
theorem dX11_strikeAll_9 : decode cX11_strikeAll 9 = .ok (.iaload, 1) := by decide +kernel
theorem dX11_strikeAll_10 : decode cX11_strikeAll 10 = .ok (.istore_n 1, 1) := by decide +kernel
theorem dX11_strikeAll_11 : decode cX11_strikeAll 11 = .ok (.aload_n 0, 1) := by decide +kernel
theorem dX11_strikeAll_12 : decode cX11_strikeAll 12 = .ok (.getfield 7, 3) := by decide +kernel
theorem dX11_strikeAll_15 : decode cX11_strikeAll 15 = .ok (.iconst 3, 1) := by decide +kernel
theorem dX11_strikeAll_16 : decode cX11_strikeAll 16 = .ok (.iconst 0, 1) := by decide +kernel
theorem dX11_strikeAll_17 : decode cX11_strikeAll 17 = .ok (.iastore, 1) := by decide +kernel
theorem dX11_strikeAll_18 : decode cX11_strikeAll 18 = .ok (.iload_n 1, 1) := by decide +kernel
theorem dX11_strikeAll_19 : decode cX11_strikeAll 19 = .ok (.ireturn, 1) := by decide +kernel
theorem dX11_isConvergent_0 : decode cX11_isConvergent 0 = .ok (.aload_n 0, 1) := by decide +kernel
theorem dX11_isConvergent_1 : decode cX11_isConvergent 1 = .ok (.invokevirtual 69, 3) := by decide +kernel
theorem dX11_isConvergent_4 : decode cX11_isConvergent 4 = .ok (.aload_n 0, 1) := by decide +kernel
theorem dX11_isConvergent_5 : decode cX11_isConvergent 5 = .ok (.invokevirtual 113, 3) := by decide +kernel
theorem dX11_isConvergent_8 : decode cX11_isConvergent 8 = .ok (.iconst 0, 1) := by decide +kernel
theorem dX11_isConvergent_9 : decode cX11_isConvergent 9 = .ok (.istore_n 3, 1) := by decide +kernel
theorem dX11_isConvergent_10 : decode cX11_isConvergent 10 = .ok (.iconst 0, 1) := by decide +kernel
theorem dX11_isConvergent_11 : decode cX11_isConvergent 11 = .ok (.istore 4, 2) := by decide +kernel
theorem dX11_isConvergent_13 : decode cX11_isConvergent 13 = .ok (.iload 4, 2) := by decide +kernel
theorem dX11_isConvergent_15 : decode cX11_isConvergent 15 = .ok (.bipush 30, 2) := by decide +kernel
theorem dX11_isConvergent_17 : decode cX11_isConvergent 17 = .ok (.if_icmp .ge 76, 3) := by decide +kernel
theorem dX11_isConvergent_20 : decode cX11_isConvergent 20 = .ok (.aload_n 0, 1) := by decide +kernel
theorem dX11_isConvergent_21 : decode cX11_isConvergent 21 = .ok (.getfield 97, 3) := by decide +kernel
theorem dX11_isConvergent_24 : decode cX11_isConvergent 24 = .ok (.iload_n 2, 1) := by decide +kernel
theorem dX11_isConvergent_25 : decode cX11_isConvergent 25 = .ok (.i2l, 1) := by decide +kernel
theorem dX11_isConvergent_26 : decode cX11_isConvergent 26 = .ok (.lcmp, 1) := by decide +kernel
theorem dX11_isConvergent_27 : decode cX11_isConvergent 27 = .ok (.ifCond .gt 22, 3) := by decide +kernel
theorem dX11_isConvergent_30 : decode cX11_isConvergent 30 = .ok (.aload_n 0, 1) := by decide +kernel
theorem dX11_isConvergent_31 : decode cX11_isConvergent 31 = .ok (.aload_n 0, 1) := by decide +kernel
theorem dX11_isConvergent_32 : decode cX11_isConvergent 32 = .ok (.getfield 19, 3) := by decide +kernel
theorem dX11_isConvergent_35 : decode cX11_isConvergent 35 = .ok (.iload 4, 2) := by decide +kernel
theorem dX11_isConvergent_37 : decode cX11_isConvergent 37 = .ok (.iaload, 1) := by decide +kernel
theorem dX11_isConvergent_38 : decode cX11_isConvergent 38 = .ok (.i2l, 1) := by decide +kernel
theorem dX11_isConvergent_39 : decode cX11_isConvergent 39 = .ok (.invokevirtual 116, 3) := by decide +kernel
theorem dX11_isConvergent_42 : decode cX11_isConvergent 42 = .ok (.ifCond .eq 7, 3) := by decide +kernel
theorem dX11_isConvergent_45 : decode cX11_isConvergent 45 = .ok (.iconst 1, 1) := by decide +kernel
theorem dX11_isConvergent_46 : decode cX11_isConvergent 46 = .ok (.goto 4, 3) := by decide +kernel
theorem dX11_isConvergent_49 : decode cX11_isConvergent 49 = .ok (.iconst 0, 1) := by decide +kernel
theorem dX11_isConvergent_50 : decode cX11_isConvergent 50 = .ok (.istore 5, 2) := by decide +kernel
theorem dX11_isConvergent_52 : decode cX11_isConvergent 52 = .ok (.iload_n 3, 1) := by decide +kernel
theorem dX11_isConvergent_53 : decode cX11_isConvergent 53 = .ok (.ifCond .ne 28, 3) := by decide +kernel
theorem dX11_isConvergent_56 : decode cX11_isConvergent 56 = .ok (.iload 5, 2) := by decide +kernel
theorem dX11_isConvergent_58 : decode cX11_isConvergent 58 = .ok (.ifCond .eq 27, 3) := by decide +kernel
theorem dX11_isConvergent_61 : decode cX11_isConvergent 61 = .ok (.aload_n 0, 1) := by decide +kernel
theorem dX11_isConvergent_62 : decode cX11_isConvergent 62 = .ok (.getfield 93, 3) := by decide +kernel
theorem dX11_isConvergent_65 : decode cX11_isConvergent 65 = .ok (.iload_n 1, 1) := by decide +kernel
theorem dX11_isConvergent_66 : decode cX11_isConvergent 66 = .ok (.i2l, 1) := by decide +kernel
theorem dX11_isConvergent_67 : decode cX11_isConvergent 67 = .ok (.lcmp, 1) := by decide +kernel
theorem dX11_isConvergent_68 : decode cX11_isConvergent 68 = .ok (.ifCond .ne 17, 3) := by decide +kernel
theorem dX11_isConvergent_71 : decode cX11_isConvergent 71 = .ok (.aload_n 0, 1) := by decide +kernel
theorem dX11_isConvergent_72 : decode cX11_isConvergent 72 = .ok (.getfield 97, 3) := by decide +kernel
theorem dX11_isConvergent_75 : decode cX11_isConvergent 75 = .ok (.iload_n 2, 1) := by decide +kernel
theorem dX11_isConvergent_76 : decode cX11_isConvergent 76 = .ok (.i2l, 1) := by decide +kernel
theorem dX11_isConvergent_77 : decode cX11_isConvergent 77 = .ok (.lcmp, 1) := by decide +kernel
theorem dX11_isConvergent_78 : decode cX11_isConvergent 78 = .ok (.ifCond .ne 7, 3) := by decide +kernel
theorem dX11_isConvergent_81 : decode cX11_isConvergent 81 = .ok (.iconst 1, 1) := by decide +kernel
theorem dX11_isConvergent_82 : decode cX11_isConvergent 82 = .ok (.goto 4, 3) := by decide +kernel
theorem dX11_isConvergent_85 : decode cX11_isConvergent 85 = .ok (.iconst 0, 1) := by decide +kernel
theorem dX11_isConvergent_86 : decode cX11_isConvergent 86 = .ok (.istore_n 3, 1) := by decide +kernel
theorem dX11_isConvergent_87 : decode cX11_isConvergent 87 = .ok (.iinc 4 1, 3) := by decide +kernel
theorem dX11_isConvergent_90 : decode cX11_isConvergent 90 = .ok (.goto (-77), 3) := by decide +kernel
theorem dX11_isConvergent_93 : decode cX11_isConvergent 93 = .ok (.iload_n 3, 1) := by decide +kernel
theorem dX11_isConvergent_94 : decode cX11_isConvergent 94 = .ok (.ireturn, 1) := by decide +kernel
theorem dX11_noteOf_0 : decode cX11_noteOf 0 = .ok (.iload_n 1, 1) := by decide +kernel
theorem dX11_noteOf_1 : decode cX11_noteOf 1 = .ok (.ifCond .lt 15, 3) := by decide +kernel
theorem dX11_noteOf_4 : decode cX11_noteOf 4 = .ok (.iload_n 2, 1) := by decide +kernel
theorem dX11_noteOf_5 : decode cX11_noteOf 5 = .ok (.i2l, 1) := by decide +kernel
theorem dX11_noteOf_6 : decode cX11_noteOf 6 = .ok (.lconst 0, 1) := by decide +kernel
theorem dX11_noteOf_7 : decode cX11_noteOf 7 = .ok (.ldc2_w 236, 3) := by decide +kernel
theorem dX11_noteOf_10 : decode cX11_noteOf 10 = .ok (.invokestatic 44, 3) := by decide +kernel
theorem dX11_noteOf_13 : decode cX11_noteOf 13 = .ok (.ifCond .ne 6, 3) := by decide +kernel
theorem dX11_noteOf_16 : decode cX11_noteOf 16 = .ok (.ldc 50, 2) := by decide +kernel
theorem dX11_noteOf_18 : decode cX11_noteOf 18 = .ok (.ireturn, 1) := by decide +kernel
theorem dX11_noteOf_19 : decode cX11_noteOf 19 = .ok (.aload_n 0, 1) := by decide +kernel
theorem dX11_noteOf_20 : decode cX11_noteOf 20 = .ok (.iload_n 1, 1) := by decide +kernel
theorem dX11_noteOf_21 : decode cX11_noteOf 21 = .ok (.invokevirtual 233, 3) := by decide +kernel
theorem dX11_noteOf_24 : decode cX11_noteOf 24 = .ok (.istore_n 3, 1) := by decide +kernel
theorem dX11_noteOf_25 : decode cX11_noteOf 25 = .ok (.iload_n 3, 1) := by decide +kernel
theorem dX11_noteOf_26 : decode cX11_noteOf 26 = .ok (.ifCond .ge 6, 3) := by decide +kernel
theorem dX11_noteOf_29 : decode cX11_noteOf 29 = .ok (.ldc 176, 2) := by decide +kernel
theorem dX11_noteOf_31 : decode cX11_noteOf 31 = .ok (.ireturn, 1) := by decide +kernel
theorem dX11_noteOf_32 : decode cX11_noteOf 32 = .ok (.iload_n 2, 1) := by decide +kernel
theorem dX11_noteOf_33 : decode cX11_noteOf 33 = .ok (.tableswitch 67 0 2 #[27, 36, 42], 27) := by decide +kernel
theorem dX11_noteOf_60 : decode cX11_noteOf 60 = .ok (.aload_n 0, 1) := by decide +kernel
theorem dX11_noteOf_61 : decode cX11_noteOf 61 = .ok (.iload_n 3, 1) := by decide +kernel
theorem dX11_noteOf_62 : decode cX11_noteOf 62 = .ok (.invokevirtual 221, 3) := by decide +kernel
theorem dX11_noteOf_65 : decode cX11_noteOf 65 = .ok (.ldc 145, 2) := by decide +kernel
theorem dX11_noteOf_67 : decode cX11_noteOf 67 = .ok (.iadd, 1) := by decide +kernel
theorem dX11_noteOf_68 : decode cX11_noteOf 68 = .ok (.ireturn, 1) := by decide +kernel
theorem dX11_noteOf_69 : decode cX11_noteOf 69 = .ok (.aload_n 0, 1) := by decide +kernel
theorem dX11_noteOf_70 : decode cX11_noteOf 70 = .ok (.iload_n 3, 1) := by decide +kernel
theorem dX11_noteOf_71 : decode cX11_noteOf 71 = .ok (.invokevirtual 224, 3) := by decide +kernel
theorem dX11_noteOf_74 : decode cX11_noteOf 74 = .ok (.ireturn, 1) := by decide +kernel
theorem dX11_noteOf_75 : decode cX11_noteOf 75 = .ok (.aload_n 0, 1) := by decide +kernel
theorem dX11_noteOf_76 : decode cX11_noteOf 76 = .ok (.aload_n 0, 1) := by decide +kernel
theorem dX11_noteOf_77 : decode cX11_noteOf 77 = .ok (.iload_n 3, 1) := by decide +kernel
theorem dX11_noteOf_78 : decode cX11_noteOf 78 = .ok (.invokevirtual 221, 3) := by decide +kernel
theorem dX11_noteOf_81 : decode cX11_noteOf 81 = .ok (.i2l, 1) := by decide +kernel
theorem dX11_noteOf_82 : decode cX11_noteOf 82 = .ok (.aload_n 0, 1) := by decide +kernel
theorem dX11_noteOf_83 : decode cX11_noteOf 83 = .ok (.iload_n 3, 1) := by decide +kernel
theorem dX11_noteOf_84 : decode cX11_noteOf 84 = .ok (.invokevirtual 224, 3) := by decide +kernel
theorem dX11_noteOf_87 : decode cX11_noteOf 87 = .ok (.i2l, 1) := by decide +kernel
theorem dX11_noteOf_88 : decode cX11_noteOf 88 = .ok (.invokevirtual 127, 3) := by decide +kernel
theorem dX11_noteOf_91 : decode cX11_noteOf 91 = .ok (.ifCond .eq 7, 3) := by decide +kernel
theorem dX11_noteOf_94 : decode cX11_noteOf 94 = .ok (.iconst 0, 1) := by decide +kernel
theorem dX11_noteOf_95 : decode cX11_noteOf 95 = .ok (.goto 4, 3) := by decide +kernel
theorem dX11_noteOf_98 : decode cX11_noteOf 98 = .ok (.iconst 1, 1) := by decide +kernel
theorem dX11_noteOf_99 : decode cX11_noteOf 99 = .ok (.ireturn, 1) := by decide +kernel
theorem dX11_noteOf_100 : decode cX11_noteOf 100 = .ok (.aload_n 0, 1) := by decide +kernel
theorem dX11_noteOf_101 : decode cX11_noteOf 101 = .ok (.aload_n 0, 1) := by decide +kernel
theorem dX11_noteOf_102 : decode cX11_noteOf 102 = .ok (.iload_n 3, 1) := by decide +kernel
theorem dX11_noteOf_103 : decode cX11_noteOf 103 = .ok (.invokevirtual 221, 3) := by decide +kernel
theorem dX11_noteOf_106 : decode cX11_noteOf 106 = .ok (.aload_n 0, 1) := by decide +kernel
theorem dX11_noteOf_107 : decode cX11_noteOf 107 = .ok (.iload_n 3, 1) := by decide +kernel
theorem dX11_noteOf_108 : decode cX11_noteOf 108 = .ok (.invokevirtual 224, 3) := by decide +kernel
theorem dX11_noteOf_111 : decode cX11_noteOf 111 = .ok (.invokevirtual 238, 3) := by decide +kernel
theorem dX11_noteOf_114 : decode cX11_noteOf 114 = .ok (.ifCond .eq 7, 3) := by decide +kernel
theorem dX11_noteOf_117 : decode cX11_noteOf 117 = .ok (.iconst 1, 1) := by decide +kernel
theorem dX11_noteOf_118 : decode cX11_noteOf 118 = .ok (.goto 4, 3) := by decide +kernel
theorem dX11_noteOf_121 : decode cX11_noteOf 121 = .ok (.iconst 0, 1) := by decide +kernel
theorem dX11_noteOf_122 : decode cX11_noteOf 122 = .ok (.ireturn, 1) := by decide +kernel
theorem dX11_aboveOnes_0 : decode cX11_aboveOnes 0 = .ok (.iconst 0, 1) := by decide +kernel
theorem dX11_aboveOnes_1 : decode cX11_aboveOnes 1 = .ok (.istore_n 1, 1) := by decide +kernel
theorem dX11_aboveOnes_2 : decode cX11_aboveOnes 2 = .ok (.iconst 0, 1) := by decide +kernel
theorem dX11_aboveOnes_3 : decode cX11_aboveOnes 3 = .ok (.istore_n 2, 1) := by decide +kernel
theorem dX11_aboveOnes_4 : decode cX11_aboveOnes 4 = .ok (.iload_n 2, 1) := by decide +kernel
theorem dX11_aboveOnes_5 : decode cX11_aboveOnes 5 = .ok (.aload_n 0, 1) := by decide +kernel
theorem dX11_aboveOnes_6 : decode cX11_aboveOnes 6 = .ok (.getfield 7, 3) := by decide +kernel
theorem dX11_aboveOnes_9 : decode cX11_aboveOnes 9 = .ok (.iconst 3, 1) := by decide +kernel
theorem dX11_aboveOnes_10 : decode cX11_aboveOnes 10 = .ok (.iaload, 1) := by decide +kernel
theorem dX11_aboveOnes_11 : decode cX11_aboveOnes 11 = .ok (.if_icmp .ge 36, 3) := by decide +kernel
theorem dX11_aboveOnes_14 : decode cX11_aboveOnes 14 = .ok (.iload_n 1, 1) := by decide +kernel
theorem dX11_aboveOnes_15 : decode cX11_aboveOnes 15 = .ok (.aload_n 0, 1) := by decide +kernel
theorem dX11_aboveOnes_16 : decode cX11_aboveOnes 16 = .ok (.aload_n 0, 1) := by decide +kernel
theorem dX11_aboveOnes_17 : decode cX11_aboveOnes 17 = .ok (.iload_n 2, 1) := by decide +kernel
theorem dX11_aboveOnes_18 : decode cX11_aboveOnes 18 = .ok (.invokevirtual 221, 3) := by decide +kernel
theorem dX11_aboveOnes_21 : decode cX11_aboveOnes 21 = .ok (.i2l, 1) := by decide +kernel
theorem dX11_aboveOnes_22 : decode cX11_aboveOnes 22 = .ok (.aload_n 0, 1) := by decide +kernel
theorem dX11_aboveOnes_23 : decode cX11_aboveOnes 23 = .ok (.iload_n 2, 1) := by decide +kernel
theorem dX11_aboveOnes_24 : decode cX11_aboveOnes 24 = .ok (.invokevirtual 224, 3) := by decide +kernel
theorem dX11_aboveOnes_27 : decode cX11_aboveOnes 27 = .ok (.i2l, 1) := by decide +kernel
theorem dX11_aboveOnes_28 : decode cX11_aboveOnes 28 = .ok (.invokevirtual 127, 3) := by decide +kernel
theorem dX11_aboveOnes_31 : decode cX11_aboveOnes 31 = .ok (.ifCond .eq 7, 3) := by decide +kernel
theorem dX11_aboveOnes_34 : decode cX11_aboveOnes 34 = .ok (.iconst 0, 1) := by decide +kernel
theorem dX11_aboveOnes_35 : decode cX11_aboveOnes 35 = .ok (.goto 4, 3) := by decide +kernel
theorem dX11_aboveOnes_38 : decode cX11_aboveOnes 38 = .ok (.iconst 1, 1) := by decide +kernel
theorem dX11_aboveOnes_39 : decode cX11_aboveOnes 39 = .ok (.iadd, 1) := by decide +kernel
theorem dX11_aboveOnes_40 : decode cX11_aboveOnes 40 = .ok (.istore_n 1, 1) := by decide +kernel
theorem dX11_aboveOnes_41 : decode cX11_aboveOnes 41 = .ok (.iinc 2 1, 3) := by decide +kernel
theorem dX11_aboveOnes_44 : decode cX11_aboveOnes 44 = .ok (.goto (-40), 3) := by decide +kernel
theorem dX11_aboveOnes_47 : decode cX11_aboveOnes 47 = .ok (.iload_n 1, 1) := by decide +kernel
theorem dX11_aboveOnes_48 : decode cX11_aboveOnes 48 = .ok (.ireturn, 1) := by decide +kernel
theorem dX11_count_0 : decode cX11_count 0 = .ok (.iload_n 1, 1) := by decide +kernel
theorem dX11_count_1 : decode cX11_count 1 = .ok (.tableswitch 53 0 3 #[31, 38, 43, 48], 31) := by decide +kernel
theorem dX11_count_32 : decode cX11_count 32 = .ok (.aload_n 0, 1) := by decide +kernel
theorem dX11_count_33 : decode cX11_count 33 = .ok (.getfield 7, 3) := by decide +kernel
theorem dX11_count_36 : decode cX11_count 36 = .ok (.iconst 3, 1) := by decide +kernel
theorem dX11_count_37 : decode cX11_count 37 = .ok (.iaload, 1) := by decide +kernel
theorem dX11_count_38 : decode cX11_count 38 = .ok (.ireturn, 1) := by decide +kernel
theorem dX11_count_39 : decode cX11_count 39 = .ok (.aload_n 0, 1) := by decide +kernel
theorem dX11_count_40 : decode cX11_count 40 = .ok (.invokevirtual 241, 3) := by decide +kernel
theorem dX11_count_43 : decode cX11_count 43 = .ok (.ireturn, 1) := by decide +kernel
theorem dX11_count_44 : decode cX11_count 44 = .ok (.aload_n 0, 1) := by decide +kernel
theorem dX11_count_45 : decode cX11_count 45 = .ok (.getfield 32, 3) := by decide +kernel
theorem dX11_count_48 : decode cX11_count 48 = .ok (.ireturn, 1) := by decide +kernel
theorem dX11_count_49 : decode cX11_count 49 = .ok (.aload_n 0, 1) := by decide +kernel
theorem dX11_count_50 : decode cX11_count 50 = .ok (.getfield 180, 3) := by decide +kernel
theorem dX11_count_53 : decode cX11_count 53 = .ok (.ireturn, 1) := by decide +kernel
theorem dX11_count_54 : decode cX11_count 54 = .ok (.ldc 50, 2) := by decide +kernel
theorem dX11_count_56 : decode cX11_count 56 = .ok (.ireturn, 1) := by decide +kernel
theorem dX11_undo_0 : decode cX11_undo 0 = .ok (.aload_n 0, 1) := by decide +kernel
theorem dX11_undo_1 : decode cX11_undo 1 = .ok (.getfield 32, 3) := by decide +kernel
theorem dX11_undo_4 : decode cX11_undo 4 = .ok (.ifCond .ne 6, 3) := by decide +kernel
theorem dX11_undo_7 : decode cX11_undo 7 = .ok (.ldc 55, 2) := by decide +kernel
theorem dX11_undo_9 : decode cX11_undo 9 = .ok (.ireturn, 1) := by decide +kernel
theorem dX11_undo_10 : decode cX11_undo 10 = .ok (.aload_n 0, 1) := by decide +kernel
theorem dX11_undo_11 : decode cX11_undo 11 = .ok (.dup, 1) := by decide +kernel
theorem dX11_undo_12 : decode cX11_undo 12 = .ok (.getfield 32, 3) := by decide +kernel
theorem dX11_undo_15 : decode cX11_undo 15 = .ok (.iconst 1, 1) := by decide +kernel
theorem dX11_undo_16 : decode cX11_undo 16 = .ok (.isub, 1) := by decide +kernel
theorem dX11_undo_17 : decode cX11_undo 17 = .ok (.putfield 32, 3) := by decide +kernel
theorem dX11_undo_20 : decode cX11_undo 20 = .ok (.iconst 0, 1) := by decide +kernel
theorem dX11_undo_21 : decode cX11_undo 21 = .ok (.istore_n 1, 1) := by decide +kernel
theorem dX11_undo_22 : decode cX11_undo 22 = .ok (.iload_n 1, 1) := by decide +kernel
theorem dX11_undo_23 : decode cX11_undo 23 = .ok (.bipush 20, 2) := by decide +kernel
theorem dX11_undo_25 : decode cX11_undo 25 = .ok (.if_icmp .ge 29, 3) := by decide +kernel
theorem dX11_undo_28 : decode cX11_undo 28 = .ok (.aload_n 0, 1) := by decide +kernel
theorem dX11_undo_29 : decode cX11_undo 29 = .ok (.getfield 7, 3) := by decide +kernel
theorem dX11_undo_32 : decode cX11_undo 32 = .ok (.iload_n 1, 1) := by decide +kernel
theorem dX11_undo_33 : decode cX11_undo 33 = .ok (.aload_n 0, 1) := by decide +kernel
theorem dX11_undo_34 : decode cX11_undo 34 = .ok (.getfield 13, 3) := by decide +kernel
theorem dX11_undo_37 : decode cX11_undo 37 = .ok (.bipush 20, 2) := by decide +kernel
theorem dX11_undo_39 : decode cX11_undo 39 = .ok (.aload_n 0, 1) := by decide +kernel
theorem dX11_undo_40 : decode cX11_undo 40 = .ok (.getfield 32, 3) := by decide +kernel
theorem dX11_undo_43 : decode cX11_undo 43 = .ok (.imul, 1) := by decide +kernel
theorem dX11_undo_44 : decode cX11_undo 44 = .ok (.iload_n 1, 1) := by decide +kernel
theorem dX11_undo_45 : decode cX11_undo 45 = .ok (.iadd, 1) := by decide +kernel
theorem dX11_undo_46 : decode cX11_undo 46 = .ok (.iaload, 1) := by decide +kernel
theorem dX11_undo_47 : decode cX11_undo 47 = .ok (.iastore, 1) := by decide +kernel
theorem dX11_undo_48 : decode cX11_undo 48 = .ok (.iinc 1 1, 3) := by decide +kernel
theorem dX11_undo_51 : decode cX11_undo 51 = .ok (.goto (-29), 3) := by decide +kernel
theorem dX11_undo_54 : decode cX11_undo 54 = .ok (.aload_n 0, 1) := by decide +kernel
theorem dX11_undo_55 : decode cX11_undo 55 = .ok (.getfield 32, 3) := by decide +kernel
theorem dX11_undo_58 : decode cX11_undo 58 = .ok (.ireturn, 1) := by decide +kernel
theorem dX11_type_0 : decode cX11_type 0 = .ok (.iload_n 1, 1) := by decide +kernel
theorem dX11_type_1 : decode cX11_type 1 = .ok (.i2l, 1) := by decide +kernel
theorem dX11_type_2 : decode cX11_type 2 = .ok (.ldc2_w 244, 3) := by decide +kernel
theorem dX11_type_5 : decode cX11_type 5 = .ok (.ldc2_w 246, 3) := by decide +kernel
theorem dX11_type_8 : decode cX11_type 8 = .ok (.invokestatic 44, 3) := by decide +kernel
theorem dX11_type_11 : decode cX11_type 11 = .ok (.ifCond .ne 6, 3) := by decide +kernel
theorem dX11_type_14 : decode cX11_type 14 = .ok (.ldc 50, 2) := by decide +kernel
theorem dX11_type_16 : decode cX11_type 16 = .ok (.ireturn, 1) := by decide +kernel
theorem dX11_type_17 : decode cX11_type 17 = .ok (.aload_n 0, 1) := by decide +kernel
theorem dX11_type_18 : decode cX11_type 18 = .ok (.getfield 180, 3) := by decide +kernel
theorem dX11_type_21 : decode cX11_type 21 = .ok (.bipush 40, 2) := by decide +kernel
theorem dX11_type_23 : decode cX11_type 23 = .ok (.if_icmp .ne 6, 3) := by decide +kernel
theorem dX11_type_26 : decode cX11_type 26 = .ok (.ldc 81, 2) := by decide +kernel
theorem dX11_type_28 : decode cX11_type 28 = .ok (.ireturn, 1) := by decide +kernel
theorem dX11_type_29 : decode cX11_type 29 = .ok (.aload_n 0, 1) := by decide +kernel
theorem dX11_type_30 : decode cX11_type 30 = .ok (.getfield 16, 3) := by decide +kernel
theorem dX11_type_33 : decode cX11_type 33 = .ok (.aload_n 0, 1) := by decide +kernel
theorem dX11_type_34 : decode cX11_type 34 = .ok (.getfield 180, 3) := by decide +kernel
theorem dX11_type_37 : decode cX11_type 37 = .ok (.iload_n 1, 1) := by decide +kernel
theorem dX11_type_38 : decode cX11_type 38 = .ok (.iastore, 1) := by decide +kernel
theorem dX11_type_39 : decode cX11_type 39 = .ok (.aload_n 0, 1) := by decide +kernel
theorem dX11_type_40 : decode cX11_type 40 = .ok (.dup, 1) := by decide +kernel
theorem dX11_type_41 : decode cX11_type 41 = .ok (.getfield 180, 3) := by decide +kernel
theorem dX11_type_44 : decode cX11_type 44 = .ok (.iconst 1, 1) := by decide +kernel
theorem dX11_type_45 : decode cX11_type 45 = .ok (.iadd, 1) := by decide +kernel
theorem dX11_type_46 : decode cX11_type 46 = .ok (.putfield 180, 3) := by decide +kernel
theorem dX11_type_49 : decode cX11_type 49 = .ok (.aload_n 0, 1) := by decide +kernel
theorem dX11_type_50 : decode cX11_type 50 = .ok (.getfield 180, 3) := by decide +kernel
theorem dX11_type_53 : decode cX11_type 53 = .ok (.ireturn, 1) := by decide +kernel
theorem dX11_clearText_0 : decode cX11_clearText 0 = .ok (.aload_n 0, 1) := by decide +kernel
theorem dX11_clearText_1 : decode cX11_clearText 1 = .ok (.getfield 180, 3) := by decide +kernel
theorem dX11_clearText_4 : decode cX11_clearText 4 = .ok (.istore_n 1, 1) := by decide +kernel
theorem dX11_clearText_5 : decode cX11_clearText 5 = .ok (.aload_n 0, 1) := by decide +kernel
theorem dX11_clearText_6 : decode cX11_clearText 6 = .ok (.iconst 0, 1) := by decide +kernel
theorem dX11_clearText_7 : decode cX11_clearText 7 = .ok (.putfield 180, 3) := by decide +kernel
theorem dX11_clearText_10 : decode cX11_clearText 10 = .ok (.iload_n 1, 1) := by decide +kernel
theorem dX11_clearText_11 : decode cX11_clearText 11 = .ok (.ireturn, 1) := by decide +kernel
