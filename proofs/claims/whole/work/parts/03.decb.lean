theorem dX10_init_0 : decode cX10_init 0 = .ok (.aload_n 0, 1) := by decide +kernel
theorem dX10_init_1 : decode cX10_init 1 = .ok (.invokespecial 1, 3) := by decide +kernel
theorem dX10_init_4 : decode cX10_init 4 = .ok (.aload_n 0, 1) := by decide +kernel
theorem dX10_init_5 : decode cX10_init 5 = .ok (.new 7, 3) := by decide +kernel
theorem dX10_init_8 : decode cX10_init 8 = .ok (.dup, 1) := by decide +kernel
theorem dX10_init_9 : decode cX10_init 9 = .ok (.invokespecial 9, 3) := by decide +kernel
theorem dX10_init_12 : decode cX10_init 12 = .ok (.putfield 10, 3) := by decide +kernel
theorem dX10_init_15 : decode cX10_init 15 = .ok (.aload_n 0, 1) := by decide +kernel
theorem dX10_init_16 : decode cX10_init 16 = .ok (.new 16, 3) := by decide +kernel
theorem dX10_init_19 : decode cX10_init 19 = .ok (.dup, 1) := by decide +kernel
theorem dX10_init_20 : decode cX10_init 20 = .ok (.invokespecial 18, 3) := by decide +kernel
theorem dX10_init_23 : decode cX10_init 23 = .ok (.putfield 19, 3) := by decide +kernel
theorem dX10_init_26 : decode cX10_init 26 = .ok (.aload_n 0, 1) := by decide +kernel
theorem dX10_init_27 : decode cX10_init 27 = .ok (.new 23, 3) := by decide +kernel
theorem dX10_init_30 : decode cX10_init 30 = .ok (.dup, 1) := by decide +kernel
theorem dX10_init_31 : decode cX10_init 31 = .ok (.invokespecial 25, 3) := by decide +kernel
theorem dX10_init_34 : decode cX10_init 34 = .ok (.putfield 26, 3) := by decide +kernel
theorem dX10_init_37 : decode cX10_init 37 = .ok (.aload_n 0, 1) := by decide +kernel
theorem dX10_init_38 : decode cX10_init 38 = .ok (.new 30, 3) := by decide +kernel
theorem dX10_init_41 : decode cX10_init 41 = .ok (.dup, 1) := by decide +kernel
theorem dX10_init_42 : decode cX10_init 42 = .ok (.invokespecial 32, 3) := by decide +kernel
theorem dX10_init_45 : decode cX10_init 45 = .ok (.putfield 33, 3) := by decide +kernel
theorem dX10_init_48 : decode cX10_init 48 = .ok (.aload_n 0, 1) := by decide +kernel
theorem dX10_init_49 : decode cX10_init 49 = .ok (.new 37, 3) := by decide +kernel
theorem dX10_init_52 : decode cX10_init 52 = .ok (.dup, 1) := by decide +kernel
theorem dX10_init_53 : decode cX10_init 53 = .ok (.invokespecial 39, 3) := by decide +kernel
theorem dX10_init_56 : decode cX10_init 56 = .ok (.putfield 40, 3) := by decide +kernel
theorem dX10_init_59 : decode cX10_init 59 = .ok (.aload_n 0, 1) := by decide +kernel
theorem dX10_init_60 : decode cX10_init 60 = .ok (.new 44, 3) := by decide +kernel
theorem dX10_init_63 : decode cX10_init 63 = .ok (.dup, 1) := by decide +kernel
theorem dX10_init_64 : decode cX10_init 64 = .ok (.invokespecial 46, 3) := by decide +kernel
theorem dX10_init_67 : decode cX10_init 67 = .ok (.putfield 47, 3) := by decide +kernel
theorem dX10_init_70 : decode cX10_init 70 = .ok (.aload_n 0, 1) := by decide +kernel
theorem dX10_init_71 : decode cX10_init 71 = .ok (.new 51, 3) := by decide +kernel
theorem dX10_init_74 : decode cX10_init 74 = .ok (.dup, 1) := by decide +kernel
theorem dX10_init_75 : decode cX10_init 75 = .ok (.invokespecial 53, 3) := by decide +kernel
theorem dX10_init_78 : decode cX10_init 78 = .ok (.putfield 54, 3) := by decide +kernel
theorem dX10_init_81 : decode cX10_init 81 = .ok (.aload_n 0, 1) := by decide +kernel
theorem dX10_init_82 : decode cX10_init 82 = .ok (.getfield 26, 3) := by decide +kernel
theorem dX10_init_85 : decode cX10_init 85 = .ok (.aload_n 0, 1) := by decide +kernel
theorem dX10_init_86 : decode cX10_init 86 = .ok (.getfield 10, 3) := by decide +kernel
theorem dX10_init_89 : decode cX10_init 89 = .ok (.getfield 58, 3) := by decide +kernel
theorem dX10_init_92 : decode cX10_init 92 = .ok (.invokevirtual 62, 3) := by decide +kernel
theorem dX10_init_95 : decode cX10_init 95 = .ok (.return_, 1) := by decide +kernel
theorem dX10_surd_0 : decode cX10_surd 0 = .ok (.iload_n 1, 1) := by decide +kernel
theorem dX10_surd_1 : decode cX10_surd 1 = .ok (.bipush (-99), 2) := by decide +kernel
theorem dX10_surd_3 : decode cX10_surd 3 = .ok (.bipush 99, 2) := by decide +kernel
theorem dX10_surd_5 : decode cX10_surd 5 = .ok (.invokestatic 66, 3) := by decide +kernel
theorem dX10_surd_8 : decode cX10_surd 8 = .ok (.ifCond .eq 29, 3) := by decide +kernel
theorem dX10_surd_11 : decode cX10_surd 11 = .ok (.iload_n 2, 1) := by decide +kernel
theorem dX10_surd_12 : decode cX10_surd 12 = .ok (.iconst 2, 1) := by decide +kernel
theorem dX10_surd_13 : decode cX10_surd 13 = .ok (.sipush 999, 3) := by decide +kernel
theorem dX10_surd_16 : decode cX10_surd 16 = .ok (.invokestatic 66, 3) := by decide +kernel
theorem dX10_surd_19 : decode cX10_surd 19 = .ok (.ifCond .eq 18, 3) := by decide +kernel
theorem dX10_surd_22 : decode cX10_surd 22 = .ok (.iload_n 3, 1) := by decide +kernel
theorem dX10_surd_23 : decode cX10_surd 23 = .ok (.bipush (-99), 2) := by decide +kernel
theorem dX10_surd_25 : decode cX10_surd 25 = .ok (.bipush 99, 2) := by decide +kernel
theorem dX10_surd_27 : decode cX10_surd 27 = .ok (.invokestatic 66, 3) := by decide +kernel
theorem dX10_surd_30 : decode cX10_surd 30 = .ok (.ifCond .eq 7, 3) := by decide +kernel
theorem dX10_surd_33 : decode cX10_surd 33 = .ok (.iload_n 3, 1) := by decide +kernel
theorem dX10_surd_34 : decode cX10_surd 34 = .ok (.ifCond .ne 6, 3) := by decide +kernel
theorem dX10_surd_37 : decode cX10_surd 37 = .ok (.ldc 70, 2) := by decide +kernel
theorem dX10_surd_39 : decode cX10_surd 39 = .ok (.ireturn, 1) := by decide +kernel
theorem dX10_surd_40 : decode cX10_surd 40 = .ok (.iload_n 2, 1) := by decide +kernel
theorem dX10_surd_41 : decode cX10_surd 41 = .ok (.invokestatic 71, 3) := by decide +kernel
theorem dX10_surd_44 : decode cX10_surd 44 = .ok (.ifCond .eq 6, 3) := by decide +kernel
theorem dX10_surd_47 : decode cX10_surd 47 = .ok (.ldc 75, 2) := by decide +kernel
theorem dX10_surd_49 : decode cX10_surd 49 = .ok (.ireturn, 1) := by decide +kernel
theorem dX10_surd_50 : decode cX10_surd 50 = .ok (.aload_n 0, 1) := by decide +kernel
theorem dX10_surd_51 : decode cX10_surd 51 = .ok (.getfield 19, 3) := by decide +kernel
theorem dX10_surd_54 : decode cX10_surd 54 = .ok (.aload_n 0, 1) := by decide +kernel
theorem dX10_surd_55 : decode cX10_surd 55 = .ok (.getfield 10, 3) := by decide +kernel
theorem dX10_surd_58 : decode cX10_surd 58 = .ok (.invokevirtual 76, 3) := by decide +kernel
theorem dX10_surd_61 : decode cX10_surd 61 = .ok (.aload_n 0, 1) := by decide +kernel
theorem dX10_surd_62 : decode cX10_surd 62 = .ok (.getfield 10, 3) := by decide +kernel
theorem dX10_surd_65 : decode cX10_surd 65 = .ok (.getfield 58, 3) := by decide +kernel
theorem dX10_surd_68 : decode cX10_surd 68 = .ok (.iload_n 1, 1) := by decide +kernel
theorem dX10_surd_69 : decode cX10_surd 69 = .ok (.iload_n 2, 1) := by decide +kernel
theorem dX10_surd_70 : decode cX10_surd 70 = .ok (.iload_n 3, 1) := by decide +kernel
theorem dX10_surd_71 : decode cX10_surd 71 = .ok (.invokevirtual 80, 3) := by decide +kernel
theorem dX10_surd_74 : decode cX10_surd 74 = .ok (.aload_n 0, 1) := by decide +kernel
theorem dX10_surd_75 : decode cX10_surd 75 = .ok (.getfield 10, 3) := by decide +kernel
theorem dX10_surd_78 : decode cX10_surd 78 = .ok (.getfield 86, 3) := by decide +kernel
theorem dX10_surd_81 : decode cX10_surd 81 = .ok (.aload_n 0, 1) := by decide +kernel
theorem dX10_surd_82 : decode cX10_surd 82 = .ok (.getfield 10, 3) := by decide +kernel
theorem dX10_surd_85 : decode cX10_surd 85 = .ok (.getfield 58, 3) := by decide +kernel
theorem dX10_surd_88 : decode cX10_surd 88 = .ok (.invokevirtual 90, 3) := by decide +kernel
theorem dX10_surd_91 : decode cX10_surd 91 = .ok (.aload_n 0, 1) := by decide +kernel
theorem dX10_surd_92 : decode cX10_surd 92 = .ok (.getfield 26, 3) := by decide +kernel
theorem dX10_surd_95 : decode cX10_surd 95 = .ok (.aload_n 0, 1) := by decide +kernel
theorem dX10_surd_96 : decode cX10_surd 96 = .ok (.getfield 10, 3) := by decide +kernel
theorem dX10_surd_99 : decode cX10_surd 99 = .ok (.getfield 58, 3) := by decide +kernel
theorem dX10_surd_102 : decode cX10_surd 102 = .ok (.invokevirtual 62, 3) := by decide +kernel
theorem dX10_surd_105 : decode cX10_surd 105 = .ok (.iconst 0, 1) := by decide +kernel
theorem dX10_surd_106 : decode cX10_surd 106 = .ok (.ireturn, 1) := by decide +kernel
theorem dX10_partOf_0 : decode cX10_partOf 0 = .ok (.iload_n 1, 1) := by decide +kernel
theorem dX10_partOf_1 : decode cX10_partOf 1 = .ok (.tableswitch 72 0 2 #[27, 42, 57], 27) := by decide +kernel
theorem dX10_partOf_28 : decode cX10_partOf 28 = .ok (.aload_n 0, 1) := by decide +kernel
theorem dX10_partOf_29 : decode cX10_partOf 29 = .ok (.getfield 10, 3) := by decide +kernel
theorem dX10_partOf_32 : decode cX10_partOf 32 = .ok (.getfield 58, 3) := by decide +kernel
theorem dX10_partOf_35 : decode cX10_partOf 35 = .ok (.getfield 95, 3) := by decide +kernel
theorem dX10_partOf_38 : decode cX10_partOf 38 = .ok (.sipush 1000, 3) := by decide +kernel
theorem dX10_partOf_41 : decode cX10_partOf 41 = .ok (.iadd, 1) := by decide +kernel
theorem dX10_partOf_42 : decode cX10_partOf 42 = .ok (.ireturn, 1) := by decide +kernel
theorem dX10_partOf_43 : decode cX10_partOf 43 = .ok (.aload_n 0, 1) := by decide +kernel
theorem dX10_partOf_44 : decode cX10_partOf 44 = .ok (.getfield 10, 3) := by decide +kernel
theorem dX10_partOf_47 : decode cX10_partOf 47 = .ok (.getfield 58, 3) := by decide +kernel
theorem dX10_partOf_50 : decode cX10_partOf 50 = .ok (.getfield 99, 3) := by decide +kernel
theorem dX10_partOf_53 : decode cX10_partOf 53 = .ok (.sipush 1000, 3) := by decide +kernel
theorem dX10_partOf_56 : decode cX10_partOf 56 = .ok (.iadd, 1) := by decide +kernel
theorem dX10_partOf_57 : decode cX10_partOf 57 = .ok (.ireturn, 1) := by decide +kernel
theorem dX10_partOf_58 : decode cX10_partOf 58 = .ok (.aload_n 0, 1) := by decide +kernel
theorem dX10_partOf_59 : decode cX10_partOf 59 = .ok (.getfield 10, 3) := by decide +kernel
theorem dX10_partOf_62 : decode cX10_partOf 62 = .ok (.getfield 58, 3) := by decide +kernel
theorem dX10_partOf_65 : decode cX10_partOf 65 = .ok (.getfield 102, 3) := by decide +kernel
theorem dX10_partOf_68 : decode cX10_partOf 68 = .ok (.sipush 1000, 3) := by decide +kernel
theorem dX10_partOf_71 : decode cX10_partOf 71 = .ok (.iadd, 1) := by decide +kernel
theorem dX10_partOf_72 : decode cX10_partOf 72 = .ok (.ireturn, 1) := by decide +kernel
theorem dX10_partOf_73 : decode cX10_partOf 73 = .ok (.ldc 70, 2) := by decide +kernel
theorem dX10_partOf_75 : decode cX10_partOf 75 = .ok (.ireturn, 1) := by decide +kernel
theorem dX10_term_0 : decode cX10_term 0 = .ok (.iload_n 1, 1) := by decide +kernel
theorem dX10_term_1 : decode cX10_term 1 = .ok (.iconst 0, 1) := by decide +kernel
theorem dX10_term_2 : decode cX10_term 2 = .ok (.sipush 399, 3) := by decide +kernel
theorem dX10_term_5 : decode cX10_term 5 = .ok (.invokestatic 66, 3) := by decide +kernel
theorem dX10_term_8 : decode cX10_term 8 = .ok (.ifCond .ne 6, 3) := by decide +kernel
theorem dX10_term_11 : decode cX10_term 11 = .ok (.ldc 70, 2) := by decide +kernel
theorem dX10_term_13 : decode cX10_term 13 = .ok (.ireturn, 1) := by decide +kernel
theorem dX10_term_14 : decode cX10_term 14 = .ok (.aload_n 0, 1) := by decide +kernel
theorem dX10_term_15 : decode cX10_term 15 = .ok (.getfield 26, 3) := by decide +kernel
theorem dX10_term_18 : decode cX10_term 18 = .ok (.iload_n 1, 1) := by decide +kernel
theorem dX10_term_19 : decode cX10_term 19 = .ok (.invokevirtual 105, 3) := by decide +kernel
theorem dX10_term_22 : decode cX10_term 22 = .ok (.sipush 1000, 3) := by decide +kernel
theorem dX10_term_25 : decode cX10_term 25 = .ok (.iadd, 1) := by decide +kernel
theorem dX10_term_26 : decode cX10_term 26 = .ok (.ireturn, 1) := by decide +kernel
theorem dX10_again_0 : decode cX10_again 0 = .ok (.iload_n 1, 1) := by decide +kernel
theorem dX10_again_1 : decode cX10_again 1 = .ok (.iconst 0, 1) := by decide +kernel
theorem dX10_again_2 : decode cX10_again 2 = .ok (.iconst 4, 1) := by decide +kernel
theorem dX10_again_3 : decode cX10_again 3 = .ok (.invokestatic 66, 3) := by decide +kernel
theorem dX10_again_6 : decode cX10_again 6 = .ok (.ifCond .ne 6, 3) := by decide +kernel
theorem dX10_again_9 : decode cX10_again 9 = .ok (.ldc 70, 2) := by decide +kernel
theorem dX10_again_11 : decode cX10_again 11 = .ok (.ireturn, 1) := by decide +kernel
theorem dX10_again_12 : decode cX10_again 12 = .ok (.aload_n 0, 1) := by decide +kernel
theorem dX10_again_13 : decode cX10_again 13 = .ok (.getfield 26, 3) := by decide +kernel
theorem dX10_again_16 : decode cX10_again 16 = .ok (.invokevirtual 109, 3) := by decide +kernel
theorem dX10_again_19 : decode cX10_again 19 = .ok (.ifCond .ne 6, 3) := by decide +kernel
theorem dX10_again_22 : decode cX10_again 22 = .ok (.ldc 113, 2) := by decide +kernel
theorem dX10_again_24 : decode cX10_again 24 = .ok (.ireturn, 1) := by decide +kernel
theorem dX10_again_25 : decode cX10_again 25 = .ok (.iload_n 1, 1) := by decide +kernel
theorem dX10_again_26 : decode cX10_again 26 = .ok (.tableswitch 62 0 3 #[30, 38, 46, 54], 30) := by decide +kernel
theorem dX10_again_56 : decode cX10_again 56 = .ok (.aload_n 0, 1) := by decide +kernel
theorem dX10_again_57 : decode cX10_again 57 = .ok (.getfield 26, 3) := by decide +kernel
theorem dX10_again_60 : decode cX10_again 60 = .ok (.getfield 114, 3) := by decide +kernel
theorem dX10_again_63 : decode cX10_again 63 = .ok (.ireturn, 1) := by decide +kernel
theorem dX10_again_64 : decode cX10_again 64 = .ok (.aload_n 0, 1) := by decide +kernel
theorem dX10_again_65 : decode cX10_again 65 = .ok (.getfield 26, 3) := by decide +kernel
theorem dX10_again_68 : decode cX10_again 68 = .ok (.getfield 117, 3) := by decide +kernel
theorem dX10_again_71 : decode cX10_again 71 = .ok (.ireturn, 1) := by decide +kernel
theorem dX10_again_72 : decode cX10_again 72 = .ok (.aload_n 0, 1) := by decide +kernel
theorem dX10_again_73 : decode cX10_again 73 = .ok (.getfield 26, 3) := by decide +kernel
theorem dX10_again_76 : decode cX10_again 76 = .ok (.invokevirtual 120, 3) := by decide +kernel
theorem dX10_again_79 : decode cX10_again 79 = .ok (.ireturn, 1) := by decide +kernel
theorem dX10_again_80 : decode cX10_again 80 = .ok (.aload_n 0, 1) := by decide +kernel
theorem dX10_again_81 : decode cX10_again 81 = .ok (.getfield 26, 3) := by decide +kernel
theorem dX10_again_84 : decode cX10_again 84 = .ok (.invokevirtual 124, 3) := by decide +kernel
theorem dX10_again_87 : decode cX10_again 87 = .ok (.ireturn, 1) := by decide +kernel
theorem dX10_again_88 : decode cX10_again 88 = .ok (.aload_n 0, 1) := by decide +kernel
theorem dX10_again_89 : decode cX10_again 89 = .ok (.getfield 26, 3) := by decide +kernel
theorem dX10_again_92 : decode cX10_again 92 = .ok (.invokevirtual 127, 3) := by decide +kernel
theorem dX10_again_95 : decode cX10_again 95 = .ok (.invokestatic 130, 3) := by decide +kernel
theorem dX10_again_98 : decode cX10_again 98 = .ok (.ireturn, 1) := by decide +kernel
theorem dX10_convergent_0 : decode cX10_convergent 0 = .ok (.iload_n 1, 1) := by decide +kernel
theorem dX10_convergent_1 : decode cX10_convergent 1 = .ok (.iconst 0, 1) := by decide +kernel
theorem dX10_convergent_2 : decode cX10_convergent 2 = .ok (.sipush 399, 3) := by decide +kernel
theorem dX10_convergent_5 : decode cX10_convergent 5 = .ok (.invokestatic 66, 3) := by decide +kernel
theorem dX10_convergent_8 : decode cX10_convergent 8 = .ok (.ifCond .eq 12, 3) := by decide +kernel
theorem dX10_convergent_11 : decode cX10_convergent 11 = .ok (.iload_n 2, 1) := by decide +kernel
theorem dX10_convergent_12 : decode cX10_convergent 12 = .ok (.iconst 0, 1) := by decide +kernel
theorem dX10_convergent_13 : decode cX10_convergent 13 = .ok (.iconst 1, 1) := by decide +kernel
theorem dX10_convergent_14 : decode cX10_convergent 14 = .ok (.invokestatic 66, 3) := by decide +kernel
theorem dX10_convergent_17 : decode cX10_convergent 17 = .ok (.ifCond .ne 7, 3) := by decide +kernel
theorem dX10_convergent_20 : decode cX10_convergent 20 = .ok (.ldc2_w 134, 3) := by decide +kernel
theorem dX10_convergent_23 : decode cX10_convergent 23 = .ok (.lreturn, 1) := by decide +kernel
theorem dX10_convergent_24 : decode cX10_convergent 24 = .ok (.iload_n 1, 1) := by decide +kernel
theorem dX10_convergent_25 : decode cX10_convergent 25 = .ok (.aload_n 0, 1) := by decide +kernel
theorem dX10_convergent_26 : decode cX10_convergent 26 = .ok (.getfield 26, 3) := by decide +kernel
theorem dX10_convergent_29 : decode cX10_convergent 29 = .ok (.getfield 136, 3) := by decide +kernel
theorem dX10_convergent_32 : decode cX10_convergent 32 = .ok (.if_icmp .lt 7, 3) := by decide +kernel
theorem dX10_convergent_35 : decode cX10_convergent 35 = .ok (.ldc2_w 139, 3) := by decide +kernel
theorem dX10_convergent_38 : decode cX10_convergent 38 = .ok (.lreturn, 1) := by decide +kernel
theorem dX10_convergent_39 : decode cX10_convergent 39 = .ok (.iload_n 2, 1) := by decide +kernel
theorem dX10_convergent_40 : decode cX10_convergent 40 = .ok (.ifCond .ne 18, 3) := by decide +kernel
theorem dX10_convergent_43 : decode cX10_convergent 43 = .ok (.aload_n 0, 1) := by decide +kernel
theorem dX10_convergent_44 : decode cX10_convergent 44 = .ok (.getfield 26, 3) := by decide +kernel
theorem dX10_convergent_47 : decode cX10_convergent 47 = .ok (.iload_n 1, 1) := by decide +kernel
theorem dX10_convergent_48 : decode cX10_convergent 48 = .ok (.invokevirtual 141, 3) := by decide +kernel
theorem dX10_convergent_51 : decode cX10_convergent 51 = .ok (.ldc2_w 145, 3) := by decide +kernel
theorem dX10_convergent_54 : decode cX10_convergent 54 = .ok (.ladd, 1) := by decide +kernel
theorem dX10_convergent_55 : decode cX10_convergent 55 = .ok (.goto 11, 3) := by decide +kernel
theorem dX10_convergent_58 : decode cX10_convergent 58 = .ok (.aload_n 0, 1) := by decide +kernel
theorem dX10_convergent_59 : decode cX10_convergent 59 = .ok (.getfield 26, 3) := by decide +kernel
theorem dX10_convergent_62 : decode cX10_convergent 62 = .ok (.iload_n 1, 1) := by decide +kernel
theorem dX10_convergent_63 : decode cX10_convergent 63 = .ok (.invokevirtual 147, 3) := by decide +kernel
theorem dX10_convergent_66 : decode cX10_convergent 66 = .ok (.lreturn, 1) := by decide +kernel
theorem dX10_between_0 : decode cX10_between 0 = .ok (.iload_n 1, 1) := by decide +kernel
theorem dX10_between_1 : decode cX10_between 1 = .ok (.iconst 2, 1) := by decide +kernel
theorem dX10_between_2 : decode cX10_between 2 = .ok (.sipush 399, 3) := by decide +kernel
theorem dX10_between_5 : decode cX10_between 5 = .ok (.invokestatic 66, 3) := by decide +kernel
theorem dX10_between_8 : decode cX10_between 8 = .ok (.ifCond .eq 30, 3) := by decide +kernel
theorem dX10_between_11 : decode cX10_between 11 = .ok (.iload_n 3, 1) := by decide +kernel
theorem dX10_between_12 : decode cX10_between 12 = .ok (.iconst 0, 1) := by decide +kernel
theorem dX10_between_13 : decode cX10_between 13 = .ok (.iconst 1, 1) := by decide +kernel
theorem dX10_between_14 : decode cX10_between 14 = .ok (.invokestatic 66, 3) := by decide +kernel
theorem dX10_between_17 : decode cX10_between 17 = .ok (.ifCond .eq 21, 3) := by decide +kernel
theorem dX10_between_20 : decode cX10_between 20 = .ok (.iload_n 2, 1) := by decide +kernel
theorem dX10_between_21 : decode cX10_between 21 = .ok (.iconst 1, 1) := by decide +kernel
theorem dX10_between_22 : decode cX10_between 22 = .ok (.aload_n 0, 1) := by decide +kernel
theorem dX10_between_23 : decode cX10_between 23 = .ok (.getfield 26, 3) := by decide +kernel
theorem dX10_between_26 : decode cX10_between 26 = .ok (.iload_n 1, 1) := by decide +kernel
theorem dX10_between_27 : decode cX10_between 27 = .ok (.invokevirtual 105, 3) := by decide +kernel
theorem dX10_between_30 : decode cX10_between 30 = .ok (.iconst 1, 1) := by decide +kernel
theorem dX10_between_31 : decode cX10_between 31 = .ok (.isub, 1) := by decide +kernel
theorem dX10_between_32 : decode cX10_between 32 = .ok (.invokestatic 66, 3) := by decide +kernel
theorem dX10_between_35 : decode cX10_between 35 = .ok (.ifCond .ne 7, 3) := by decide +kernel
theorem dX10_between_38 : decode cX10_between 38 = .ok (.ldc2_w 134, 3) := by decide +kernel
theorem dX10_between_41 : decode cX10_between 41 = .ok (.lreturn, 1) := by decide +kernel
theorem dX10_between_42 : decode cX10_between 42 = .ok (.iload_n 1, 1) := by decide +kernel
theorem dX10_between_43 : decode cX10_between 43 = .ok (.aload_n 0, 1) := by decide +kernel
theorem dX10_between_44 : decode cX10_between 44 = .ok (.getfield 26, 3) := by decide +kernel
theorem dX10_between_47 : decode cX10_between 47 = .ok (.getfield 136, 3) := by decide +kernel
theorem dX10_between_50 : decode cX10_between 50 = .ok (.if_icmp .lt 7, 3) := by decide +kernel
theorem dX10_between_53 : decode cX10_between 53 = .ok (.ldc2_w 139, 3) := by decide +kernel
theorem dX10_between_56 : decode cX10_between 56 = .ok (.lreturn, 1) := by decide +kernel
theorem dX10_between_57 : decode cX10_between 57 = .ok (.iload_n 3, 1) := by decide +kernel
theorem dX10_between_58 : decode cX10_between 58 = .ok (.ifCond .ne 32, 3) := by decide +kernel
theorem dX10_between_61 : decode cX10_between 61 = .ok (.iload_n 2, 1) := by decide +kernel
theorem dX10_between_62 : decode cX10_between 62 = .ok (.i2l, 1) := by decide +kernel
theorem dX10_between_63 : decode cX10_between 63 = .ok (.aload_n 0, 1) := by decide +kernel
theorem dX10_between_64 : decode cX10_between 64 = .ok (.getfield 26, 3) := by decide +kernel
theorem dX10_between_67 : decode cX10_between 67 = .ok (.iload_n 1, 1) := by decide +kernel
theorem dX10_between_68 : decode cX10_between 68 = .ok (.iconst 1, 1) := by decide +kernel
theorem dX10_between_69 : decode cX10_between 69 = .ok (.isub, 1) := by decide +kernel
theorem dX10_between_70 : decode cX10_between 70 = .ok (.invokevirtual 141, 3) := by decide +kernel
theorem dX10_between_73 : decode cX10_between 73 = .ok (.lmul, 1) := by decide +kernel
theorem dX10_between_74 : decode cX10_between 74 = .ok (.aload_n 0, 1) := by decide +kernel
theorem dX10_between_75 : decode cX10_between 75 = .ok (.getfield 26, 3) := by decide +kernel
theorem dX10_between_78 : decode cX10_between 78 = .ok (.iload_n 1, 1) := by decide +kernel
theorem dX10_between_79 : decode cX10_between 79 = .ok (.iconst 2, 1) := by decide +kernel
theorem dX10_between_80 : decode cX10_between 80 = .ok (.isub, 1) := by decide +kernel
theorem dX10_between_81 : decode cX10_between 81 = .ok (.invokevirtual 141, 3) := by decide +kernel
theorem dX10_between_84 : decode cX10_between 84 = .ok (.ladd, 1) := by decide +kernel
theorem dX10_between_85 : decode cX10_between 85 = .ok (.ldc2_w 145, 3) := by decide +kernel
theorem dX10_between_88 : decode cX10_between 88 = .ok (.ladd, 1) := by decide +kernel
theorem dX10_between_89 : decode cX10_between 89 = .ok (.lreturn, 1) := by decide +kernel
theorem dX10_between_90 : decode cX10_between 90 = .ok (.iload_n 2, 1) := by decide +kernel
theorem dX10_between_91 : decode cX10_between 91 = .ok (.i2l, 1) := by decide +kernel
theorem dX10_between_92 : decode cX10_between 92 = .ok (.aload_n 0, 1) := by decide +kernel
theorem dX10_between_93 : decode cX10_between 93 = .ok (.getfield 26, 3) := by decide +kernel
theorem dX10_between_96 : decode cX10_between 96 = .ok (.iload_n 1, 1) := by decide +kernel
theorem dX10_between_97 : decode cX10_between 97 = .ok (.iconst 1, 1) := by decide +kernel
theorem dX10_between_98 : decode cX10_between 98 = .ok (.isub, 1) := by decide +kernel
theorem dX10_between_99 : decode cX10_between 99 = .ok (.invokevirtual 147, 3) := by decide +kernel
theorem dX10_between_102 : decode cX10_between 102 = .ok (.lmul, 1) := by decide +kernel
theorem dX10_between_103 : decode cX10_between 103 = .ok (.aload_n 0, 1) := by decide +kernel
theorem dX10_between_104 : decode cX10_between 104 = .ok (.getfield 26, 3) := by decide +kernel
theorem dX10_between_107 : decode cX10_between 107 = .ok (.iload_n 1, 1) := by decide +kernel
theorem dX10_between_108 : decode cX10_between 108 = .ok (.iconst 2, 1) := by decide +kernel
theorem dX10_between_109 : decode cX10_between 109 = .ok (.isub, 1) := by decide +kernel
theorem dX10_between_110 : decode cX10_between 110 = .ok (.invokevirtual 147, 3) := by decide +kernel
theorem dX10_between_113 : decode cX10_between 113 = .ok (.ladd, 1) := by decide +kernel
theorem dX10_between_114 : decode cX10_between 114 = .ok (.lreturn, 1) := by decide +kernel
theorem dX10_nearest_0 : decode cX10_nearest 0 = .ok (.iload_n 1, 1) := by decide +kernel
theorem dX10_nearest_1 : decode cX10_nearest 1 = .ok (.iconst 1, 1) := by decide +kernel
theorem dX10_nearest_2 : decode cX10_nearest 2 = .ok (.sipush 200, 3) := by decide +kernel
theorem dX10_nearest_5 : decode cX10_nearest 5 = .ok (.invokestatic 66, 3) := by decide +kernel
theorem dX10_nearest_8 : decode cX10_nearest 8 = .ok (.ifCond .eq 12, 3) := by decide +kernel
theorem dX10_nearest_11 : decode cX10_nearest 11 = .ok (.iload_n 2, 1) := by decide +kernel
theorem dX10_nearest_12 : decode cX10_nearest 12 = .ok (.iconst 0, 1) := by decide +kernel
theorem dX10_nearest_13 : decode cX10_nearest 13 = .ok (.iconst 1, 1) := by decide +kernel
theorem dX10_nearest_14 : decode cX10_nearest 14 = .ok (.invokestatic 66, 3) := by decide +kernel
theorem dX10_nearest_17 : decode cX10_nearest 17 = .ok (.ifCond .ne 6, 3) := by decide +kernel
theorem dX10_nearest_20 : decode cX10_nearest 20 = .ok (.ldc 70, 2) := by decide +kernel
theorem dX10_nearest_22 : decode cX10_nearest 22 = .ok (.ireturn, 1) := by decide +kernel
theorem dX10_nearest_23 : decode cX10_nearest 23 = .ok (.aload_n 0, 1) := by decide +kernel
theorem dX10_nearest_24 : decode cX10_nearest 24 = .ok (.getfield 33, 3) := by decide +kernel
theorem dX10_nearest_27 : decode cX10_nearest 27 = .ok (.aload_n 0, 1) := by decide +kernel
theorem dX10_nearest_28 : decode cX10_nearest 28 = .ok (.getfield 10, 3) := by decide +kernel
theorem dX10_nearest_31 : decode cX10_nearest 31 = .ok (.getfield 58, 3) := by decide +kernel
theorem dX10_nearest_34 : decode cX10_nearest 34 = .ok (.aload_n 0, 1) := by decide +kernel
theorem dX10_nearest_35 : decode cX10_nearest 35 = .ok (.getfield 26, 3) := by decide +kernel
theorem dX10_nearest_38 : decode cX10_nearest 38 = .ok (.iconst 0, 1) := by decide +kernel
theorem dX10_nearest_39 : decode cX10_nearest 39 = .ok (.invokevirtual 105, 3) := by decide +kernel
theorem dX10_nearest_42 : decode cX10_nearest 42 = .ok (.iload_n 1, 1) := by decide +kernel
theorem dX10_nearest_43 : decode cX10_nearest 43 = .ok (.invokevirtual 150, 3) := by decide +kernel
theorem dX10_nearest_46 : decode cX10_nearest 46 = .ok (.aload_n 0, 1) := by decide +kernel
theorem dX10_nearest_47 : decode cX10_nearest 47 = .ok (.aload_n 0, 1) := by decide +kernel
theorem dX10_nearest_48 : decode cX10_nearest 48 = .ok (.getfield 33, 3) := by decide +kernel
theorem dX10_nearest_51 : decode cX10_nearest 51 = .ok (.aload_n 0, 1) := by decide +kernel
theorem dX10_nearest_52 : decode cX10_nearest 52 = .ok (.getfield 10, 3) := by decide +kernel
theorem dX10_nearest_55 : decode cX10_nearest 55 = .ok (.getfield 58, 3) := by decide +kernel
theorem dX10_nearest_58 : decode cX10_nearest 58 = .ok (.invokevirtual 154, 3) := by decide +kernel
theorem dX10_nearest_61 : decode cX10_nearest 61 = .ok (.iload_n 2, 1) := by decide +kernel
theorem dX10_nearest_62 : decode cX10_nearest 62 = .ok (.invokevirtual 158, 3) := by decide +kernel
theorem dX10_nearest_65 : decode cX10_nearest 65 = .ok (.ireturn, 1) := by decide +kernel
theorem dX10_beside_0 : decode cX10_beside 0 = .ok (.iload_n 1, 1) := by decide +kernel
theorem dX10_beside_1 : decode cX10_beside 1 = .ok (.iconst 1, 1) := by decide +kernel
theorem dX10_beside_2 : decode cX10_beside 2 = .ok (.sipush 200, 3) := by decide +kernel
theorem dX10_beside_5 : decode cX10_beside 5 = .ok (.invokestatic 66, 3) := by decide +kernel
theorem dX10_beside_8 : decode cX10_beside 8 = .ok (.ifCond .eq 21, 3) := by decide +kernel
theorem dX10_beside_11 : decode cX10_beside 11 = .ok (.iload_n 2, 1) := by decide +kernel
theorem dX10_beside_12 : decode cX10_beside 12 = .ok (.iconst 0, 1) := by decide +kernel
theorem dX10_beside_13 : decode cX10_beside 13 = .ok (.iconst 1, 1) := by decide +kernel
theorem dX10_beside_14 : decode cX10_beside 14 = .ok (.invokestatic 66, 3) := by decide +kernel
theorem dX10_beside_17 : decode cX10_beside 17 = .ok (.ifCond .eq 12, 3) := by decide +kernel
theorem dX10_beside_20 : decode cX10_beside 20 = .ok (.iload_n 3, 1) := by decide +kernel
theorem dX10_beside_21 : decode cX10_beside 21 = .ok (.iconst 0, 1) := by decide +kernel
theorem dX10_beside_22 : decode cX10_beside 22 = .ok (.iconst 1, 1) := by decide +kernel
theorem dX10_beside_23 : decode cX10_beside 23 = .ok (.invokestatic 66, 3) := by decide +kernel
theorem dX10_beside_26 : decode cX10_beside 26 = .ok (.ifCond .ne 6, 3) := by decide +kernel
theorem dX10_beside_29 : decode cX10_beside 29 = .ok (.ldc 70, 2) := by decide +kernel
theorem dX10_beside_31 : decode cX10_beside 31 = .ok (.ireturn, 1) := by decide +kernel
theorem dX10_beside_32 : decode cX10_beside 32 = .ok (.aload_n 0, 1) := by decide +kernel
theorem dX10_beside_33 : decode cX10_beside 33 = .ok (.getfield 33, 3) := by decide +kernel
theorem dX10_beside_36 : decode cX10_beside 36 = .ok (.aload_n 0, 1) := by decide +kernel
theorem dX10_beside_37 : decode cX10_beside 37 = .ok (.getfield 10, 3) := by decide +kernel
theorem dX10_beside_40 : decode cX10_beside 40 = .ok (.getfield 58, 3) := by decide +kernel
theorem dX10_beside_43 : decode cX10_beside 43 = .ok (.aload_n 0, 1) := by decide +kernel
theorem dX10_beside_44 : decode cX10_beside 44 = .ok (.getfield 26, 3) := by decide +kernel
theorem dX10_beside_47 : decode cX10_beside 47 = .ok (.iconst 0, 1) := by decide +kernel
theorem dX10_beside_48 : decode cX10_beside 48 = .ok (.invokevirtual 105, 3) := by decide +kernel
theorem dX10_beside_51 : decode cX10_beside 51 = .ok (.iload_n 1, 1) := by decide +kernel
theorem dX10_beside_52 : decode cX10_beside 52 = .ok (.invokevirtual 150, 3) := by decide +kernel
theorem dX10_beside_55 : decode cX10_beside 55 = .ok (.aload_n 0, 1) := by decide +kernel
theorem dX10_beside_56 : decode cX10_beside 56 = .ok (.iload_n 2, 1) := by decide +kernel
theorem dX10_beside_57 : decode cX10_beside 57 = .ok (.iconst 1, 1) := by decide +kernel
theorem dX10_beside_58 : decode cX10_beside 58 = .ok (.if_icmp .ne 7, 3) := by decide +kernel
theorem dX10_beside_61 : decode cX10_beside 61 = .ok (.iconst 1, 1) := by decide +kernel
theorem dX10_beside_62 : decode cX10_beside 62 = .ok (.goto 4, 3) := by decide +kernel
theorem dX10_beside_65 : decode cX10_beside 65 = .ok (.iconst 0, 1) := by decide +kernel
theorem dX10_beside_66 : decode cX10_beside 66 = .ok (.iload_n 3, 1) := by decide +kernel
theorem dX10_beside_67 : decode cX10_beside 67 = .ok (.invokevirtual 158, 3) := by decide +kernel
theorem dX10_beside_70 : decode cX10_beside 70 = .ok (.ireturn, 1) := by decide +kernel
theorem dX10_records_0 : decode cX10_records 0 = .ok (.iload_n 1, 1) := by decide +kernel
theorem dX10_records_1 : decode cX10_records 1 = .ok (.iconst 1, 1) := by decide +kernel
theorem dX10_records_2 : decode cX10_records 2 = .ok (.sipush 200, 3) := by decide +kernel
theorem dX10_records_5 : decode cX10_records 5 = .ok (.invokestatic 66, 3) := by decide +kernel
theorem dX10_records_8 : decode cX10_records 8 = .ok (.ifCond .ne 6, 3) := by decide +kernel
theorem dX10_records_11 : decode cX10_records 11 = .ok (.ldc 70, 2) := by decide +kernel
theorem dX10_records_13 : decode cX10_records 13 = .ok (.ireturn, 1) := by decide +kernel
theorem dX10_records_14 : decode cX10_records 14 = .ok (.aload_n 0, 1) := by decide +kernel
theorem dX10_records_15 : decode cX10_records 15 = .ok (.getfield 33, 3) := by decide +kernel
theorem dX10_records_18 : decode cX10_records 18 = .ok (.aload_n 0, 1) := by decide +kernel
theorem dX10_records_19 : decode cX10_records 19 = .ok (.getfield 10, 3) := by decide +kernel
theorem dX10_records_22 : decode cX10_records 22 = .ok (.getfield 58, 3) := by decide +kernel
theorem dX10_records_25 : decode cX10_records 25 = .ok (.aload_n 0, 1) := by decide +kernel
theorem dX10_records_26 : decode cX10_records 26 = .ok (.getfield 26, 3) := by decide +kernel
theorem dX10_records_29 : decode cX10_records 29 = .ok (.iconst 0, 1) := by decide +kernel
theorem dX10_records_30 : decode cX10_records 30 = .ok (.invokevirtual 105, 3) := by decide +kernel
theorem dX10_records_33 : decode cX10_records 33 = .ok (.iload_n 1, 1) := by decide +kernel
theorem dX10_records_34 : decode cX10_records 34 = .ok (.invokevirtual 150, 3) := by decide +kernel
theorem dX10_records_37 : decode cX10_records 37 = .ok (.aload_n 0, 1) := by decide +kernel
theorem dX10_records_38 : decode cX10_records 38 = .ok (.getfield 33, 3) := by decide +kernel
theorem dX10_records_41 : decode cX10_records 41 = .ok (.getfield 162, 3) := by decide +kernel
theorem dX10_records_44 : decode cX10_records 44 = .ok (.ireturn, 1) := by decide +kernel
theorem dX10_solution_0 : decode cX10_solution 0 = .ok (.iload_n 1, 1) := by decide +kernel
theorem dX10_solution_1 : decode cX10_solution 1 = .ok (.invokestatic 165, 3) := by decide +kernel
theorem dX10_solution_4 : decode cX10_solution 4 = .ok (.ifCond .eq 16, 3) := by decide +kernel
theorem dX10_solution_7 : decode cX10_solution 7 = .ok (.iload_n 2, 1) := by decide +kernel
theorem dX10_solution_8 : decode cX10_solution 8 = .ok (.ifCond .lt 12, 3) := by decide +kernel
theorem dX10_solution_11 : decode cX10_solution 11 = .ok (.iload_n 3, 1) := by decide +kernel
theorem dX10_solution_12 : decode cX10_solution 12 = .ok (.iconst 0, 1) := by decide +kernel
theorem dX10_solution_13 : decode cX10_solution 13 = .ok (.iconst 1, 1) := by decide +kernel
theorem dX10_solution_14 : decode cX10_solution 14 = .ok (.invokestatic 66, 3) := by decide +kernel
theorem dX10_solution_17 : decode cX10_solution 17 = .ok (.ifCond .ne 6, 3) := by decide +kernel
theorem dX10_solution_20 : decode cX10_solution 20 = .ok (.ldc 70, 2) := by decide +kernel
theorem dX10_solution_22 : decode cX10_solution 22 = .ok (.ireturn, 1) := by decide +kernel
theorem dX10_solution_23 : decode cX10_solution 23 = .ok (.aload_n 0, 1) := by decide +kernel
theorem dX10_solution_24 : decode cX10_solution 24 = .ok (.getfield 40, 3) := by decide +kernel
theorem dX10_solution_27 : decode cX10_solution 27 = .ok (.aload_n 0, 1) := by decide +kernel
theorem dX10_solution_28 : decode cX10_solution 28 = .ok (.getfield 10, 3) := by decide +kernel
theorem dX10_solution_31 : decode cX10_solution 31 = .ok (.getfield 58, 3) := by decide +kernel
theorem dX10_solution_34 : decode cX10_solution 34 = .ok (.getfield 99, 3) := by decide +kernel
theorem dX10_solution_37 : decode cX10_solution 37 = .ok (.iload_n 1, 1) := by decide +kernel
theorem dX10_solution_38 : decode cX10_solution 38 = .ok (.iload_n 2, 1) := by decide +kernel
theorem dX10_solution_39 : decode cX10_solution 39 = .ok (.invokevirtual 168, 3) := by decide +kernel
theorem dX10_solution_42 : decode cX10_solution 42 = .ok (.ifCond .ne 6, 3) := by decide +kernel
theorem dX10_solution_45 : decode cX10_solution 45 = .ok (.ldc 170, 2) := by decide +kernel
theorem dX10_solution_47 : decode cX10_solution 47 = .ok (.ireturn, 1) := by decide +kernel
theorem dX10_solution_48 : decode cX10_solution 48 = .ok (.iload_n 3, 1) := by decide +kernel
theorem dX10_solution_49 : decode cX10_solution 49 = .ok (.ifCond .ne 13, 3) := by decide +kernel
theorem dX10_solution_52 : decode cX10_solution 52 = .ok (.aload_n 0, 1) := by decide +kernel
theorem dX10_solution_53 : decode cX10_solution 53 = .ok (.getfield 40, 3) := by decide +kernel
theorem dX10_solution_56 : decode cX10_solution 56 = .ok (.getfield 171, 3) := by decide +kernel
theorem dX10_solution_59 : decode cX10_solution 59 = .ok (.goto 10, 3) := by decide +kernel
theorem dX10_solution_62 : decode cX10_solution 62 = .ok (.aload_n 0, 1) := by decide +kernel
theorem dX10_solution_63 : decode cX10_solution 63 = .ok (.getfield 40, 3) := by decide +kernel
theorem dX10_solution_66 : decode cX10_solution 66 = .ok (.getfield 175, 3) := by decide +kernel
theorem dX10_solution_69 : decode cX10_solution 69 = .ok (.l2i, 1) := by decide +kernel
theorem dX10_solution_70 : decode cX10_solution 70 = .ok (.ireturn, 1) := by decide +kernel
theorem dX10_solutions_0 : decode cX10_solutions 0 = .ok (.iload_n 1, 1) := by decide +kernel
theorem dX10_solutions_1 : decode cX10_solutions 1 = .ok (.invokestatic 165, 3) := by decide +kernel
theorem dX10_solutions_4 : decode cX10_solutions 4 = .ok (.ifCond .ne 6, 3) := by decide +kernel
theorem dX10_solutions_7 : decode cX10_solutions 7 = .ok (.ldc 70, 2) := by decide +kernel
theorem dX10_solutions_9 : decode cX10_solutions 9 = .ok (.ireturn, 1) := by decide +kernel
theorem dX10_solutions_10 : decode cX10_solutions 10 = .ok (.aload_n 0, 1) := by decide +kernel
theorem dX10_solutions_11 : decode cX10_solutions 11 = .ok (.getfield 40, 3) := by decide +kernel
theorem dX10_solutions_14 : decode cX10_solutions 14 = .ok (.aload_n 0, 1) := by decide +kernel
theorem dX10_solutions_15 : decode cX10_solutions 15 = .ok (.getfield 10, 3) := by decide +kernel
theorem dX10_solutions_18 : decode cX10_solutions 18 = .ok (.getfield 58, 3) := by decide +kernel
theorem dX10_solutions_21 : decode cX10_solutions 21 = .ok (.getfield 99, 3) := by decide +kernel
theorem dX10_solutions_24 : decode cX10_solutions 24 = .ok (.iload_n 1, 1) := by decide +kernel
theorem dX10_solutions_25 : decode cX10_solutions 25 = .ok (.invokevirtual 178, 3) := by decide +kernel
theorem dX10_solutions_28 : decode cX10_solutions 28 = .ok (.ireturn, 1) := by decide +kernel
theorem dX10_leastSolution_0 : decode cX10_leastSolution 0 = .ok (.iload_n 1, 1) := by decide +kernel
theorem dX10_leastSolution_1 : decode cX10_leastSolution 1 = .ok (.iconst 0, 1) := by decide +kernel
theorem dX10_leastSolution_2 : decode cX10_leastSolution 2 = .ok (.iconst 1, 1) := by decide +kernel
theorem dX10_leastSolution_3 : decode cX10_leastSolution 3 = .ok (.invokestatic 66, 3) := by decide +kernel
theorem dX10_leastSolution_6 : decode cX10_leastSolution 6 = .ok (.ifCond .ne 7, 3) := by decide +kernel
theorem dX10_leastSolution_9 : decode cX10_leastSolution 9 = .ok (.ldc2_w 134, 3) := by decide +kernel
theorem dX10_leastSolution_12 : decode cX10_leastSolution 12 = .ok (.lreturn, 1) := by decide +kernel
theorem dX10_leastSolution_13 : decode cX10_leastSolution 13 = .ok (.aload_n 0, 1) := by decide +kernel
theorem dX10_leastSolution_14 : decode cX10_leastSolution 14 = .ok (.getfield 40, 3) := by decide +kernel
theorem dX10_leastSolution_17 : decode cX10_leastSolution 17 = .ok (.aload_n 0, 1) := by decide +kernel
theorem dX10_leastSolution_18 : decode cX10_leastSolution 18 = .ok (.getfield 10, 3) := by decide +kernel
theorem dX10_leastSolution_21 : decode cX10_leastSolution 21 = .ok (.getfield 58, 3) := by decide +kernel
theorem dX10_leastSolution_24 : decode cX10_leastSolution 24 = .ok (.getfield 99, 3) := by decide +kernel
theorem dX10_leastSolution_27 : decode cX10_leastSolution 27 = .ok (.invokevirtual 182, 3) := by decide +kernel
theorem dX10_leastSolution_30 : decode cX10_leastSolution 30 = .ok (.ifCond .ne 7, 3) := by decide +kernel
theorem dX10_leastSolution_33 : decode cX10_leastSolution 33 = .ok (.ldc2_w 139, 3) := by decide +kernel
theorem dX10_leastSolution_36 : decode cX10_leastSolution 36 = .ok (.lreturn, 1) := by decide +kernel
theorem dX10_leastSolution_37 : decode cX10_leastSolution 37 = .ok (.iload_n 1, 1) := by decide +kernel
theorem dX10_leastSolution_38 : decode cX10_leastSolution 38 = .ok (.ifCond .ne 13, 3) := by decide +kernel
theorem dX10_leastSolution_41 : decode cX10_leastSolution 41 = .ok (.aload_n 0, 1) := by decide +kernel
theorem dX10_leastSolution_42 : decode cX10_leastSolution 42 = .ok (.getfield 40, 3) := by decide +kernel
theorem dX10_leastSolution_45 : decode cX10_leastSolution 45 = .ok (.getfield 171, 3) := by decide +kernel
theorem dX10_leastSolution_48 : decode cX10_leastSolution 48 = .ok (.goto 10, 3) := by decide +kernel
theorem dX10_leastSolution_51 : decode cX10_leastSolution 51 = .ok (.aload_n 0, 1) := by decide +kernel
theorem dX10_leastSolution_52 : decode cX10_leastSolution 52 = .ok (.getfield 40, 3) := by decide +kernel
theorem dX10_leastSolution_55 : decode cX10_leastSolution 55 = .ok (.getfield 175, 3) := by decide +kernel
theorem dX10_leastSolution_58 : decode cX10_leastSolution 58 = .ok (.lreturn, 1) := by decide +kernel
theorem dX10_note_0 : decode cX10_note 0 = .ok (.aload_n 0, 1) := by decide +kernel
theorem dX10_note_1 : decode cX10_note 1 = .ok (.getfield 47, 3) := by decide +kernel
theorem dX10_note_4 : decode cX10_note 4 = .ok (.invokevirtual 185, 3) := by decide +kernel
theorem dX10_note_7 : decode cX10_note 7 = .ok (.aload_n 0, 1) := by decide +kernel
theorem dX10_note_8 : decode cX10_note 8 = .ok (.getfield 47, 3) := by decide +kernel
theorem dX10_note_11 : decode cX10_note 11 = .ok (.invokevirtual 188, 3) := by decide +kernel
theorem dX10_note_14 : decode cX10_note 14 = .ok (.ifCond .eq 6, 3) := by decide +kernel
theorem dX10_note_17 : decode cX10_note 17 = .ok (.ldc 75, 2) := by decide +kernel
theorem dX10_note_19 : decode cX10_note 19 = .ok (.ireturn, 1) := by decide +kernel
theorem dX10_note_20 : decode cX10_note 20 = .ok (.aload_n 0, 1) := by decide +kernel
theorem dX10_note_21 : decode cX10_note 21 = .ok (.getfield 47, 3) := by decide +kernel
theorem dX10_note_24 : decode cX10_note 24 = .ok (.aload_n 0, 1) := by decide +kernel
theorem dX10_note_25 : decode cX10_note 25 = .ok (.getfield 54, 3) := by decide +kernel
theorem dX10_note_28 : decode cX10_note 28 = .ok (.invokevirtual 191, 3) := by decide +kernel
theorem dX10_note_31 : decode cX10_note 31 = .ok (.aload_n 0, 1) := by decide +kernel
theorem dX10_note_32 : decode cX10_note 32 = .ok (.getfield 54, 3) := by decide +kernel
theorem dX10_note_35 : decode cX10_note 35 = .ok (.invokestatic 195, 3) := by decide +kernel
theorem dX10_note_38 : decode cX10_note 38 = .ok (.ifCond .eq 30, 3) := by decide +kernel
theorem dX10_note_41 : decode cX10_note 41 = .ok (.aload_n 0, 1) := by decide +kernel
theorem dX10_note_42 : decode cX10_note 42 = .ok (.getfield 10, 3) := by decide +kernel
theorem dX10_note_45 : decode cX10_note 45 = .ok (.getfield 86, 3) := by decide +kernel
theorem dX10_note_48 : decode cX10_note 48 = .ok (.aload_n 0, 1) := by decide +kernel
theorem dX10_note_49 : decode cX10_note 49 = .ok (.getfield 54, 3) := by decide +kernel
theorem dX10_note_52 : decode cX10_note 52 = .ok (.getfield 199, 3) := by decide +kernel
theorem dX10_note_55 : decode cX10_note 55 = .ok (.aload_n 0, 1) := by decide +kernel
theorem dX10_note_56 : decode cX10_note 56 = .ok (.getfield 54, 3) := by decide +kernel
theorem dX10_note_59 : decode cX10_note 59 = .ok (.getfield 202, 3) := by decide +kernel
theorem dX10_note_62 : decode cX10_note 62 = .ok (.invokevirtual 205, 3) := by decide +kernel
theorem dX10_note_65 : decode cX10_note 65 = .ok (.ifCond .eq 6, 3) := by decide +kernel
theorem dX10_note_68 : decode cX10_note 68 = .ok (.ldc 75, 2) := by decide +kernel
theorem dX10_note_70 : decode cX10_note 70 = .ok (.ireturn, 1) := by decide +kernel
theorem dX10_note_71 : decode cX10_note 71 = .ok (.aload_n 0, 1) := by decide +kernel
theorem dX10_note_72 : decode cX10_note 72 = .ok (.getfield 10, 3) := by decide +kernel
theorem dX10_note_75 : decode cX10_note 75 = .ok (.getfield 86, 3) := by decide +kernel
theorem dX10_note_78 : decode cX10_note 78 = .ok (.getfield 209, 3) := by decide +kernel
theorem dX10_note_81 : decode cX10_note 81 = .ok (.bipush 8, 2) := by decide +kernel
theorem dX10_note_83 : decode cX10_note 83 = .ok (.if_icmp .lt 6, 3) := by decide +kernel
theorem dX10_note_86 : decode cX10_note 86 = .ok (.ldc 113, 2) := by decide +kernel
theorem dX10_note_88 : decode cX10_note 88 = .ok (.ireturn, 1) := by decide +kernel
theorem dX10_note_89 : decode cX10_note 89 = .ok (.aload_n 0, 1) := by decide +kernel
theorem dX10_note_90 : decode cX10_note 90 = .ok (.getfield 19, 3) := by decide +kernel
theorem dX10_note_93 : decode cX10_note 93 = .ok (.aload_n 0, 1) := by decide +kernel
theorem dX10_note_94 : decode cX10_note 94 = .ok (.getfield 10, 3) := by decide +kernel
theorem dX10_note_97 : decode cX10_note 97 = .ok (.invokevirtual 76, 3) := by decide +kernel
theorem dX10_note_100 : decode cX10_note 100 = .ok (.aload_n 0, 1) := by decide +kernel
theorem dX10_note_101 : decode cX10_note 101 = .ok (.getfield 10, 3) := by decide +kernel
theorem dX10_note_104 : decode cX10_note 104 = .ok (.getfield 86, 3) := by decide +kernel
theorem dX10_note_107 : decode cX10_note 107 = .ok (.aload_n 0, 1) := by decide +kernel
theorem dX10_note_108 : decode cX10_note 108 = .ok (.getfield 10, 3) := by decide +kernel
theorem dX10_note_111 : decode cX10_note 111 = .ok (.getfield 58, 3) := by decide +kernel
theorem dX10_note_114 : decode cX10_note 114 = .ok (.aload_n 0, 1) := by decide +kernel
theorem dX10_note_115 : decode cX10_note 115 = .ok (.getfield 54, 3) := by decide +kernel
theorem dX10_note_118 : decode cX10_note 118 = .ok (.getfield 199, 3) := by decide +kernel
theorem dX10_note_121 : decode cX10_note 121 = .ok (.l2i, 1) := by decide +kernel
theorem dX10_note_122 : decode cX10_note 122 = .ok (.aload_n 0, 1) := by decide +kernel
theorem dX10_note_123 : decode cX10_note 123 = .ok (.getfield 54, 3) := by decide +kernel
theorem dX10_note_126 : decode cX10_note 126 = .ok (.getfield 202, 3) := by decide +kernel
theorem dX10_note_129 : decode cX10_note 129 = .ok (.l2i, 1) := by decide +kernel
theorem dX10_note_130 : decode cX10_note 130 = .ok (.invokevirtual 212, 3) := by decide +kernel
theorem dX10_note_133 : decode cX10_note 133 = .ok (.ireturn, 1) := by decide +kernel
theorem dX10_strike_0 : decode cX10_strike 0 = .ok (.iload_n 1, 1) := by decide +kernel
theorem dX10_strike_1 : decode cX10_strike 1 = .ok (.ifCond .ge 6, 3) := by decide +kernel
theorem dX10_strike_4 : decode cX10_strike 4 = .ok (.ldc 70, 2) := by decide +kernel
theorem dX10_strike_6 : decode cX10_strike 6 = .ok (.ireturn, 1) := by decide +kernel
theorem dX10_strike_7 : decode cX10_strike 7 = .ok (.iload_n 1, 1) := by decide +kernel
theorem dX10_strike_8 : decode cX10_strike 8 = .ok (.aload_n 0, 1) := by decide +kernel
theorem dX10_strike_9 : decode cX10_strike 9 = .ok (.getfield 10, 3) := by decide +kernel
theorem dX10_strike_12 : decode cX10_strike 12 = .ok (.getfield 86, 3) := by decide +kernel
theorem dX10_strike_15 : decode cX10_strike 15 = .ok (.getfield 209, 3) := by decide +kernel
theorem dX10_strike_18 : decode cX10_strike 18 = .ok (.if_icmp .lt 6, 3) := by decide +kernel
theorem dX10_strike_21 : decode cX10_strike 21 = .ok (.ldc 75, 2) := by decide +kernel
theorem dX10_strike_23 : decode cX10_strike 23 = .ok (.ireturn, 1) := by decide +kernel
theorem dX10_strike_24 : decode cX10_strike 24 = .ok (.aload_n 0, 1) := by decide +kernel
theorem dX10_strike_25 : decode cX10_strike 25 = .ok (.getfield 19, 3) := by decide +kernel
theorem dX10_strike_28 : decode cX10_strike 28 = .ok (.aload_n 0, 1) := by decide +kernel
theorem dX10_strike_29 : decode cX10_strike 29 = .ok (.getfield 10, 3) := by decide +kernel
theorem dX10_strike_32 : decode cX10_strike 32 = .ok (.invokevirtual 76, 3) := by decide +kernel
theorem dX10_strike_35 : decode cX10_strike 35 = .ok (.aload_n 0, 1) := by decide +kernel
theorem dX10_strike_36 : decode cX10_strike 36 = .ok (.getfield 10, 3) := by decide +kernel
theorem dX10_strike_39 : decode cX10_strike 39 = .ok (.getfield 86, 3) := by decide +kernel
theorem dX10_strike_42 : decode cX10_strike 42 = .ok (.iload_n 1, 1) := by decide +kernel
theorem dX10_strike_43 : decode cX10_strike 43 = .ok (.invokevirtual 216, 3) := by decide +kernel
theorem dX10_strike_46 : decode cX10_strike 46 = .ok (.aload_n 0, 1) := by decide +kernel
theorem dX10_strike_47 : decode cX10_strike 47 = .ok (.getfield 10, 3) := by decide +kernel
theorem dX10_strike_50 : decode cX10_strike 50 = .ok (.getfield 86, 3) := by decide +kernel
theorem dX10_strike_53 : decode cX10_strike 53 = .ok (.getfield 209, 3) := by decide +kernel
theorem dX10_strike_56 : decode cX10_strike 56 = .ok (.ireturn, 1) := by decide +kernel
theorem dX10_strikeAll_0 : decode cX10_strikeAll 0 = .ok (.aload_n 0, 1) := by decide +kernel
theorem dX10_strikeAll_1 : decode cX10_strikeAll 1 = .ok (.getfield 10, 3) := by decide +kernel
theorem dX10_strikeAll_4 : decode cX10_strikeAll 4 = .ok (.getfield 86, 3) := by decide +kernel
theorem dX10_strikeAll_7 : decode cX10_strikeAll 7 = .ok (.getfield 209, 3) := by decide +kernel
theorem dX10_strikeAll_10 : decode cX10_strikeAll 10 = .ok (.istore_n 1, 1) := by decide +kernel
theorem dX10_strikeAll_11 : decode cX10_strikeAll 11 = .ok (.aload_n 0, 1) := by decide +kernel
theorem dX10_strikeAll_12 : decode cX10_strikeAll 12 = .ok (.getfield 19, 3) := by decide +kernel
theorem dX10_strikeAll_15 : decode cX10_strikeAll 15 = .ok (.aload_n 0, 1) := by decide +kernel
theorem dX10_strikeAll_16 : decode cX10_strikeAll 16 = .ok (.getfield 10, 3) := by decide +kernel
theorem dX10_strikeAll_19 : decode cX10_strikeAll 19 = .ok (.invokevirtual 76, 3) := by decide +kernel
theorem dX10_strikeAll_22 : decode cX10_strikeAll 22 = .ok (.aload_n 0, 1) := by decide +kernel
theorem dX10_strikeAll_23 : decode cX10_strikeAll 23 = .ok (.getfield 10, 3) := by decide +kernel
theorem dX10_strikeAll_26 : decode cX10_strikeAll 26 = .ok (.getfield 86, 3) := by decide +kernel
theorem dX10_strikeAll_29 : decode cX10_strikeAll 29 = .ok (.iconst 0, 1) := by decide +kernel
theorem dX10_strikeAll_30 : decode cX10_strikeAll 30 = .ok (.putfield 209, 3) := by decide +kernel
theorem dX10_strikeAll_33 : decode cX10_strikeAll 33 = .ok (.iload_n 1, 1) := by decide +kernel
theorem dX10_strikeAll_34 : decode cX10_strikeAll 34 = .ok (.ireturn, 1) := by decide +kernel
theorem dX10_noteOf_0 : decode cX10_noteOf 0 = .ok (.iload_n 1, 1) := by decide +kernel
theorem dX10_noteOf_1 : decode cX10_noteOf 1 = .ok (.ifCond .lt 12, 3) := by decide +kernel
theorem dX10_noteOf_4 : decode cX10_noteOf 4 = .ok (.iload_n 2, 1) := by decide +kernel
theorem dX10_noteOf_5 : decode cX10_noteOf 5 = .ok (.iconst 0, 1) := by decide +kernel
theorem dX10_noteOf_6 : decode cX10_noteOf 6 = .ok (.iconst 3, 1) := by decide +kernel
theorem dX10_noteOf_7 : decode cX10_noteOf 7 = .ok (.invokestatic 66, 3) := by decide +kernel
theorem dX10_noteOf_10 : decode cX10_noteOf 10 = .ok (.ifCond .ne 6, 3) := by decide +kernel
theorem dX10_noteOf_13 : decode cX10_noteOf 13 = .ok (.ldc 70, 2) := by decide +kernel
theorem dX10_noteOf_15 : decode cX10_noteOf 15 = .ok (.ireturn, 1) := by decide +kernel
theorem dX10_noteOf_16 : decode cX10_noteOf 16 = .ok (.iload_n 1, 1) := by decide +kernel
theorem dX10_noteOf_17 : decode cX10_noteOf 17 = .ok (.aload_n 0, 1) := by decide +kernel
theorem dX10_noteOf_18 : decode cX10_noteOf 18 = .ok (.getfield 10, 3) := by decide +kernel
theorem dX10_noteOf_21 : decode cX10_noteOf 21 = .ok (.getfield 86, 3) := by decide +kernel
theorem dX10_noteOf_24 : decode cX10_noteOf 24 = .ok (.getfield 209, 3) := by decide +kernel
theorem dX10_noteOf_27 : decode cX10_noteOf 27 = .ok (.if_icmp .lt 6, 3) := by decide +kernel
theorem dX10_noteOf_30 : decode cX10_noteOf 30 = .ok (.ldc 170, 2) := by decide +kernel
theorem dX10_noteOf_32 : decode cX10_noteOf 32 = .ok (.ireturn, 1) := by decide +kernel
theorem dX10_noteOf_33 : decode cX10_noteOf 33 = .ok (.aload_n 0, 1) := by decide +kernel
theorem dX10_noteOf_34 : decode cX10_noteOf 34 = .ok (.getfield 10, 3) := by decide +kernel
theorem dX10_noteOf_37 : decode cX10_noteOf 37 = .ok (.getfield 86, 3) := by decide +kernel
theorem dX10_noteOf_40 : decode cX10_noteOf 40 = .ok (.iload_n 1, 1) := by decide +kernel
theorem dX10_noteOf_41 : decode cX10_noteOf 41 = .ok (.invokevirtual 220, 3) := by decide +kernel
theorem dX10_noteOf_44 : decode cX10_noteOf 44 = .ok (.istore_n 3, 1) := by decide +kernel
theorem dX10_noteOf_45 : decode cX10_noteOf 45 = .ok (.aload_n 0, 1) := by decide +kernel
theorem dX10_noteOf_46 : decode cX10_noteOf 46 = .ok (.getfield 10, 3) := by decide +kernel
theorem dX10_noteOf_49 : decode cX10_noteOf 49 = .ok (.getfield 86, 3) := by decide +kernel
theorem dX10_noteOf_52 : decode cX10_noteOf 52 = .ok (.iload_n 1, 1) := by decide +kernel
theorem dX10_noteOf_53 : decode cX10_noteOf 53 = .ok (.invokevirtual 222, 3) := by decide +kernel
theorem dX10_noteOf_56 : decode cX10_noteOf 56 = .ok (.istore 4, 2) := by decide +kernel
theorem dX10_noteOf_58 : decode cX10_noteOf 58 = .ok (.iload_n 2, 1) := by decide +kernel
theorem dX10_noteOf_59 : decode cX10_noteOf 59 = .ok (.tableswitch 52 0 2 #[25, 30, 33], 25) := by decide +kernel
theorem dX10_noteOf_84 : decode cX10_noteOf 84 = .ok (.iload_n 3, 1) := by decide +kernel
theorem dX10_noteOf_85 : decode cX10_noteOf 85 = .ok (.ldc 224, 2) := by decide +kernel
theorem dX10_noteOf_87 : decode cX10_noteOf 87 = .ok (.iadd, 1) := by decide +kernel
theorem dX10_noteOf_88 : decode cX10_noteOf 88 = .ok (.ireturn, 1) := by decide +kernel
theorem dX10_noteOf_89 : decode cX10_noteOf 89 = .ok (.iload 4, 2) := by decide +kernel
theorem dX10_noteOf_91 : decode cX10_noteOf 91 = .ok (.ireturn, 1) := by decide +kernel
theorem dX10_noteOf_92 : decode cX10_noteOf 92 = .ok (.aload_n 0, 1) := by decide +kernel
theorem dX10_noteOf_93 : decode cX10_noteOf 93 = .ok (.getfield 10, 3) := by decide +kernel
theorem dX10_noteOf_96 : decode cX10_noteOf 96 = .ok (.getfield 58, 3) := by decide +kernel
theorem dX10_noteOf_99 : decode cX10_noteOf 99 = .ok (.iload_n 3, 1) := by decide +kernel
theorem dX10_noteOf_100 : decode cX10_noteOf 100 = .ok (.i2l, 1) := by decide +kernel
theorem dX10_noteOf_101 : decode cX10_noteOf 101 = .ok (.iload 4, 2) := by decide +kernel
theorem dX10_noteOf_103 : decode cX10_noteOf 103 = .ok (.i2l, 1) := by decide +kernel
theorem dX10_noteOf_104 : decode cX10_noteOf 104 = .ok (.invokevirtual 225, 3) := by decide +kernel
theorem dX10_noteOf_107 : decode cX10_noteOf 107 = .ok (.invokestatic 130, 3) := by decide +kernel
theorem dX10_noteOf_110 : decode cX10_noteOf 110 = .ok (.ireturn, 1) := by decide +kernel
theorem dX10_noteOf_111 : decode cX10_noteOf 111 = .ok (.aload_n 0, 1) := by decide +kernel
theorem dX10_noteOf_112 : decode cX10_noteOf 112 = .ok (.getfield 26, 3) := by decide +kernel
theorem dX10_noteOf_115 : decode cX10_noteOf 115 = .ok (.iload_n 3, 1) := by decide +kernel
theorem dX10_noteOf_116 : decode cX10_noteOf 116 = .ok (.i2l, 1) := by decide +kernel
theorem dX10_noteOf_117 : decode cX10_noteOf 117 = .ok (.iload 4, 2) := by decide +kernel
theorem dX10_noteOf_119 : decode cX10_noteOf 119 = .ok (.i2l, 1) := by decide +kernel
theorem dX10_noteOf_120 : decode cX10_noteOf 120 = .ok (.invokevirtual 228, 3) := by decide +kernel
theorem dX10_noteOf_123 : decode cX10_noteOf 123 = .ok (.invokestatic 130, 3) := by decide +kernel
theorem dX10_noteOf_126 : decode cX10_noteOf 126 = .ok (.ireturn, 1) := by decide +kernel
theorem dX10_count_0 : decode cX10_count 0 = .ok (.iload_n 1, 1) := by decide +kernel
theorem dX10_count_1 : decode cX10_count 1 = .ok (.tableswitch 76 0 3 #[31, 42, 60, 68], 31) := by decide +kernel
theorem dX10_count_32 : decode cX10_count 32 = .ok (.aload_n 0, 1) := by decide +kernel
theorem dX10_count_33 : decode cX10_count 33 = .ok (.getfield 10, 3) := by decide +kernel
theorem dX10_count_36 : decode cX10_count 36 = .ok (.getfield 86, 3) := by decide +kernel
theorem dX10_count_39 : decode cX10_count 39 = .ok (.getfield 209, 3) := by decide +kernel
theorem dX10_count_42 : decode cX10_count 42 = .ok (.ireturn, 1) := by decide +kernel
theorem dX10_count_43 : decode cX10_count 43 = .ok (.aload_n 0, 1) := by decide +kernel
theorem dX10_count_44 : decode cX10_count 44 = .ok (.getfield 10, 3) := by decide +kernel
theorem dX10_count_47 : decode cX10_count 47 = .ok (.getfield 86, 3) := by decide +kernel
theorem dX10_count_50 : decode cX10_count 50 = .ok (.aload_n 0, 1) := by decide +kernel
theorem dX10_count_51 : decode cX10_count 51 = .ok (.getfield 10, 3) := by decide +kernel
theorem dX10_count_54 : decode cX10_count 54 = .ok (.getfield 58, 3) := by decide +kernel
theorem dX10_count_57 : decode cX10_count 57 = .ok (.invokevirtual 231, 3) := by decide +kernel
theorem dX10_count_60 : decode cX10_count 60 = .ok (.ireturn, 1) := by decide +kernel
theorem dX10_count_61 : decode cX10_count 61 = .ok (.aload_n 0, 1) := by decide +kernel
theorem dX10_count_62 : decode cX10_count 62 = .ok (.getfield 19, 3) := by decide +kernel
theorem dX10_count_65 : decode cX10_count 65 = .ok (.getfield 235, 3) := by decide +kernel
theorem dX10_count_68 : decode cX10_count 68 = .ok (.ireturn, 1) := by decide +kernel
theorem dX10_count_69 : decode cX10_count 69 = .ok (.aload_n 0, 1) := by decide +kernel
theorem dX10_count_70 : decode cX10_count 70 = .ok (.getfield 47, 3) := by decide +kernel
theorem dX10_count_73 : decode cX10_count 73 = .ok (.getfield 236, 3) := by decide +kernel
theorem dX10_count_76 : decode cX10_count 76 = .ok (.ireturn, 1) := by decide +kernel
theorem dX10_count_77 : decode cX10_count 77 = .ok (.ldc 70, 2) := by decide +kernel
theorem dX10_count_79 : decode cX10_count 79 = .ok (.ireturn, 1) := by decide +kernel
theorem dX10_undo_0 : decode cX10_undo 0 = .ok (.aload_n 0, 1) := by decide +kernel
theorem dX10_undo_1 : decode cX10_undo 1 = .ok (.getfield 19, 3) := by decide +kernel
theorem dX10_undo_4 : decode cX10_undo 4 = .ok (.getfield 235, 3) := by decide +kernel
theorem dX10_undo_7 : decode cX10_undo 7 = .ok (.ifCond .ne 6, 3) := by decide +kernel
theorem dX10_undo_10 : decode cX10_undo 10 = .ok (.ldc 75, 2) := by decide +kernel
theorem dX10_undo_12 : decode cX10_undo 12 = .ok (.ireturn, 1) := by decide +kernel
theorem dX10_undo_13 : decode cX10_undo 13 = .ok (.aload_n 0, 1) := by decide +kernel
theorem dX10_undo_14 : decode cX10_undo 14 = .ok (.getfield 19, 3) := by decide +kernel
theorem dX10_undo_17 : decode cX10_undo 17 = .ok (.aload_n 0, 1) := by decide +kernel
theorem dX10_undo_18 : decode cX10_undo 18 = .ok (.getfield 10, 3) := by decide +kernel
theorem dX10_undo_21 : decode cX10_undo 21 = .ok (.invokevirtual 239, 3) := by decide +kernel
theorem dX10_undo_24 : decode cX10_undo 24 = .ok (.aload_n 0, 1) := by decide +kernel
theorem dX10_undo_25 : decode cX10_undo 25 = .ok (.getfield 26, 3) := by decide +kernel
theorem dX10_undo_28 : decode cX10_undo 28 = .ok (.aload_n 0, 1) := by decide +kernel
theorem dX10_undo_29 : decode cX10_undo 29 = .ok (.getfield 10, 3) := by decide +kernel
theorem dX10_undo_32 : decode cX10_undo 32 = .ok (.getfield 58, 3) := by decide +kernel
theorem dX10_undo_35 : decode cX10_undo 35 = .ok (.invokevirtual 62, 3) := by decide +kernel
theorem dX10_undo_38 : decode cX10_undo 38 = .ok (.aload_n 0, 1) := by decide +kernel
theorem dX10_undo_39 : decode cX10_undo 39 = .ok (.getfield 19, 3) := by decide +kernel
theorem dX10_undo_42 : decode cX10_undo 42 = .ok (.getfield 235, 3) := by decide +kernel
theorem dX10_undo_45 : decode cX10_undo 45 = .ok (.ireturn, 1) := by decide +kernel
theorem dX10_type_0 : decode cX10_type 0 = .ok (.iload_n 1, 1) := by decide +kernel
theorem dX10_type_1 : decode cX10_type 1 = .ok (.bipush 32, 2) := by decide +kernel
theorem dX10_type_3 : decode cX10_type 3 = .ok (.bipush 126, 2) := by decide +kernel
theorem dX10_type_5 : decode cX10_type 5 = .ok (.invokestatic 66, 3) := by decide +kernel
theorem dX10_type_8 : decode cX10_type 8 = .ok (.ifCond .ne 6, 3) := by decide +kernel
theorem dX10_type_11 : decode cX10_type 11 = .ok (.ldc 70, 2) := by decide +kernel
theorem dX10_type_13 : decode cX10_type 13 = .ok (.ireturn, 1) := by decide +kernel
theorem dX10_type_14 : decode cX10_type 14 = .ok (.aload_n 0, 1) := by decide +kernel
theorem dX10_type_15 : decode cX10_type 15 = .ok (.getfield 47, 3) := by decide +kernel
theorem dX10_type_18 : decode cX10_type 18 = .ok (.getfield 236, 3) := by decide +kernel
theorem dX10_type_21 : decode cX10_type 21 = .ok (.bipush 40, 2) := by decide +kernel
theorem dX10_type_23 : decode cX10_type 23 = .ok (.if_icmp .lt 6, 3) := by decide +kernel
theorem dX10_type_26 : decode cX10_type 26 = .ok (.ldc 113, 2) := by decide +kernel
theorem dX10_type_28 : decode cX10_type 28 = .ok (.ireturn, 1) := by decide +kernel
theorem dX10_type_29 : decode cX10_type 29 = .ok (.aload_n 0, 1) := by decide +kernel
theorem dX10_type_30 : decode cX10_type 30 = .ok (.getfield 47, 3) := by decide +kernel
theorem dX10_type_33 : decode cX10_type 33 = .ok (.iload_n 1, 1) := by decide +kernel
theorem dX10_type_34 : decode cX10_type 34 = .ok (.i2c, 1) := by decide +kernel
theorem dX10_type_35 : decode cX10_type 35 = .ok (.invokevirtual 242, 3) := by decide +kernel
theorem dX10_type_38 : decode cX10_type 38 = .ok (.aload_n 0, 1) := by decide +kernel
theorem dX10_type_39 : decode cX10_type 39 = .ok (.getfield 47, 3) := by decide +kernel
theorem dX10_type_42 : decode cX10_type 42 = .ok (.getfield 236, 3) := by decide +kernel
theorem dX10_type_45 : decode cX10_type 45 = .ok (.ireturn, 1) := by decide +kernel
theorem dX10_clearText_0 : decode cX10_clearText 0 = .ok (.aload_n 0, 1) := by decide +kernel
theorem dX10_clearText_1 : decode cX10_clearText 1 = .ok (.getfield 47, 3) := by decide +kernel
theorem dX10_clearText_4 : decode cX10_clearText 4 = .ok (.getfield 236, 3) := by decide +kernel
theorem dX10_clearText_7 : decode cX10_clearText 7 = .ok (.istore_n 1, 1) := by decide +kernel
theorem dX10_clearText_8 : decode cX10_clearText 8 = .ok (.aload_n 0, 1) := by decide +kernel
theorem dX10_clearText_9 : decode cX10_clearText 9 = .ok (.getfield 47, 3) := by decide +kernel
theorem dX10_clearText_12 : decode cX10_clearText 12 = .ok (.iconst 0, 1) := by decide +kernel
theorem dX10_clearText_13 : decode cX10_clearText 13 = .ok (.putfield 236, 3) := by decide +kernel
theorem dX10_clearText_16 : decode cX10_clearText 16 = .ok (.iload_n 1, 1) := by decide +kernel
theorem dX10_clearText_17 : decode cX10_clearText 17 = .ok (.ireturn, 1) := by decide +kernel
theorem dX10_fault_0 : decode cX10_fault 0 = .ok (.iload_n 1, 1) := by decide +kernel
theorem dX10_fault_1 : decode cX10_fault 1 = .ok (.iconst 0, 1) := by decide +kernel
theorem dX10_fault_2 : decode cX10_fault 2 = .ok (.iconst 1, 1) := by decide +kernel
theorem dX10_fault_3 : decode cX10_fault 3 = .ok (.invokestatic 66, 3) := by decide +kernel
theorem dX10_fault_6 : decode cX10_fault 6 = .ok (.ifCond .ne 6, 3) := by decide +kernel
theorem dX10_fault_9 : decode cX10_fault 9 = .ok (.ldc 70, 2) := by decide +kernel
theorem dX10_fault_11 : decode cX10_fault 11 = .ok (.ireturn, 1) := by decide +kernel
theorem dX10_fault_12 : decode cX10_fault 12 = .ok (.aload_n 0, 1) := by decide +kernel
theorem dX10_fault_13 : decode cX10_fault 13 = .ok (.getfield 47, 3) := by decide +kernel
theorem dX10_fault_16 : decode cX10_fault 16 = .ok (.invokevirtual 185, 3) := by decide +kernel
theorem dX10_fault_19 : decode cX10_fault 19 = .ok (.aload_n 0, 1) := by decide +kernel
theorem dX10_fault_20 : decode cX10_fault 20 = .ok (.getfield 47, 3) := by decide +kernel
theorem dX10_fault_23 : decode cX10_fault 23 = .ok (.invokevirtual 188, 3) := by decide +kernel
theorem dX10_fault_26 : decode cX10_fault 26 = .ok (.ifCond .ne 6, 3) := by decide +kernel
theorem dX10_fault_29 : decode cX10_fault 29 = .ok (.ldc 170, 2) := by decide +kernel
theorem dX10_fault_31 : decode cX10_fault 31 = .ok (.ireturn, 1) := by decide +kernel
theorem dX10_fault_32 : decode cX10_fault 32 = .ok (.iload_n 1, 1) := by decide +kernel
theorem dX10_fault_33 : decode cX10_fault 33 = .ok (.ifCond .ne 13, 3) := by decide +kernel
theorem dX10_fault_36 : decode cX10_fault 36 = .ok (.aload_n 0, 1) := by decide +kernel
theorem dX10_fault_37 : decode cX10_fault 37 = .ok (.getfield 47, 3) := by decide +kernel
theorem dX10_fault_40 : decode cX10_fault 40 = .ok (.getfield 246, 3) := by decide +kernel
theorem dX10_fault_43 : decode cX10_fault 43 = .ok (.goto 10, 3) := by decide +kernel
theorem dX10_fault_46 : decode cX10_fault 46 = .ok (.aload_n 0, 1) := by decide +kernel
theorem dX10_fault_47 : decode cX10_fault 47 = .ok (.getfield 47, 3) := by decide +kernel
theorem dX10_fault_50 : decode cX10_fault 50 = .ok (.getfield 249, 3) := by decide +kernel
theorem dX10_fault_53 : decode cX10_fault 53 = .ok (.ireturn, 1) := by decide +kernel
theorem dX10_told_0 : decode cX10_told 0 = .ok (.iload_n 1, 1) := by decide +kernel
theorem dX10_told_1 : decode cX10_told 1 = .ok (.iconst 0, 1) := by decide +kernel
theorem dX10_told_2 : decode cX10_told 2 = .ok (.iconst 4, 1) := by decide +kernel
theorem dX10_told_3 : decode cX10_told 3 = .ok (.invokestatic 66, 3) := by decide +kernel
theorem dX10_told_6 : decode cX10_told 6 = .ok (.ifCond .ne 7, 3) := by decide +kernel
theorem dX10_told_9 : decode cX10_told 9 = .ok (.ldc2_w 134, 3) := by decide +kernel
theorem dX10_told_12 : decode cX10_told 12 = .ok (.lreturn, 1) := by decide +kernel
theorem dX10_told_13 : decode cX10_told 13 = .ok (.aload_n 0, 1) := by decide +kernel
theorem dX10_told_14 : decode cX10_told 14 = .ok (.getfield 47, 3) := by decide +kernel
theorem dX10_told_17 : decode cX10_told 17 = .ok (.invokevirtual 185, 3) := by decide +kernel
theorem dX10_told_20 : decode cX10_told 20 = .ok (.aload_n 0, 1) := by decide +kernel
theorem dX10_told_21 : decode cX10_told 21 = .ok (.getfield 47, 3) := by decide +kernel
theorem dX10_told_24 : decode cX10_told 24 = .ok (.invokevirtual 188, 3) := by decide +kernel
theorem dX10_told_27 : decode cX10_told 27 = .ok (.ifCond .eq 7, 3) := by decide +kernel
theorem dX10_told_30 : decode cX10_told 30 = .ok (.ldc2_w 252, 3) := by decide +kernel
theorem dX10_told_33 : decode cX10_told 33 = .ok (.lreturn, 1) := by decide +kernel
theorem dX10_told_34 : decode cX10_told 34 = .ok (.iload_n 1, 1) := by decide +kernel
theorem dX10_told_35 : decode cX10_told 35 = .ok (.tableswitch 52 2 4 #[25, 34, 47], 25) := by decide +kernel
theorem dX10_told_60 : decode cX10_told 60 = .ok (.aload_n 0, 1) := by decide +kernel
theorem dX10_told_61 : decode cX10_told 61 = .ok (.getfield 47, 3) := by decide +kernel
theorem dX10_told_64 : decode cX10_told 64 = .ok (.getfield 254, 3) := by decide +kernel
theorem dX10_told_67 : decode cX10_told 67 = .ok (.i2l, 1) := by decide +kernel
theorem dX10_told_68 : decode cX10_told 68 = .ok (.lreturn, 1) := by decide +kernel
theorem dX10_told_69 : decode cX10_told 69 = .ok (.aload_n 0, 1) := by decide +kernel
theorem dX10_told_70 : decode cX10_told 70 = .ok (.getfield 26, 3) := by decide +kernel
theorem dX10_told_73 : decode cX10_told 73 = .ok (.aload_n 0, 1) := by decide +kernel
theorem dX10_told_74 : decode cX10_told 74 = .ok (.getfield 47, 3) := by decide +kernel
theorem dX10_told_77 : decode cX10_told 77 = .ok (.invokevirtual 257, 3) := by decide +kernel
theorem dX10_told_80 : decode cX10_told 80 = .ok (.i2l, 1) := by decide +kernel
theorem dX10_told_81 : decode cX10_told 81 = .ok (.lreturn, 1) := by decide +kernel
theorem dX10_told_82 : decode cX10_told 82 = .ok (.aload_n 0, 1) := by decide +kernel
theorem dX10_told_83 : decode cX10_told 83 = .ok (.invokevirtual 261, 3) := by decide +kernel
theorem dX10_told_86 : decode cX10_told 86 = .ok (.lreturn, 1) := by decide +kernel
theorem dX10_told_87 : decode cX10_told 87 = .ok (.aload_n 0, 1) := by decide +kernel
theorem dX10_told_88 : decode cX10_told 88 = .ok (.iload_n 1, 1) := by decide +kernel
theorem dX10_told_89 : decode cX10_told 89 = .ok (.invokevirtual 265, 3) := by decide +kernel
theorem dX10_told_92 : decode cX10_told 92 = .ok (.lreturn, 1) := by decide +kernel
theorem dX10_toldAbove_0 : decode cX10_toldAbove 0 = .ok (.aload_n 0, 1) := by decide +kernel
theorem dX10_toldAbove_1 : decode cX10_toldAbove 1 = .ok (.getfield 47, 3) := by decide +kernel
theorem dX10_toldAbove_4 : decode cX10_toldAbove 4 = .ok (.aload_n 0, 1) := by decide +kernel
theorem dX10_toldAbove_5 : decode cX10_toldAbove 5 = .ok (.getfield 54, 3) := by decide +kernel
theorem dX10_toldAbove_8 : decode cX10_toldAbove 8 = .ok (.invokevirtual 191, 3) := by decide +kernel
theorem dX10_toldAbove_11 : decode cX10_toldAbove 11 = .ok (.aload_n 0, 1) := by decide +kernel
theorem dX10_toldAbove_12 : decode cX10_toldAbove 12 = .ok (.getfield 54, 3) := by decide +kernel
theorem dX10_toldAbove_15 : decode cX10_toldAbove 15 = .ok (.invokestatic 195, 3) := by decide +kernel
theorem dX10_toldAbove_18 : decode cX10_toldAbove 18 = .ok (.ifCond .eq 34, 3) := by decide +kernel
theorem dX10_toldAbove_21 : decode cX10_toldAbove 21 = .ok (.aload_n 0, 1) := by decide +kernel
theorem dX10_toldAbove_22 : decode cX10_toldAbove 22 = .ok (.getfield 10, 3) := by decide +kernel
theorem dX10_toldAbove_25 : decode cX10_toldAbove 25 = .ok (.getfield 58, 3) := by decide +kernel
theorem dX10_toldAbove_28 : decode cX10_toldAbove 28 = .ok (.aload_n 0, 1) := by decide +kernel
theorem dX10_toldAbove_29 : decode cX10_toldAbove 29 = .ok (.getfield 54, 3) := by decide +kernel
theorem dX10_toldAbove_32 : decode cX10_toldAbove 32 = .ok (.getfield 199, 3) := by decide +kernel
theorem dX10_toldAbove_35 : decode cX10_toldAbove 35 = .ok (.aload_n 0, 1) := by decide +kernel
theorem dX10_toldAbove_36 : decode cX10_toldAbove 36 = .ok (.getfield 54, 3) := by decide +kernel
theorem dX10_toldAbove_39 : decode cX10_toldAbove 39 = .ok (.getfield 202, 3) := by decide +kernel
theorem dX10_toldAbove_42 : decode cX10_toldAbove 42 = .ok (.invokevirtual 225, 3) := by decide +kernel
theorem dX10_toldAbove_45 : decode cX10_toldAbove 45 = .ok (.invokestatic 130, 3) := by decide +kernel
theorem dX10_toldAbove_48 : decode cX10_toldAbove 48 = .ok (.i2l, 1) := by decide +kernel
theorem dX10_toldAbove_49 : decode cX10_toldAbove 49 = .ok (.goto 6, 3) := by decide +kernel
theorem dX10_toldAbove_52 : decode cX10_toldAbove 52 = .ok (.ldc2_w 139, 3) := by decide +kernel
theorem dX10_toldAbove_55 : decode cX10_toldAbove 55 = .ok (.lreturn, 1) := by decide +kernel
theorem dX10_toldPart_0 : decode cX10_toldPart 0 = .ok (.aload_n 0, 1) := by decide +kernel
theorem dX10_toldPart_1 : decode cX10_toldPart 1 = .ok (.getfield 47, 3) := by decide +kernel
theorem dX10_toldPart_4 : decode cX10_toldPart 4 = .ok (.aload_n 0, 1) := by decide +kernel
theorem dX10_toldPart_5 : decode cX10_toldPart 5 = .ok (.getfield 54, 3) := by decide +kernel
theorem dX10_toldPart_8 : decode cX10_toldPart 8 = .ok (.invokevirtual 191, 3) := by decide +kernel
theorem dX10_toldPart_11 : decode cX10_toldPart 11 = .ok (.aload_n 0, 1) := by decide +kernel
theorem dX10_toldPart_12 : decode cX10_toldPart 12 = .ok (.getfield 54, 3) := by decide +kernel
theorem dX10_toldPart_15 : decode cX10_toldPart 15 = .ok (.getfield 268, 3) := by decide +kernel
theorem dX10_toldPart_18 : decode cX10_toldPart 18 = .ok (.ifCond .eq 7, 3) := by decide +kernel
theorem dX10_toldPart_21 : decode cX10_toldPart 21 = .ok (.ldc2_w 139, 3) := by decide +kernel
theorem dX10_toldPart_24 : decode cX10_toldPart 24 = .ok (.lreturn, 1) := by decide +kernel
theorem dX10_toldPart_25 : decode cX10_toldPart 25 = .ok (.iload_n 1, 1) := by decide +kernel
theorem dX10_toldPart_26 : decode cX10_toldPart 26 = .ok (.ifCond .ne 17, 3) := by decide +kernel
theorem dX10_toldPart_29 : decode cX10_toldPart 29 = .ok (.aload_n 0, 1) := by decide +kernel
theorem dX10_toldPart_30 : decode cX10_toldPart 30 = .ok (.getfield 54, 3) := by decide +kernel
theorem dX10_toldPart_33 : decode cX10_toldPart 33 = .ok (.getfield 199, 3) := by decide +kernel
theorem dX10_toldPart_36 : decode cX10_toldPart 36 = .ok (.ldc2_w 145, 3) := by decide +kernel
theorem dX10_toldPart_39 : decode cX10_toldPart 39 = .ok (.ladd, 1) := by decide +kernel
theorem dX10_toldPart_40 : decode cX10_toldPart 40 = .ok (.goto 10, 3) := by decide +kernel
theorem dX10_toldPart_43 : decode cX10_toldPart 43 = .ok (.aload_n 0, 1) := by decide +kernel
theorem dX10_toldPart_44 : decode cX10_toldPart 44 = .ok (.getfield 54, 3) := by decide +kernel
theorem dX10_toldPart_47 : decode cX10_toldPart 47 = .ok (.getfield 202, 3) := by decide +kernel
theorem dX10_toldPart_50 : decode cX10_toldPart 50 = .ok (.lreturn, 1) := by decide +kernel
theorem dX10_neighbourPart_0 : decode cX10_neighbourPart 0 = .ok (.iload_n 2, 1) := by decide +kernel
theorem dX10_neighbourPart_1 : decode cX10_neighbourPart 1 = .ok (.ifCond .ne 29, 3) := by decide +kernel
theorem dX10_neighbourPart_4 : decode cX10_neighbourPart 4 = .ok (.iload_n 1, 1) := by decide +kernel
theorem dX10_neighbourPart_5 : decode cX10_neighbourPart 5 = .ok (.ifCond .eq 13, 3) := by decide +kernel
theorem dX10_neighbourPart_8 : decode cX10_neighbourPart 8 = .ok (.aload_n 0, 1) := by decide +kernel
theorem dX10_neighbourPart_9 : decode cX10_neighbourPart 9 = .ok (.getfield 33, 3) := by decide +kernel
theorem dX10_neighbourPart_12 : decode cX10_neighbourPart 12 = .ok (.getfield 272, 3) := by decide +kernel
theorem dX10_neighbourPart_15 : decode cX10_neighbourPart 15 = .ok (.goto 10, 3) := by decide +kernel
theorem dX10_neighbourPart_18 : decode cX10_neighbourPart 18 = .ok (.aload_n 0, 1) := by decide +kernel
theorem dX10_neighbourPart_19 : decode cX10_neighbourPart 19 = .ok (.getfield 33, 3) := by decide +kernel
theorem dX10_neighbourPart_22 : decode cX10_neighbourPart 22 = .ok (.getfield 275, 3) := by decide +kernel
theorem dX10_neighbourPart_25 : decode cX10_neighbourPart 25 = .ok (.l2i, 1) := by decide +kernel
theorem dX10_neighbourPart_26 : decode cX10_neighbourPart 26 = .ok (.ldc 224, 2) := by decide +kernel
theorem dX10_neighbourPart_28 : decode cX10_neighbourPart 28 = .ok (.iadd, 1) := by decide +kernel
theorem dX10_neighbourPart_29 : decode cX10_neighbourPart 29 = .ok (.ireturn, 1) := by decide +kernel
theorem dX10_neighbourPart_30 : decode cX10_neighbourPart 30 = .ok (.iload_n 1, 1) := by decide +kernel
theorem dX10_neighbourPart_31 : decode cX10_neighbourPart 31 = .ok (.ifCond .eq 13, 3) := by decide +kernel
theorem dX10_neighbourPart_34 : decode cX10_neighbourPart 34 = .ok (.aload_n 0, 1) := by decide +kernel
theorem dX10_neighbourPart_35 : decode cX10_neighbourPart 35 = .ok (.getfield 33, 3) := by decide +kernel
theorem dX10_neighbourPart_38 : decode cX10_neighbourPart 38 = .ok (.getfield 278, 3) := by decide +kernel
theorem dX10_neighbourPart_41 : decode cX10_neighbourPart 41 = .ok (.goto 10, 3) := by decide +kernel
theorem dX10_neighbourPart_44 : decode cX10_neighbourPart 44 = .ok (.aload_n 0, 1) := by decide +kernel
theorem dX10_neighbourPart_45 : decode cX10_neighbourPart 45 = .ok (.getfield 33, 3) := by decide +kernel
theorem dX10_neighbourPart_48 : decode cX10_neighbourPart 48 = .ok (.getfield 281, 3) := by decide +kernel
theorem dX10_neighbourPart_51 : decode cX10_neighbourPart 51 = .ok (.l2i, 1) := by decide +kernel
theorem dX10_neighbourPart_52 : decode cX10_neighbourPart 52 = .ok (.ireturn, 1) := by decide +kernel
theorem dX10_isWithin_0 : decode cX10_isWithin 0 = .ok (.iload_n 0, 1) := by decide +kernel
theorem dX10_isWithin_1 : decode cX10_isWithin 1 = .ok (.iload_n 1, 1) := by decide +kernel
theorem dX10_isWithin_2 : decode cX10_isWithin 2 = .ok (.if_icmp .lt 12, 3) := by decide +kernel
theorem dX10_isWithin_5 : decode cX10_isWithin 5 = .ok (.iload_n 0, 1) := by decide +kernel
theorem dX10_isWithin_6 : decode cX10_isWithin 6 = .ok (.iload_n 2, 1) := by decide +kernel
theorem dX10_isWithin_7 : decode cX10_isWithin 7 = .ok (.if_icmp .gt 7, 3) := by decide +kernel
theorem dX10_isWithin_10 : decode cX10_isWithin 10 = .ok (.iconst 1, 1) := by decide +kernel
theorem dX10_isWithin_11 : decode cX10_isWithin 11 = .ok (.goto 4, 3) := by decide +kernel
theorem dX10_isWithin_14 : decode cX10_isWithin 14 = .ok (.iconst 0, 1) := by decide +kernel
theorem dX10_isWithin_15 : decode cX10_isWithin 15 = .ok (.ireturn, 1) := by decide +kernel
theorem dX10_isRightSide_0 : decode cX10_isRightSide 0 = .ok (.iload_n 0, 1) := by decide +kernel
theorem dX10_isRightSide_1 : decode cX10_isRightSide 1 = .ok (.bipush (-60), 2) := by decide +kernel
theorem dX10_isRightSide_3 : decode cX10_isRightSide 3 = .ok (.bipush 60, 2) := by decide +kernel
theorem dX10_isRightSide_5 : decode cX10_isRightSide 5 = .ok (.invokestatic 66, 3) := by decide +kernel
theorem dX10_isRightSide_8 : decode cX10_isRightSide 8 = .ok (.ifCond .eq 11, 3) := by decide +kernel
theorem dX10_isRightSide_11 : decode cX10_isRightSide 11 = .ok (.iload_n 0, 1) := by decide +kernel
theorem dX10_isRightSide_12 : decode cX10_isRightSide 12 = .ok (.ifCond .eq 7, 3) := by decide +kernel
theorem dX10_isRightSide_15 : decode cX10_isRightSide 15 = .ok (.iconst 1, 1) := by decide +kernel
theorem dX10_isRightSide_16 : decode cX10_isRightSide 16 = .ok (.goto 4, 3) := by decide +kernel
theorem dX10_isRightSide_19 : decode cX10_isRightSide 19 = .ok (.iconst 0, 1) := by decide +kernel
theorem dX10_isRightSide_20 : decode cX10_isRightSide 20 = .ok (.ireturn, 1) := by decide +kernel
theorem dX10_isSquare_0 : decode cX10_isSquare 0 = .ok (.iload_n 0, 1) := by decide +kernel
theorem dX10_isSquare_1 : decode cX10_isSquare 1 = .ok (.i2l, 1) := by decide +kernel
theorem dX10_isSquare_2 : decode cX10_isSquare 2 = .ok (.invokestatic 284, 3) := by decide +kernel
theorem dX10_isSquare_5 : decode cX10_isSquare 5 = .ok (.lstore_n 1, 1) := by decide +kernel
theorem dX10_isSquare_6 : decode cX10_isSquare 6 = .ok (.lload_n 1, 1) := by decide +kernel
theorem dX10_isSquare_7 : decode cX10_isSquare 7 = .ok (.lload_n 1, 1) := by decide +kernel
theorem dX10_isSquare_8 : decode cX10_isSquare 8 = .ok (.lmul, 1) := by decide +kernel
theorem dX10_isSquare_9 : decode cX10_isSquare 9 = .ok (.iload_n 0, 1) := by decide +kernel
theorem dX10_isSquare_10 : decode cX10_isSquare 10 = .ok (.i2l, 1) := by decide +kernel
theorem dX10_isSquare_11 : decode cX10_isSquare 11 = .ok (.lcmp, 1) := by decide +kernel
theorem dX10_isSquare_12 : decode cX10_isSquare 12 = .ok (.ifCond .ne 7, 3) := by decide +kernel
theorem dX10_isSquare_15 : decode cX10_isSquare 15 = .ok (.iconst 1, 1) := by decide +kernel
theorem dX10_isSquare_16 : decode cX10_isSquare 16 = .ok (.goto 4, 3) := by decide +kernel
theorem dX10_isSquare_19 : decode cX10_isSquare 19 = .ok (.iconst 0, 1) := by decide +kernel
theorem dX10_isSquare_20 : decode cX10_isSquare 20 = .ok (.ireturn, 1) := by decide +kernel
theorem dX10_fitsBook_0 : decode cX10_fitsBook 0 = .ok (.aload_n 0, 1) := by decide +kernel
theorem dX10_fitsBook_1 : decode cX10_fitsBook 1 = .ok (.getfield 268, 3) := by decide +kernel
theorem dX10_fitsBook_4 : decode cX10_fitsBook 4 = .ok (.ifCond .ne 32, 3) := by decide +kernel
theorem dX10_fitsBook_7 : decode cX10_fitsBook 7 = .ok (.aload_n 0, 1) := by decide +kernel
theorem dX10_fitsBook_8 : decode cX10_fitsBook 8 = .ok (.getfield 199, 3) := by decide +kernel
theorem dX10_fitsBook_11 : decode cX10_fitsBook 11 = .ok (.invokestatic 290, 3) := by decide +kernel
theorem dX10_fitsBook_14 : decode cX10_fitsBook 14 = .ok (.ldc2_w 295, 3) := by decide +kernel
theorem dX10_fitsBook_17 : decode cX10_fitsBook 17 = .ok (.lcmp, 1) := by decide +kernel
theorem dX10_fitsBook_18 : decode cX10_fitsBook 18 = .ok (.ifCond .gt 18, 3) := by decide +kernel
theorem dX10_fitsBook_21 : decode cX10_fitsBook 21 = .ok (.aload_n 0, 1) := by decide +kernel
theorem dX10_fitsBook_22 : decode cX10_fitsBook 22 = .ok (.getfield 202, 3) := by decide +kernel
theorem dX10_fitsBook_25 : decode cX10_fitsBook 25 = .ok (.ldc2_w 297, 3) := by decide +kernel
theorem dX10_fitsBook_28 : decode cX10_fitsBook 28 = .ok (.lcmp, 1) := by decide +kernel
theorem dX10_fitsBook_29 : decode cX10_fitsBook 29 = .ok (.ifCond .gt 7, 3) := by decide +kernel
theorem dX10_fitsBook_32 : decode cX10_fitsBook 32 = .ok (.iconst 1, 1) := by decide +kernel
theorem dX10_fitsBook_33 : decode cX10_fitsBook 33 = .ok (.goto 4, 3) := by decide +kernel
theorem dX10_fitsBook_36 : decode cX10_fitsBook 36 = .ok (.iconst 0, 1) := by decide +kernel
theorem dX10_fitsBook_37 : decode cX10_fitsBook 37 = .ok (.ireturn, 1) := by decide +kernel
theorem dX10_oneIf_0 : decode cX10_oneIf 0 = .ok (.iload_n 0, 1) := by decide +kernel
theorem dX10_oneIf_1 : decode cX10_oneIf 1 = .ok (.ifCond .eq 7, 3) := by decide +kernel
theorem dX10_oneIf_4 : decode cX10_oneIf 4 = .ok (.iconst 1, 1) := by decide +kernel
theorem dX10_oneIf_5 : decode cX10_oneIf 5 = .ok (.goto 4, 3) := by decide +kernel
theorem dX10_oneIf_8 : decode cX10_oneIf 8 = .ok (.iconst 0, 1) := by decide +kernel
theorem dX10_oneIf_9 : decode cX10_oneIf 9 = .ok (.ireturn, 1) := by decide +kernel
