theorem dX5_init_0 : decode cX5_init 0 = .ok (.aload_n 0, 1) := by decide +kernel
theorem dX5_init_1 : decode cX5_init 1 = .ok (.invokespecial 1, 3) := by decide +kernel
theorem dX5_init_4 : decode cX5_init 4 = .ok (.aload_n 0, 1) := by decide +kernel
theorem dX5_init_5 : decode cX5_init 5 = .ok (.new 7, 3) := by decide +kernel
theorem dX5_init_8 : decode cX5_init 8 = .ok (.dup, 1) := by decide +kernel
theorem dX5_init_9 : decode cX5_init 9 = .ok (.invokespecial 9, 3) := by decide +kernel
theorem dX5_init_12 : decode cX5_init 12 = .ok (.putfield 10, 3) := by decide +kernel
theorem dX5_init_15 : decode cX5_init 15 = .ok (.aload_n 0, 1) := by decide +kernel
theorem dX5_init_16 : decode cX5_init 16 = .ok (.new 7, 3) := by decide +kernel
theorem dX5_init_19 : decode cX5_init 19 = .ok (.dup, 1) := by decide +kernel
theorem dX5_init_20 : decode cX5_init 20 = .ok (.invokespecial 9, 3) := by decide +kernel
theorem dX5_init_23 : decode cX5_init 23 = .ok (.putfield 16, 3) := by decide +kernel
theorem dX5_init_26 : decode cX5_init 26 = .ok (.aload_n 0, 1) := by decide +kernel
theorem dX5_init_27 : decode cX5_init 27 = .ok (.new 7, 3) := by decide +kernel
theorem dX5_init_30 : decode cX5_init 30 = .ok (.dup, 1) := by decide +kernel
theorem dX5_init_31 : decode cX5_init 31 = .ok (.invokespecial 9, 3) := by decide +kernel
theorem dX5_init_34 : decode cX5_init 34 = .ok (.putfield 19, 3) := by decide +kernel
theorem dX5_init_37 : decode cX5_init 37 = .ok (.aload_n 0, 1) := by decide +kernel
theorem dX5_init_38 : decode cX5_init 38 = .ok (.iconst 0, 1) := by decide +kernel
theorem dX5_init_39 : decode cX5_init 39 = .ok (.putfield 22, 3) := by decide +kernel
theorem dX5_init_42 : decode cX5_init 42 = .ok (.aload_n 0, 1) := by decide +kernel
theorem dX5_init_43 : decode cX5_init 43 = .ok (.new 26, 3) := by decide +kernel
theorem dX5_init_46 : decode cX5_init 46 = .ok (.dup, 1) := by decide +kernel
theorem dX5_init_47 : decode cX5_init 47 = .ok (.invokespecial 28, 3) := by decide +kernel
theorem dX5_init_50 : decode cX5_init 50 = .ok (.putfield 29, 3) := by decide +kernel
theorem dX5_init_53 : decode cX5_init 53 = .ok (.aload_n 0, 1) := by decide +kernel
theorem dX5_init_54 : decode cX5_init 54 = .ok (.new 33, 3) := by decide +kernel
theorem dX5_init_57 : decode cX5_init 57 = .ok (.dup, 1) := by decide +kernel
theorem dX5_init_58 : decode cX5_init 58 = .ok (.aload_n 0, 1) := by decide +kernel
theorem dX5_init_59 : decode cX5_init 59 = .ok (.getfield 29, 3) := by decide +kernel
theorem dX5_init_62 : decode cX5_init 62 = .ok (.aload_n 0, 1) := by decide +kernel
theorem dX5_init_63 : decode cX5_init 63 = .ok (.getfield 16, 3) := by decide +kernel
theorem dX5_init_66 : decode cX5_init 66 = .ok (.invokespecial 35, 3) := by decide +kernel
theorem dX5_init_69 : decode cX5_init 69 = .ok (.putfield 38, 3) := by decide +kernel
theorem dX5_init_72 : decode cX5_init 72 = .ok (.aload_n 0, 1) := by decide +kernel
theorem dX5_init_73 : decode cX5_init 73 = .ok (.iconst 4, 1) := by decide +kernel
theorem dX5_init_74 : decode cX5_init 74 = .ok (.anewarray 42, 3) := by decide +kernel
theorem dX5_init_77 : decode cX5_init 77 = .ok (.putfield 44, 3) := by decide +kernel
theorem dX5_init_80 : decode cX5_init 80 = .ok (.aload_n 0, 1) := by decide +kernel
theorem dX5_init_81 : decode cX5_init 81 = .ok (.bipush 7, 2) := by decide +kernel
theorem dX5_init_83 : decode cX5_init 83 = .ok (.newarray .int, 2) := by decide +kernel
theorem dX5_init_85 : decode cX5_init 85 = .ok (.putfield 48, 3) := by decide +kernel
theorem dX5_init_88 : decode cX5_init 88 = .ok (.iconst 0, 1) := by decide +kernel
theorem dX5_init_89 : decode cX5_init 89 = .ok (.istore_n 1, 1) := by decide +kernel
theorem dX5_init_90 : decode cX5_init 90 = .ok (.iload_n 1, 1) := by decide +kernel
theorem dX5_init_91 : decode cX5_init 91 = .ok (.iconst 4, 1) := by decide +kernel
theorem dX5_init_92 : decode cX5_init 92 = .ok (.if_icmp .ge 22, 3) := by decide +kernel
theorem dX5_init_95 : decode cX5_init 95 = .ok (.aload_n 0, 1) := by decide +kernel
theorem dX5_init_96 : decode cX5_init 96 = .ok (.getfield 44, 3) := by decide +kernel
theorem dX5_init_99 : decode cX5_init 99 = .ok (.iload_n 1, 1) := by decide +kernel
theorem dX5_init_100 : decode cX5_init 100 = .ok (.new 42, 3) := by decide +kernel
theorem dX5_init_103 : decode cX5_init 103 = .ok (.dup, 1) := by decide +kernel
theorem dX5_init_104 : decode cX5_init 104 = .ok (.invokespecial 52, 3) := by decide +kernel
theorem dX5_init_107 : decode cX5_init 107 = .ok (.aastore, 1) := by decide +kernel
theorem dX5_init_108 : decode cX5_init 108 = .ok (.iinc 1 1, 3) := by decide +kernel
theorem dX5_init_111 : decode cX5_init 111 = .ok (.goto (-21), 3) := by decide +kernel
theorem dX5_init_114 : decode cX5_init 114 = .ok (.return_, 1) := by decide +kernel
theorem dX5_wind_0 : decode cX5_wind 0 = .ok (.iload_n 1, 1) := by decide +kernel
theorem dX5_wind_1 : decode cX5_wind 1 = .ok (.iconst 0, 1) := by decide +kernel
theorem dX5_wind_2 : decode cX5_wind 2 = .ok (.bipush 11, 2) := by decide +kernel
theorem dX5_wind_4 : decode cX5_wind 4 = .ok (.invokestatic 53, 3) := by decide +kernel
theorem dX5_wind_7 : decode cX5_wind 7 = .ok (.ifCond .eq 13, 3) := by decide +kernel
theorem dX5_wind_10 : decode cX5_wind 10 = .ok (.iload_n 2, 1) := by decide +kernel
theorem dX5_wind_11 : decode cX5_wind 11 = .ok (.iconst 0, 1) := by decide +kernel
theorem dX5_wind_12 : decode cX5_wind 12 = .ok (.bipush 99, 2) := by decide +kernel
theorem dX5_wind_14 : decode cX5_wind 14 = .ok (.invokestatic 53, 3) := by decide +kernel
theorem dX5_wind_17 : decode cX5_wind 17 = .ok (.ifCond .ne 10, 3) := by decide +kernel
theorem dX5_wind_20 : decode cX5_wind 20 = .ok (.aload_n 0, 1) := by decide +kernel
theorem dX5_wind_21 : decode cX5_wind 21 = .ok (.ldc 57, 2) := by decide +kernel
theorem dX5_wind_23 : decode cX5_wind 23 = .ok (.invokevirtual 58, 3) := by decide +kernel
theorem dX5_wind_26 : decode cX5_wind 26 = .ok (.ireturn, 1) := by decide +kernel
theorem dX5_wind_27 : decode cX5_wind 27 = .ok (.aload_n 0, 1) := by decide +kernel
theorem dX5_wind_28 : decode cX5_wind 28 = .ok (.getfield 10, 3) := by decide +kernel
theorem dX5_wind_31 : decode cX5_wind 31 = .ok (.getfield 62, 3) := by decide +kernel
theorem dX5_wind_34 : decode cX5_wind 34 = .ok (.iload_n 1, 1) := by decide +kernel
theorem dX5_wind_35 : decode cX5_wind 35 = .ok (.iaload, 1) := by decide +kernel
theorem dX5_wind_36 : decode cX5_wind 36 = .ok (.istore_n 3, 1) := by decide +kernel
theorem dX5_wind_37 : decode cX5_wind 37 = .ok (.aload_n 0, 1) := by decide +kernel
theorem dX5_wind_38 : decode cX5_wind 38 = .ok (.getfield 10, 3) := by decide +kernel
theorem dX5_wind_41 : decode cX5_wind 41 = .ok (.getfield 62, 3) := by decide +kernel
theorem dX5_wind_44 : decode cX5_wind 44 = .ok (.iload_n 1, 1) := by decide +kernel
theorem dX5_wind_45 : decode cX5_wind 45 = .ok (.iload_n 2, 1) := by decide +kernel
theorem dX5_wind_46 : decode cX5_wind 46 = .ok (.iastore, 1) := by decide +kernel
theorem dX5_wind_47 : decode cX5_wind 47 = .ok (.iload_n 3, 1) := by decide +kernel
theorem dX5_wind_48 : decode cX5_wind 48 = .ok (.ireturn, 1) := by decide +kernel
theorem dX5_weight_0 : decode cX5_weight 0 = .ok (.iload_n 1, 1) := by decide +kernel
theorem dX5_weight_1 : decode cX5_weight 1 = .ok (.invokestatic 65, 3) := by decide +kernel
theorem dX5_weight_4 : decode cX5_weight 4 = .ok (.ifCond .eq 14, 3) := by decide +kernel
theorem dX5_weight_7 : decode cX5_weight 7 = .ok (.iload_n 2, 1) := by decide +kernel
theorem dX5_weight_8 : decode cX5_weight 8 = .ok (.iconst 0, 1) := by decide +kernel
theorem dX5_weight_9 : decode cX5_weight 9 = .ok (.sipush 999, 3) := by decide +kernel
theorem dX5_weight_12 : decode cX5_weight 12 = .ok (.invokestatic 53, 3) := by decide +kernel
theorem dX5_weight_15 : decode cX5_weight 15 = .ok (.ifCond .ne 10, 3) := by decide +kernel
theorem dX5_weight_18 : decode cX5_weight 18 = .ok (.aload_n 0, 1) := by decide +kernel
theorem dX5_weight_19 : decode cX5_weight 19 = .ok (.ldc 57, 2) := by decide +kernel
theorem dX5_weight_21 : decode cX5_weight 21 = .ok (.invokevirtual 58, 3) := by decide +kernel
theorem dX5_weight_24 : decode cX5_weight 24 = .ok (.ireturn, 1) := by decide +kernel
theorem dX5_weight_25 : decode cX5_weight 25 = .ok (.aload_n 0, 1) := by decide +kernel
theorem dX5_weight_26 : decode cX5_weight 26 = .ok (.getfield 10, 3) := by decide +kernel
theorem dX5_weight_29 : decode cX5_weight 29 = .ok (.getfield 69, 3) := by decide +kernel
theorem dX5_weight_32 : decode cX5_weight 32 = .ok (.iload_n 1, 1) := by decide +kernel
theorem dX5_weight_33 : decode cX5_weight 33 = .ok (.iaload, 1) := by decide +kernel
theorem dX5_weight_34 : decode cX5_weight 34 = .ok (.istore_n 3, 1) := by decide +kernel
theorem dX5_weight_35 : decode cX5_weight 35 = .ok (.aload_n 0, 1) := by decide +kernel
theorem dX5_weight_36 : decode cX5_weight 36 = .ok (.getfield 10, 3) := by decide +kernel
theorem dX5_weight_39 : decode cX5_weight 39 = .ok (.getfield 69, 3) := by decide +kernel
theorem dX5_weight_42 : decode cX5_weight 42 = .ok (.iload_n 1, 1) := by decide +kernel
theorem dX5_weight_43 : decode cX5_weight 43 = .ok (.iload_n 2, 1) := by decide +kernel
theorem dX5_weight_44 : decode cX5_weight 44 = .ok (.iastore, 1) := by decide +kernel
theorem dX5_weight_45 : decode cX5_weight 45 = .ok (.iload_n 3, 1) := by decide +kernel
theorem dX5_weight_46 : decode cX5_weight 46 = .ok (.ireturn, 1) := by decide +kernel
theorem dX5_raise_0 : decode cX5_raise 0 = .ok (.iload_n 1, 1) := by decide +kernel
theorem dX5_raise_1 : decode cX5_raise 1 = .ok (.invokestatic 65, 3) := by decide +kernel
theorem dX5_raise_4 : decode cX5_raise 4 = .ok (.ifCond .ne 10, 3) := by decide +kernel
theorem dX5_raise_7 : decode cX5_raise 7 = .ok (.aload_n 0, 1) := by decide +kernel
theorem dX5_raise_8 : decode cX5_raise 8 = .ok (.ldc 57, 2) := by decide +kernel
theorem dX5_raise_10 : decode cX5_raise 10 = .ok (.invokevirtual 58, 3) := by decide +kernel
theorem dX5_raise_13 : decode cX5_raise 13 = .ok (.ireturn, 1) := by decide +kernel
theorem dX5_raise_14 : decode cX5_raise 14 = .ok (.aload_n 0, 1) := by decide +kernel
theorem dX5_raise_15 : decode cX5_raise 15 = .ok (.getfield 10, 3) := by decide +kernel
theorem dX5_raise_18 : decode cX5_raise 18 = .ok (.iload_n 1, 1) := by decide +kernel
theorem dX5_raise_19 : decode cX5_raise 19 = .ok (.invokevirtual 72, 3) := by decide +kernel
theorem dX5_raise_22 : decode cX5_raise 22 = .ok (.ifCond .eq 7, 3) := by decide +kernel
theorem dX5_raise_25 : decode cX5_raise 25 = .ok (.iconst 0, 1) := by decide +kernel
theorem dX5_raise_26 : decode cX5_raise 26 = .ok (.goto 4, 3) := by decide +kernel
theorem dX5_raise_29 : decode cX5_raise 29 = .ok (.iconst 1, 1) := by decide +kernel
theorem dX5_raise_30 : decode cX5_raise 30 = .ok (.istore_n 2, 1) := by decide +kernel
theorem dX5_raise_31 : decode cX5_raise 31 = .ok (.aload_n 0, 1) := by decide +kernel
theorem dX5_raise_32 : decode cX5_raise 32 = .ok (.getfield 10, 3) := by decide +kernel
theorem dX5_raise_35 : decode cX5_raise 35 = .ok (.iload_n 1, 1) := by decide +kernel
theorem dX5_raise_36 : decode cX5_raise 36 = .ok (.iconst 1, 1) := by decide +kernel
theorem dX5_raise_37 : decode cX5_raise 37 = .ok (.invokevirtual 75, 3) := by decide +kernel
theorem dX5_raise_40 : decode cX5_raise 40 = .ok (.iload_n 2, 1) := by decide +kernel
theorem dX5_raise_41 : decode cX5_raise 41 = .ok (.ireturn, 1) := by decide +kernel
theorem dX5_mastOf_0 : decode cX5_mastOf 0 = .ok (.iload_n 1, 1) := by decide +kernel
theorem dX5_mastOf_1 : decode cX5_mastOf 1 = .ok (.invokestatic 65, 3) := by decide +kernel
theorem dX5_mastOf_4 : decode cX5_mastOf 4 = .ok (.ifCond .ne 10, 3) := by decide +kernel
theorem dX5_mastOf_7 : decode cX5_mastOf 7 = .ok (.aload_n 0, 1) := by decide +kernel
theorem dX5_mastOf_8 : decode cX5_mastOf 8 = .ok (.ldc 57, 2) := by decide +kernel
theorem dX5_mastOf_10 : decode cX5_mastOf 10 = .ok (.invokevirtual 58, 3) := by decide +kernel
theorem dX5_mastOf_13 : decode cX5_mastOf 13 = .ok (.ireturn, 1) := by decide +kernel
theorem dX5_mastOf_14 : decode cX5_mastOf 14 = .ok (.iload_n 2, 1) := by decide +kernel
theorem dX5_mastOf_15 : decode cX5_mastOf 15 = .ok (.tableswitch 108 0 5 #[37, 47, 64, 73, 90, 99], 37) := by decide +kernel
theorem dX5_mastOf_52 : decode cX5_mastOf 52 = .ok (.aload_n 0, 1) := by decide +kernel
theorem dX5_mastOf_53 : decode cX5_mastOf 53 = .ok (.getfield 10, 3) := by decide +kernel
theorem dX5_mastOf_56 : decode cX5_mastOf 56 = .ok (.getfield 69, 3) := by decide +kernel
theorem dX5_mastOf_59 : decode cX5_mastOf 59 = .ok (.iload_n 1, 1) := by decide +kernel
theorem dX5_mastOf_60 : decode cX5_mastOf 60 = .ok (.iaload, 1) := by decide +kernel
theorem dX5_mastOf_61 : decode cX5_mastOf 61 = .ok (.ireturn, 1) := by decide +kernel
theorem dX5_mastOf_62 : decode cX5_mastOf 62 = .ok (.aload_n 0, 1) := by decide +kernel
theorem dX5_mastOf_63 : decode cX5_mastOf 63 = .ok (.getfield 10, 3) := by decide +kernel
theorem dX5_mastOf_66 : decode cX5_mastOf 66 = .ok (.iload_n 1, 1) := by decide +kernel
theorem dX5_mastOf_67 : decode cX5_mastOf 67 = .ok (.invokevirtual 72, 3) := by decide +kernel
theorem dX5_mastOf_70 : decode cX5_mastOf 70 = .ok (.ifCond .eq 7, 3) := by decide +kernel
theorem dX5_mastOf_73 : decode cX5_mastOf 73 = .ok (.iconst 1, 1) := by decide +kernel
theorem dX5_mastOf_74 : decode cX5_mastOf 74 = .ok (.goto 4, 3) := by decide +kernel
theorem dX5_mastOf_77 : decode cX5_mastOf 77 = .ok (.iconst 0, 1) := by decide +kernel
theorem dX5_mastOf_78 : decode cX5_mastOf 78 = .ok (.ireturn, 1) := by decide +kernel
theorem dX5_mastOf_79 : decode cX5_mastOf 79 = .ok (.aload_n 0, 1) := by decide +kernel
theorem dX5_mastOf_80 : decode cX5_mastOf 80 = .ok (.getfield 10, 3) := by decide +kernel
theorem dX5_mastOf_83 : decode cX5_mastOf 83 = .ok (.iload_n 1, 1) := by decide +kernel
theorem dX5_mastOf_84 : decode cX5_mastOf 84 = .ok (.invokevirtual 79, 3) := by decide +kernel
theorem dX5_mastOf_87 : decode cX5_mastOf 87 = .ok (.ireturn, 1) := by decide +kernel
theorem dX5_mastOf_88 : decode cX5_mastOf 88 = .ok (.aload_n 0, 1) := by decide +kernel
theorem dX5_mastOf_89 : decode cX5_mastOf 89 = .ok (.getfield 10, 3) := by decide +kernel
theorem dX5_mastOf_92 : decode cX5_mastOf 92 = .ok (.iload_n 1, 1) := by decide +kernel
theorem dX5_mastOf_93 : decode cX5_mastOf 93 = .ok (.invokevirtual 79, 3) := by decide +kernel
theorem dX5_mastOf_96 : decode cX5_mastOf 96 = .ok (.aload_n 0, 1) := by decide +kernel
theorem dX5_mastOf_97 : decode cX5_mastOf 97 = .ok (.getfield 10, 3) := by decide +kernel
theorem dX5_mastOf_100 : decode cX5_mastOf 100 = .ok (.invokevirtual 82, 3) := by decide +kernel
theorem dX5_mastOf_103 : decode cX5_mastOf 103 = .ok (.iand, 1) := by decide +kernel
theorem dX5_mastOf_104 : decode cX5_mastOf 104 = .ok (.ireturn, 1) := by decide +kernel
theorem dX5_mastOf_105 : decode cX5_mastOf 105 = .ok (.aload_n 0, 1) := by decide +kernel
theorem dX5_mastOf_106 : decode cX5_mastOf 106 = .ok (.getfield 10, 3) := by decide +kernel
theorem dX5_mastOf_109 : decode cX5_mastOf 109 = .ok (.iload_n 1, 1) := by decide +kernel
theorem dX5_mastOf_110 : decode cX5_mastOf 110 = .ok (.invokevirtual 86, 3) := by decide +kernel
theorem dX5_mastOf_113 : decode cX5_mastOf 113 = .ok (.ireturn, 1) := by decide +kernel
theorem dX5_mastOf_114 : decode cX5_mastOf 114 = .ok (.aload_n 0, 1) := by decide +kernel
theorem dX5_mastOf_115 : decode cX5_mastOf 115 = .ok (.getfield 10, 3) := by decide +kernel
theorem dX5_mastOf_118 : decode cX5_mastOf 118 = .ok (.iload_n 1, 1) := by decide +kernel
theorem dX5_mastOf_119 : decode cX5_mastOf 119 = .ok (.invokevirtual 89, 3) := by decide +kernel
theorem dX5_mastOf_122 : decode cX5_mastOf 122 = .ok (.ireturn, 1) := by decide +kernel
theorem dX5_mastOf_123 : decode cX5_mastOf 123 = .ok (.aload_n 0, 1) := by decide +kernel
theorem dX5_mastOf_124 : decode cX5_mastOf 124 = .ok (.ldc 57, 2) := by decide +kernel
theorem dX5_mastOf_126 : decode cX5_mastOf 126 = .ok (.invokevirtual 58, 3) := by decide +kernel
theorem dX5_mastOf_129 : decode cX5_mastOf 129 = .ok (.ireturn, 1) := by decide +kernel
theorem dX5_now_0 : decode cX5_now 0 = .ok (.iload_n 1, 1) := by decide +kernel
theorem dX5_now_1 : decode cX5_now 1 = .ok (.tableswitch 87 0 5 #[39, 47, 55, 63, 71, 79], 39) := by decide +kernel
theorem dX5_now_40 : decode cX5_now 40 = .ok (.aload_n 0, 1) := by decide +kernel
theorem dX5_now_41 : decode cX5_now 41 = .ok (.getfield 10, 3) := by decide +kernel
theorem dX5_now_44 : decode cX5_now 44 = .ok (.getfield 92, 3) := by decide +kernel
theorem dX5_now_47 : decode cX5_now 47 = .ok (.ireturn, 1) := by decide +kernel
theorem dX5_now_48 : decode cX5_now 48 = .ok (.aload_n 0, 1) := by decide +kernel
theorem dX5_now_49 : decode cX5_now 49 = .ok (.getfield 10, 3) := by decide +kernel
theorem dX5_now_52 : decode cX5_now 52 = .ok (.invokevirtual 96, 3) := by decide +kernel
theorem dX5_now_55 : decode cX5_now 55 = .ok (.ireturn, 1) := by decide +kernel
theorem dX5_now_56 : decode cX5_now 56 = .ok (.aload_n 0, 1) := by decide +kernel
theorem dX5_now_57 : decode cX5_now 57 = .ok (.getfield 10, 3) := by decide +kernel
theorem dX5_now_60 : decode cX5_now 60 = .ok (.invokevirtual 99, 3) := by decide +kernel
theorem dX5_now_63 : decode cX5_now 63 = .ok (.ireturn, 1) := by decide +kernel
theorem dX5_now_64 : decode cX5_now 64 = .ok (.aload_n 0, 1) := by decide +kernel
theorem dX5_now_65 : decode cX5_now 65 = .ok (.getfield 10, 3) := by decide +kernel
theorem dX5_now_68 : decode cX5_now 68 = .ok (.getfield 102, 3) := by decide +kernel
theorem dX5_now_71 : decode cX5_now 71 = .ok (.ireturn, 1) := by decide +kernel
theorem dX5_now_72 : decode cX5_now 72 = .ok (.aload_n 0, 1) := by decide +kernel
theorem dX5_now_73 : decode cX5_now 73 = .ok (.getfield 10, 3) := by decide +kernel
theorem dX5_now_76 : decode cX5_now 76 = .ok (.invokevirtual 82, 3) := by decide +kernel
theorem dX5_now_79 : decode cX5_now 79 = .ok (.ireturn, 1) := by decide +kernel
theorem dX5_now_80 : decode cX5_now 80 = .ok (.aload_n 0, 1) := by decide +kernel
theorem dX5_now_81 : decode cX5_now 81 = .ok (.getfield 10, 3) := by decide +kernel
theorem dX5_now_84 : decode cX5_now 84 = .ok (.invokevirtual 105, 3) := by decide +kernel
theorem dX5_now_87 : decode cX5_now 87 = .ok (.ireturn, 1) := by decide +kernel
theorem dX5_now_88 : decode cX5_now 88 = .ok (.aload_n 0, 1) := by decide +kernel
theorem dX5_now_89 : decode cX5_now 89 = .ok (.ldc 57, 2) := by decide +kernel
theorem dX5_now_91 : decode cX5_now 91 = .ok (.invokevirtual 58, 3) := by decide +kernel
theorem dX5_now_94 : decode cX5_now 94 = .ok (.ireturn, 1) := by decide +kernel
theorem dX5_knot_0 : decode cX5_knot 0 = .ok (.iload_n 1, 1) := by decide +kernel
theorem dX5_knot_1 : decode cX5_knot 1 = .ok (.invokestatic 108, 3) := by decide +kernel
theorem dX5_knot_4 : decode cX5_knot 4 = .ok (.ifCond .eq 10, 3) := by decide +kernel
theorem dX5_knot_7 : decode cX5_knot 7 = .ok (.iload_n 2, 1) := by decide +kernel
theorem dX5_knot_8 : decode cX5_knot 8 = .ok (.invokestatic 65, 3) := by decide +kernel
theorem dX5_knot_11 : decode cX5_knot 11 = .ok (.ifCond .ne 10, 3) := by decide +kernel
theorem dX5_knot_14 : decode cX5_knot 14 = .ok (.aload_n 0, 1) := by decide +kernel
theorem dX5_knot_15 : decode cX5_knot 15 = .ok (.ldc 57, 2) := by decide +kernel
theorem dX5_knot_17 : decode cX5_knot 17 = .ok (.invokevirtual 58, 3) := by decide +kernel
theorem dX5_knot_20 : decode cX5_knot 20 = .ok (.ireturn, 1) := by decide +kernel
theorem dX5_knot_21 : decode cX5_knot 21 = .ok (.aload_n 0, 1) := by decide +kernel
theorem dX5_knot_22 : decode cX5_knot 22 = .ok (.getfield 10, 3) := by decide +kernel
theorem dX5_knot_25 : decode cX5_knot 25 = .ok (.invokevirtual 111, 3) := by decide +kernel
theorem dX5_knot_28 : decode cX5_knot 28 = .ok (.ifCond .eq 10, 3) := by decide +kernel
theorem dX5_knot_31 : decode cX5_knot 31 = .ok (.aload_n 0, 1) := by decide +kernel
theorem dX5_knot_32 : decode cX5_knot 32 = .ok (.ldc 115, 2) := by decide +kernel
theorem dX5_knot_34 : decode cX5_knot 34 = .ok (.invokevirtual 58, 3) := by decide +kernel
theorem dX5_knot_37 : decode cX5_knot 37 = .ok (.ireturn, 1) := by decide +kernel
theorem dX5_knot_38 : decode cX5_knot 38 = .ok (.aload_n 0, 1) := by decide +kernel
theorem dX5_knot_39 : decode cX5_knot 39 = .ok (.getfield 10, 3) := by decide +kernel
theorem dX5_knot_42 : decode cX5_knot 42 = .ok (.iload_n 1, 1) := by decide +kernel
theorem dX5_knot_43 : decode cX5_knot 43 = .ok (.iload_n 2, 1) := by decide +kernel
theorem dX5_knot_44 : decode cX5_knot 44 = .ok (.invokevirtual 116, 3) := by decide +kernel
theorem dX5_knot_47 : decode cX5_knot 47 = .ok (.ireturn, 1) := by decide +kernel
theorem dX5_of_0 : decode cX5_of 0 = .ok (.aload_n 0, 1) := by decide +kernel
theorem dX5_of_1 : decode cX5_of 1 = .ok (.iload_n 1, 1) := by decide +kernel
theorem dX5_of_2 : decode cX5_of 2 = .ok (.invokevirtual 120, 3) := by decide +kernel
theorem dX5_of_5 : decode cX5_of 5 = .ok (.ifCond .ne 10, 3) := by decide +kernel
theorem dX5_of_8 : decode cX5_of 8 = .ok (.aload_n 0, 1) := by decide +kernel
theorem dX5_of_9 : decode cX5_of 9 = .ok (.ldc 57, 2) := by decide +kernel
theorem dX5_of_11 : decode cX5_of 11 = .ok (.invokevirtual 58, 3) := by decide +kernel
theorem dX5_of_14 : decode cX5_of 14 = .ok (.ireturn, 1) := by decide +kernel
theorem dX5_of_15 : decode cX5_of 15 = .ok (.aload_n 0, 1) := by decide +kernel
theorem dX5_of_16 : decode cX5_of 16 = .ok (.getfield 10, 3) := by decide +kernel
theorem dX5_of_19 : decode cX5_of 19 = .ok (.getfield 123, 3) := by decide +kernel
theorem dX5_of_22 : decode cX5_of 22 = .ok (.iload_n 1, 1) := by decide +kernel
theorem dX5_of_23 : decode cX5_of 23 = .ok (.aaload, 1) := by decide +kernel
theorem dX5_of_24 : decode cX5_of 24 = .ok (.astore_n 3, 1) := by decide +kernel
theorem dX5_of_25 : decode cX5_of 25 = .ok (.iload_n 2, 1) := by decide +kernel
theorem dX5_of_26 : decode cX5_of 26 = .ok (.tableswitch 132 0 8 #[50, 55, 60, 65, 78, 83, 92, 107, 115], 50) := by decide +kernel
theorem dX5_of_76 : decode cX5_of 76 = .ok (.aload_n 3, 1) := by decide +kernel
theorem dX5_of_77 : decode cX5_of 77 = .ok (.getfield 127, 3) := by decide +kernel
theorem dX5_of_80 : decode cX5_of 80 = .ok (.ireturn, 1) := by decide +kernel
theorem dX5_of_81 : decode cX5_of 81 = .ok (.aload_n 3, 1) := by decide +kernel
theorem dX5_of_82 : decode cX5_of 82 = .ok (.getfield 132, 3) := by decide +kernel
theorem dX5_of_85 : decode cX5_of 85 = .ok (.ireturn, 1) := by decide +kernel
theorem dX5_of_86 : decode cX5_of 86 = .ok (.aload_n 3, 1) := by decide +kernel
theorem dX5_of_87 : decode cX5_of 87 = .ok (.getfield 135, 3) := by decide +kernel
theorem dX5_of_90 : decode cX5_of 90 = .ok (.ireturn, 1) := by decide +kernel
theorem dX5_of_91 : decode cX5_of 91 = .ok (.aload_n 3, 1) := by decide +kernel
theorem dX5_of_92 : decode cX5_of 92 = .ok (.getfield 138, 3) := by decide +kernel
theorem dX5_of_95 : decode cX5_of 95 = .ok (.ifCond .eq 7, 3) := by decide +kernel
theorem dX5_of_98 : decode cX5_of 98 = .ok (.iconst 1, 1) := by decide +kernel
theorem dX5_of_99 : decode cX5_of 99 = .ok (.goto 4, 3) := by decide +kernel
theorem dX5_of_102 : decode cX5_of 102 = .ok (.iconst 0, 1) := by decide +kernel
theorem dX5_of_103 : decode cX5_of 103 = .ok (.ireturn, 1) := by decide +kernel
theorem dX5_of_104 : decode cX5_of 104 = .ok (.aload_n 3, 1) := by decide +kernel
theorem dX5_of_105 : decode cX5_of 105 = .ok (.getfield 141, 3) := by decide +kernel
theorem dX5_of_108 : decode cX5_of 108 = .ok (.ireturn, 1) := by decide +kernel
theorem dX5_of_109 : decode cX5_of 109 = .ok (.aload_n 0, 1) := by decide +kernel
theorem dX5_of_110 : decode cX5_of 110 = .ok (.getfield 10, 3) := by decide +kernel
theorem dX5_of_113 : decode cX5_of 113 = .ok (.aload_n 3, 1) := by decide +kernel
theorem dX5_of_114 : decode cX5_of 114 = .ok (.invokevirtual 144, 3) := by decide +kernel
theorem dX5_of_117 : decode cX5_of 117 = .ok (.ireturn, 1) := by decide +kernel
theorem dX5_of_118 : decode cX5_of 118 = .ok (.bipush 100, 2) := by decide +kernel
theorem dX5_of_120 : decode cX5_of 120 = .ok (.aload_n 3, 1) := by decide +kernel
theorem dX5_of_121 : decode cX5_of 121 = .ok (.aload_n 0, 1) := by decide +kernel
theorem dX5_of_122 : decode cX5_of 122 = .ok (.getfield 10, 3) := by decide +kernel
theorem dX5_of_125 : decode cX5_of 125 = .ok (.invokevirtual 99, 3) := by decide +kernel
theorem dX5_of_128 : decode cX5_of 128 = .ok (.invokevirtual 148, 3) := by decide +kernel
theorem dX5_of_131 : decode cX5_of 131 = .ok (.iadd, 1) := by decide +kernel
theorem dX5_of_132 : decode cX5_of 132 = .ok (.ireturn, 1) := by decide +kernel
theorem dX5_of_133 : decode cX5_of 133 = .ok (.bipush 100, 2) := by decide +kernel
theorem dX5_of_135 : decode cX5_of 135 = .ok (.aload_n 3, 1) := by decide +kernel
theorem dX5_of_136 : decode cX5_of 136 = .ok (.invokevirtual 151, 3) := by decide +kernel
theorem dX5_of_139 : decode cX5_of 139 = .ok (.iadd, 1) := by decide +kernel
theorem dX5_of_140 : decode cX5_of 140 = .ok (.ireturn, 1) := by decide +kernel
theorem dX5_of_141 : decode cX5_of 141 = .ok (.aload_n 0, 1) := by decide +kernel
theorem dX5_of_142 : decode cX5_of 142 = .ok (.getfield 10, 3) := by decide +kernel
theorem dX5_of_145 : decode cX5_of 145 = .ok (.aload_n 3, 1) := by decide +kernel
theorem dX5_of_146 : decode cX5_of 146 = .ok (.invokevirtual 154, 3) := by decide +kernel
theorem dX5_of_149 : decode cX5_of 149 = .ok (.ifCond .eq 7, 3) := by decide +kernel
theorem dX5_of_152 : decode cX5_of 152 = .ok (.iconst 1, 1) := by decide +kernel
theorem dX5_of_153 : decode cX5_of 153 = .ok (.goto 4, 3) := by decide +kernel
theorem dX5_of_156 : decode cX5_of 156 = .ok (.iconst 0, 1) := by decide +kernel
theorem dX5_of_157 : decode cX5_of 157 = .ok (.ireturn, 1) := by decide +kernel
theorem dX5_of_158 : decode cX5_of 158 = .ok (.aload_n 0, 1) := by decide +kernel
theorem dX5_of_159 : decode cX5_of 159 = .ok (.ldc 57, 2) := by decide +kernel
theorem dX5_of_161 : decode cX5_of 161 = .ok (.invokevirtual 58, 3) := by decide +kernel
theorem dX5_of_164 : decode cX5_of 164 = .ok (.ireturn, 1) := by decide +kernel
theorem dX5_set_0 : decode cX5_set 0 = .ok (.aload_n 0, 1) := by decide +kernel
theorem dX5_set_1 : decode cX5_set 1 = .ok (.iload_n 1, 1) := by decide +kernel
theorem dX5_set_2 : decode cX5_set 2 = .ok (.invokevirtual 120, 3) := by decide +kernel
theorem dX5_set_5 : decode cX5_set 5 = .ok (.ifCond .ne 10, 3) := by decide +kernel
theorem dX5_set_8 : decode cX5_set 8 = .ok (.aload_n 0, 1) := by decide +kernel
theorem dX5_set_9 : decode cX5_set 9 = .ok (.ldc 57, 2) := by decide +kernel
theorem dX5_set_11 : decode cX5_set 11 = .ok (.invokevirtual 58, 3) := by decide +kernel
theorem dX5_set_14 : decode cX5_set 14 = .ok (.ireturn, 1) := by decide +kernel
theorem dX5_set_15 : decode cX5_set 15 = .ok (.aload_n 0, 1) := by decide +kernel
theorem dX5_set_16 : decode cX5_set 16 = .ok (.getfield 10, 3) := by decide +kernel
theorem dX5_set_19 : decode cX5_set 19 = .ok (.getfield 123, 3) := by decide +kernel
theorem dX5_set_22 : decode cX5_set 22 = .ok (.iload_n 1, 1) := by decide +kernel
theorem dX5_set_23 : decode cX5_set 23 = .ok (.aaload, 1) := by decide +kernel
theorem dX5_set_24 : decode cX5_set 24 = .ok (.astore 4, 2) := by decide +kernel
theorem dX5_set_26 : decode cX5_set 26 = .ok (.iload_n 2, 1) := by decide +kernel
theorem dX5_set_27 : decode cX5_set 27 = .ok (.iconst 1, 1) := by decide +kernel
theorem dX5_set_28 : decode cX5_set 28 = .ok (.if_icmp .ne 26, 3) := by decide +kernel
theorem dX5_set_31 : decode cX5_set 31 = .ok (.iload_n 3, 1) := by decide +kernel
theorem dX5_set_32 : decode cX5_set 32 = .ok (.invokestatic 65, 3) := by decide +kernel
theorem dX5_set_35 : decode cX5_set 35 = .ok (.ifCond .eq 19, 3) := by decide +kernel
theorem dX5_set_38 : decode cX5_set 38 = .ok (.aload 4, 2) := by decide +kernel
theorem dX5_set_40 : decode cX5_set 40 = .ok (.getfield 132, 3) := by decide +kernel
theorem dX5_set_43 : decode cX5_set 43 = .ok (.istore 5, 2) := by decide +kernel
theorem dX5_set_45 : decode cX5_set 45 = .ok (.aload 4, 2) := by decide +kernel
theorem dX5_set_47 : decode cX5_set 47 = .ok (.iload_n 3, 1) := by decide +kernel
theorem dX5_set_48 : decode cX5_set 48 = .ok (.putfield 132, 3) := by decide +kernel
theorem dX5_set_51 : decode cX5_set 51 = .ok (.iload 5, 2) := by decide +kernel
theorem dX5_set_53 : decode cX5_set 53 = .ok (.ireturn, 1) := by decide +kernel
theorem dX5_set_54 : decode cX5_set 54 = .ok (.iload_n 2, 1) := by decide +kernel
theorem dX5_set_55 : decode cX5_set 55 = .ok (.iconst 2, 1) := by decide +kernel
theorem dX5_set_56 : decode cX5_set 56 = .ok (.if_icmp .ne 29, 3) := by decide +kernel
theorem dX5_set_59 : decode cX5_set 59 = .ok (.iload_n 3, 1) := by decide +kernel
theorem dX5_set_60 : decode cX5_set 60 = .ok (.iconst 0, 1) := by decide +kernel
theorem dX5_set_61 : decode cX5_set 61 = .ok (.bipush 99, 2) := by decide +kernel
theorem dX5_set_63 : decode cX5_set 63 = .ok (.invokestatic 53, 3) := by decide +kernel
theorem dX5_set_66 : decode cX5_set 66 = .ok (.ifCond .eq 19, 3) := by decide +kernel
theorem dX5_set_69 : decode cX5_set 69 = .ok (.aload 4, 2) := by decide +kernel
theorem dX5_set_71 : decode cX5_set 71 = .ok (.getfield 135, 3) := by decide +kernel
theorem dX5_set_74 : decode cX5_set 74 = .ok (.istore 5, 2) := by decide +kernel
theorem dX5_set_76 : decode cX5_set 76 = .ok (.aload 4, 2) := by decide +kernel
theorem dX5_set_78 : decode cX5_set 78 = .ok (.iload_n 3, 1) := by decide +kernel
theorem dX5_set_79 : decode cX5_set 79 = .ok (.putfield 135, 3) := by decide +kernel
theorem dX5_set_82 : decode cX5_set 82 = .ok (.iload 5, 2) := by decide +kernel
theorem dX5_set_84 : decode cX5_set 84 = .ok (.ireturn, 1) := by decide +kernel
theorem dX5_set_85 : decode cX5_set 85 = .ok (.iload_n 2, 1) := by decide +kernel
theorem dX5_set_86 : decode cX5_set 86 = .ok (.iconst 4, 1) := by decide +kernel
theorem dX5_set_87 : decode cX5_set 87 = .ok (.if_icmp .ne 30, 3) := by decide +kernel
theorem dX5_set_90 : decode cX5_set 90 = .ok (.iload_n 3, 1) := by decide +kernel
theorem dX5_set_91 : decode cX5_set 91 = .ok (.iconst 0, 1) := by decide +kernel
theorem dX5_set_92 : decode cX5_set 92 = .ok (.sipush 9999, 3) := by decide +kernel
theorem dX5_set_95 : decode cX5_set 95 = .ok (.invokestatic 53, 3) := by decide +kernel
theorem dX5_set_98 : decode cX5_set 98 = .ok (.ifCond .eq 19, 3) := by decide +kernel
theorem dX5_set_101 : decode cX5_set 101 = .ok (.aload 4, 2) := by decide +kernel
theorem dX5_set_103 : decode cX5_set 103 = .ok (.getfield 141, 3) := by decide +kernel
theorem dX5_set_106 : decode cX5_set 106 = .ok (.istore 5, 2) := by decide +kernel
theorem dX5_set_108 : decode cX5_set 108 = .ok (.aload 4, 2) := by decide +kernel
theorem dX5_set_110 : decode cX5_set 110 = .ok (.iload_n 3, 1) := by decide +kernel
theorem dX5_set_111 : decode cX5_set 111 = .ok (.putfield 141, 3) := by decide +kernel
theorem dX5_set_114 : decode cX5_set 114 = .ok (.iload 5, 2) := by decide +kernel
theorem dX5_set_116 : decode cX5_set 116 = .ok (.ireturn, 1) := by decide +kernel
theorem dX5_set_117 : decode cX5_set 117 = .ok (.aload_n 0, 1) := by decide +kernel
theorem dX5_set_118 : decode cX5_set 118 = .ok (.ldc 57, 2) := by decide +kernel
theorem dX5_set_120 : decode cX5_set 120 = .ok (.invokevirtual 58, 3) := by decide +kernel
theorem dX5_set_123 : decode cX5_set 123 = .ok (.ireturn, 1) := by decide +kernel
theorem dX5_turn_0 : decode cX5_turn 0 = .ok (.aload_n 0, 1) := by decide +kernel
theorem dX5_turn_1 : decode cX5_turn 1 = .ok (.iload_n 1, 1) := by decide +kernel
theorem dX5_turn_2 : decode cX5_turn 2 = .ok (.invokevirtual 120, 3) := by decide +kernel
theorem dX5_turn_5 : decode cX5_turn 5 = .ok (.ifCond .eq 10, 3) := by decide +kernel
theorem dX5_turn_8 : decode cX5_turn 8 = .ok (.iload_n 2, 1) := by decide +kernel
theorem dX5_turn_9 : decode cX5_turn 9 = .ok (.invokestatic 108, 3) := by decide +kernel
theorem dX5_turn_12 : decode cX5_turn 12 = .ok (.ifCond .ne 10, 3) := by decide +kernel
theorem dX5_turn_15 : decode cX5_turn 15 = .ok (.aload_n 0, 1) := by decide +kernel
theorem dX5_turn_16 : decode cX5_turn 16 = .ok (.ldc 57, 2) := by decide +kernel
theorem dX5_turn_18 : decode cX5_turn 18 = .ok (.invokevirtual 58, 3) := by decide +kernel
theorem dX5_turn_21 : decode cX5_turn 21 = .ok (.ireturn, 1) := by decide +kernel
theorem dX5_turn_22 : decode cX5_turn 22 = .ok (.aload_n 0, 1) := by decide +kernel
theorem dX5_turn_23 : decode cX5_turn 23 = .ok (.getfield 10, 3) := by decide +kernel
theorem dX5_turn_26 : decode cX5_turn 26 = .ok (.getfield 123, 3) := by decide +kernel
theorem dX5_turn_29 : decode cX5_turn 29 = .ok (.iload_n 1, 1) := by decide +kernel
theorem dX5_turn_30 : decode cX5_turn 30 = .ok (.aaload, 1) := by decide +kernel
theorem dX5_turn_31 : decode cX5_turn 31 = .ok (.getfield 127, 3) := by decide +kernel
theorem dX5_turn_34 : decode cX5_turn 34 = .ok (.istore_n 3, 1) := by decide +kernel
theorem dX5_turn_35 : decode cX5_turn 35 = .ok (.aload_n 0, 1) := by decide +kernel
theorem dX5_turn_36 : decode cX5_turn 36 = .ok (.getfield 10, 3) := by decide +kernel
theorem dX5_turn_39 : decode cX5_turn 39 = .ok (.getfield 123, 3) := by decide +kernel
theorem dX5_turn_42 : decode cX5_turn 42 = .ok (.iload_n 1, 1) := by decide +kernel
theorem dX5_turn_43 : decode cX5_turn 43 = .ok (.aaload, 1) := by decide +kernel
theorem dX5_turn_44 : decode cX5_turn 44 = .ok (.iload_n 2, 1) := by decide +kernel
theorem dX5_turn_45 : decode cX5_turn 45 = .ok (.putfield 127, 3) := by decide +kernel
theorem dX5_turn_48 : decode cX5_turn 48 = .ok (.iload_n 3, 1) := by decide +kernel
theorem dX5_turn_49 : decode cX5_turn 49 = .ok (.ireturn, 1) := by decide +kernel
theorem dX5_as_0 : decode cX5_as 0 = .ok (.aload_n 0, 1) := by decide +kernel
theorem dX5_as_1 : decode cX5_as 1 = .ok (.iload_n 1, 1) := by decide +kernel
theorem dX5_as_2 : decode cX5_as 2 = .ok (.invokevirtual 120, 3) := by decide +kernel
theorem dX5_as_5 : decode cX5_as 5 = .ok (.ifCond .eq 10, 3) := by decide +kernel
theorem dX5_as_8 : decode cX5_as 8 = .ok (.iload_n 2, 1) := by decide +kernel
theorem dX5_as_9 : decode cX5_as 9 = .ok (.invokestatic 108, 3) := by decide +kernel
theorem dX5_as_12 : decode cX5_as 12 = .ok (.ifCond .ne 10, 3) := by decide +kernel
theorem dX5_as_15 : decode cX5_as 15 = .ok (.aload_n 0, 1) := by decide +kernel
theorem dX5_as_16 : decode cX5_as 16 = .ok (.ldc 57, 2) := by decide +kernel
theorem dX5_as_18 : decode cX5_as 18 = .ok (.invokevirtual 58, 3) := by decide +kernel
theorem dX5_as_21 : decode cX5_as 21 = .ok (.ireturn, 1) := by decide +kernel
theorem dX5_as_22 : decode cX5_as 22 = .ok (.aload_n 0, 1) := by decide +kernel
theorem dX5_as_23 : decode cX5_as 23 = .ok (.getfield 10, 3) := by decide +kernel
theorem dX5_as_26 : decode cX5_as 26 = .ok (.getfield 123, 3) := by decide +kernel
theorem dX5_as_29 : decode cX5_as 29 = .ok (.iload_n 1, 1) := by decide +kernel
theorem dX5_as_30 : decode cX5_as 30 = .ok (.aaload, 1) := by decide +kernel
theorem dX5_as_31 : decode cX5_as 31 = .ok (.astore_n 3, 1) := by decide +kernel
theorem dX5_as_32 : decode cX5_as 32 = .ok (.aload_n 3, 1) := by decide +kernel
theorem dX5_as_33 : decode cX5_as 33 = .ok (.iload_n 2, 1) := by decide +kernel
theorem dX5_as_34 : decode cX5_as 34 = .ok (.invokevirtual 158, 3) := by decide +kernel
theorem dX5_as_37 : decode cX5_as 37 = .ok (.ifCond .eq 10, 3) := by decide +kernel
theorem dX5_as_40 : decode cX5_as 40 = .ok (.aload_n 3, 1) := by decide +kernel
theorem dX5_as_41 : decode cX5_as 41 = .ok (.getfield 135, 3) := by decide +kernel
theorem dX5_as_44 : decode cX5_as 44 = .ok (.goto 9, 3) := by decide +kernel
theorem dX5_as_47 : decode cX5_as 47 = .ok (.aload_n 0, 1) := by decide +kernel
theorem dX5_as_48 : decode cX5_as 48 = .ok (.ldc 161, 2) := by decide +kernel
theorem dX5_as_50 : decode cX5_as 50 = .ok (.invokevirtual 58, 3) := by decide +kernel
theorem dX5_as_53 : decode cX5_as 53 = .ok (.ireturn, 1) := by decide +kernel
theorem dX5_tease_0 : decode cX5_tease 0 = .ok (.aload_n 0, 1) := by decide +kernel
theorem dX5_tease_1 : decode cX5_tease 1 = .ok (.iload_n 1, 1) := by decide +kernel
theorem dX5_tease_2 : decode cX5_tease 2 = .ok (.invokevirtual 120, 3) := by decide +kernel
theorem dX5_tease_5 : decode cX5_tease 5 = .ok (.ifCond .ne 10, 3) := by decide +kernel
theorem dX5_tease_8 : decode cX5_tease 8 = .ok (.aload_n 0, 1) := by decide +kernel
theorem dX5_tease_9 : decode cX5_tease 9 = .ok (.ldc 57, 2) := by decide +kernel
theorem dX5_tease_11 : decode cX5_tease 11 = .ok (.invokevirtual 58, 3) := by decide +kernel
theorem dX5_tease_14 : decode cX5_tease 14 = .ok (.ireturn, 1) := by decide +kernel
theorem dX5_tease_15 : decode cX5_tease 15 = .ok (.aload_n 0, 1) := by decide +kernel
theorem dX5_tease_16 : decode cX5_tease 16 = .ok (.getfield 10, 3) := by decide +kernel
theorem dX5_tease_19 : decode cX5_tease 19 = .ok (.getfield 123, 3) := by decide +kernel
theorem dX5_tease_22 : decode cX5_tease 22 = .ok (.iload_n 1, 1) := by decide +kernel
theorem dX5_tease_23 : decode cX5_tease 23 = .ok (.aaload, 1) := by decide +kernel
theorem dX5_tease_24 : decode cX5_tease 24 = .ok (.invokevirtual 162, 3) := by decide +kernel
theorem dX5_tease_27 : decode cX5_tease 27 = .ok (.aload_n 0, 1) := by decide +kernel
theorem dX5_tease_28 : decode cX5_tease 28 = .ok (.getfield 10, 3) := by decide +kernel
theorem dX5_tease_31 : decode cX5_tease 31 = .ok (.getfield 123, 3) := by decide +kernel
theorem dX5_tease_34 : decode cX5_tease 34 = .ok (.iload_n 1, 1) := by decide +kernel
theorem dX5_tease_35 : decode cX5_tease 35 = .ok (.aaload, 1) := by decide +kernel
theorem dX5_tease_36 : decode cX5_tease 36 = .ok (.getfield 135, 3) := by decide +kernel
theorem dX5_tease_39 : decode cX5_tease 39 = .ok (.ireturn, 1) := by decide +kernel
theorem dX5_tie_0 : decode cX5_tie 0 = .ok (.aload_n 0, 1) := by decide +kernel
theorem dX5_tie_1 : decode cX5_tie 1 = .ok (.iload_n 1, 1) := by decide +kernel
theorem dX5_tie_2 : decode cX5_tie 2 = .ok (.invokevirtual 120, 3) := by decide +kernel
theorem dX5_tie_5 : decode cX5_tie 5 = .ok (.ifCond .ne 10, 3) := by decide +kernel
theorem dX5_tie_8 : decode cX5_tie 8 = .ok (.aload_n 0, 1) := by decide +kernel
theorem dX5_tie_9 : decode cX5_tie 9 = .ok (.ldc 57, 2) := by decide +kernel
theorem dX5_tie_11 : decode cX5_tie 11 = .ok (.invokevirtual 58, 3) := by decide +kernel
theorem dX5_tie_14 : decode cX5_tie 14 = .ok (.ireturn, 1) := by decide +kernel
theorem dX5_tie_15 : decode cX5_tie 15 = .ok (.aload_n 0, 1) := by decide +kernel
theorem dX5_tie_16 : decode cX5_tie 16 = .ok (.getfield 10, 3) := by decide +kernel
theorem dX5_tie_19 : decode cX5_tie 19 = .ok (.getfield 123, 3) := by decide +kernel
theorem dX5_tie_22 : decode cX5_tie 22 = .ok (.iload_n 1, 1) := by decide +kernel
theorem dX5_tie_23 : decode cX5_tie 23 = .ok (.aaload, 1) := by decide +kernel
theorem dX5_tie_24 : decode cX5_tie 24 = .ok (.astore_n 2, 1) := by decide +kernel
theorem dX5_tie_25 : decode cX5_tie 25 = .ok (.aload_n 2, 1) := by decide +kernel
theorem dX5_tie_26 : decode cX5_tie 26 = .ok (.getfield 138, 3) := by decide +kernel
theorem dX5_tie_29 : decode cX5_tie 29 = .ok (.ifCond .eq 10, 3) := by decide +kernel
theorem dX5_tie_32 : decode cX5_tie 32 = .ok (.aload_n 0, 1) := by decide +kernel
theorem dX5_tie_33 : decode cX5_tie 33 = .ok (.ldc 165, 2) := by decide +kernel
theorem dX5_tie_35 : decode cX5_tie 35 = .ok (.invokevirtual 58, 3) := by decide +kernel
theorem dX5_tie_38 : decode cX5_tie 38 = .ok (.ireturn, 1) := by decide +kernel
theorem dX5_tie_39 : decode cX5_tie 39 = .ok (.aload_n 2, 1) := by decide +kernel
theorem dX5_tie_40 : decode cX5_tie 40 = .ok (.iconst 1, 1) := by decide +kernel
theorem dX5_tie_41 : decode cX5_tie 41 = .ok (.putfield 138, 3) := by decide +kernel
theorem dX5_tie_44 : decode cX5_tie 44 = .ok (.aload_n 2, 1) := by decide +kernel
theorem dX5_tie_45 : decode cX5_tie 45 = .ok (.iconst 0, 1) := by decide +kernel
theorem dX5_tie_46 : decode cX5_tie 46 = .ok (.putfield 141, 3) := by decide +kernel
theorem dX5_tie_49 : decode cX5_tie 49 = .ok (.iconst 1, 1) := by decide +kernel
theorem dX5_tie_50 : decode cX5_tie 50 = .ok (.ireturn, 1) := by decide +kernel
theorem dX5_cast_0 : decode cX5_cast 0 = .ok (.aload_n 0, 1) := by decide +kernel
theorem dX5_cast_1 : decode cX5_cast 1 = .ok (.iload_n 1, 1) := by decide +kernel
theorem dX5_cast_2 : decode cX5_cast 2 = .ok (.invokevirtual 120, 3) := by decide +kernel
theorem dX5_cast_5 : decode cX5_cast 5 = .ok (.ifCond .ne 10, 3) := by decide +kernel
theorem dX5_cast_8 : decode cX5_cast 8 = .ok (.aload_n 0, 1) := by decide +kernel
theorem dX5_cast_9 : decode cX5_cast 9 = .ok (.ldc 57, 2) := by decide +kernel
theorem dX5_cast_11 : decode cX5_cast 11 = .ok (.invokevirtual 58, 3) := by decide +kernel
theorem dX5_cast_14 : decode cX5_cast 14 = .ok (.ireturn, 1) := by decide +kernel
theorem dX5_cast_15 : decode cX5_cast 15 = .ok (.aload_n 0, 1) := by decide +kernel
theorem dX5_cast_16 : decode cX5_cast 16 = .ok (.getfield 10, 3) := by decide +kernel
theorem dX5_cast_19 : decode cX5_cast 19 = .ok (.getfield 123, 3) := by decide +kernel
theorem dX5_cast_22 : decode cX5_cast 22 = .ok (.iload_n 1, 1) := by decide +kernel
theorem dX5_cast_23 : decode cX5_cast 23 = .ok (.aaload, 1) := by decide +kernel
theorem dX5_cast_24 : decode cX5_cast 24 = .ok (.astore_n 2, 1) := by decide +kernel
theorem dX5_cast_25 : decode cX5_cast 25 = .ok (.aload_n 2, 1) := by decide +kernel
theorem dX5_cast_26 : decode cX5_cast 26 = .ok (.getfield 138, 3) := by decide +kernel
theorem dX5_cast_29 : decode cX5_cast 29 = .ok (.ifCond .ne 10, 3) := by decide +kernel
theorem dX5_cast_32 : decode cX5_cast 32 = .ok (.aload_n 0, 1) := by decide +kernel
theorem dX5_cast_33 : decode cX5_cast 33 = .ok (.ldc 165, 2) := by decide +kernel
theorem dX5_cast_35 : decode cX5_cast 35 = .ok (.invokevirtual 58, 3) := by decide +kernel
theorem dX5_cast_38 : decode cX5_cast 38 = .ok (.ireturn, 1) := by decide +kernel
theorem dX5_cast_39 : decode cX5_cast 39 = .ok (.aload_n 2, 1) := by decide +kernel
theorem dX5_cast_40 : decode cX5_cast 40 = .ok (.iconst 0, 1) := by decide +kernel
theorem dX5_cast_41 : decode cX5_cast 41 = .ok (.putfield 138, 3) := by decide +kernel
theorem dX5_cast_44 : decode cX5_cast 44 = .ok (.aload_n 2, 1) := by decide +kernel
theorem dX5_cast_45 : decode cX5_cast 45 = .ok (.getfield 141, 3) := by decide +kernel
theorem dX5_cast_48 : decode cX5_cast 48 = .ok (.ireturn, 1) := by decide +kernel
theorem dX5_hours_0 : decode cX5_hours 0 = .ok (.iload_n 1, 1) := by decide +kernel
theorem dX5_hours_1 : decode cX5_hours 1 = .ok (.iconst 1, 1) := by decide +kernel
theorem dX5_hours_2 : decode cX5_hours 2 = .ok (.bipush 100, 2) := by decide +kernel
theorem dX5_hours_4 : decode cX5_hours 4 = .ok (.invokestatic 53, 3) := by decide +kernel
theorem dX5_hours_7 : decode cX5_hours 7 = .ok (.ifCond .ne 10, 3) := by decide +kernel
theorem dX5_hours_10 : decode cX5_hours 10 = .ok (.aload_n 0, 1) := by decide +kernel
theorem dX5_hours_11 : decode cX5_hours 11 = .ok (.ldc 57, 2) := by decide +kernel
theorem dX5_hours_13 : decode cX5_hours 13 = .ok (.invokevirtual 58, 3) := by decide +kernel
theorem dX5_hours_16 : decode cX5_hours 16 = .ok (.ireturn, 1) := by decide +kernel
theorem dX5_hours_17 : decode cX5_hours 17 = .ok (.aload_n 0, 1) := by decide +kernel
theorem dX5_hours_18 : decode cX5_hours 18 = .ok (.getfield 10, 3) := by decide +kernel
theorem dX5_hours_21 : decode cX5_hours 21 = .ok (.getfield 92, 3) := by decide +kernel
theorem dX5_hours_24 : decode cX5_hours 24 = .ok (.ldc 166, 2) := by decide +kernel
theorem dX5_hours_26 : decode cX5_hours 26 = .ok (.iload_n 1, 1) := by decide +kernel
theorem dX5_hours_27 : decode cX5_hours 27 = .ok (.isub, 1) := by decide +kernel
theorem dX5_hours_28 : decode cX5_hours 28 = .ok (.if_icmp .le 10, 3) := by decide +kernel
theorem dX5_hours_31 : decode cX5_hours 31 = .ok (.aload_n 0, 1) := by decide +kernel
theorem dX5_hours_32 : decode cX5_hours 32 = .ok (.ldc 165, 2) := by decide +kernel
theorem dX5_hours_34 : decode cX5_hours 34 = .ok (.invokevirtual 58, 3) := by decide +kernel
theorem dX5_hours_37 : decode cX5_hours 37 = .ok (.ireturn, 1) := by decide +kernel
theorem dX5_hours_38 : decode cX5_hours 38 = .ok (.aload_n 0, 1) := by decide +kernel
theorem dX5_hours_39 : decode cX5_hours 39 = .ok (.getfield 10, 3) := by decide +kernel
theorem dX5_hours_42 : decode cX5_hours 42 = .ok (.iload_n 1, 1) := by decide +kernel
theorem dX5_hours_43 : decode cX5_hours 43 = .ok (.invokevirtual 167, 3) := by decide +kernel
theorem dX5_hours_46 : decode cX5_hours 46 = .ok (.aload_n 0, 1) := by decide +kernel
theorem dX5_hours_47 : decode cX5_hours 47 = .ok (.getfield 10, 3) := by decide +kernel
theorem dX5_hours_50 : decode cX5_hours 50 = .ok (.getfield 102, 3) := by decide +kernel
theorem dX5_hours_53 : decode cX5_hours 53 = .ok (.ireturn, 1) := by decide +kernel
theorem dX5_on_0 : decode cX5_on 0 = .ok (.aload_n 0, 1) := by decide +kernel
theorem dX5_on_1 : decode cX5_on 1 = .ok (.iload_n 1, 1) := by decide +kernel
theorem dX5_on_2 : decode cX5_on 2 = .ok (.invokevirtual 120, 3) := by decide +kernel
theorem dX5_on_5 : decode cX5_on 5 = .ok (.ifCond .eq 23, 3) := by decide +kernel
theorem dX5_on_8 : decode cX5_on 8 = .ok (.iload_n 2, 1) := by decide +kernel
theorem dX5_on_9 : decode cX5_on 9 = .ok (.iconst 0, 1) := by decide +kernel
theorem dX5_on_10 : decode cX5_on 10 = .ok (.sipush 200, 3) := by decide +kernel
theorem dX5_on_13 : decode cX5_on 13 = .ok (.invokestatic 53, 3) := by decide +kernel
theorem dX5_on_16 : decode cX5_on 16 = .ok (.ifCond .eq 12, 3) := by decide +kernel
theorem dX5_on_19 : decode cX5_on 19 = .ok (.iload_n 3, 1) := by decide +kernel
theorem dX5_on_20 : decode cX5_on 20 = .ok (.iconst 0, 1) := by decide +kernel
theorem dX5_on_21 : decode cX5_on 21 = .ok (.iconst 2, 1) := by decide +kernel
theorem dX5_on_22 : decode cX5_on 22 = .ok (.invokestatic 53, 3) := by decide +kernel
theorem dX5_on_25 : decode cX5_on 25 = .ok (.ifCond .ne 10, 3) := by decide +kernel
theorem dX5_on_28 : decode cX5_on 28 = .ok (.aload_n 0, 1) := by decide +kernel
theorem dX5_on_29 : decode cX5_on 29 = .ok (.ldc 57, 2) := by decide +kernel
theorem dX5_on_31 : decode cX5_on 31 = .ok (.invokevirtual 58, 3) := by decide +kernel
theorem dX5_on_34 : decode cX5_on 34 = .ok (.ireturn, 1) := by decide +kernel
theorem dX5_on_35 : decode cX5_on 35 = .ok (.aload_n 0, 1) := by decide +kernel
theorem dX5_on_36 : decode cX5_on 36 = .ok (.getfield 16, 3) := by decide +kernel
theorem dX5_on_39 : decode cX5_on 39 = .ok (.aload_n 0, 1) := by decide +kernel
theorem dX5_on_40 : decode cX5_on 40 = .ok (.getfield 10, 3) := by decide +kernel
theorem dX5_on_43 : decode cX5_on 43 = .ok (.invokevirtual 171, 3) := by decide +kernel
theorem dX5_on_46 : decode cX5_on 46 = .ok (.aload_n 0, 1) := by decide +kernel
theorem dX5_on_47 : decode cX5_on 47 = .ok (.getfield 16, 3) := by decide +kernel
theorem dX5_on_50 : decode cX5_on 50 = .ok (.iload_n 2, 1) := by decide +kernel
theorem dX5_on_51 : decode cX5_on 51 = .ok (.invokevirtual 167, 3) := by decide +kernel
theorem dX5_on_54 : decode cX5_on 54 = .ok (.aload_n 0, 1) := by decide +kernel
theorem dX5_on_55 : decode cX5_on 55 = .ok (.getfield 16, 3) := by decide +kernel
theorem dX5_on_58 : decode cX5_on 58 = .ok (.getfield 123, 3) := by decide +kernel
theorem dX5_on_61 : decode cX5_on 61 = .ok (.iload_n 1, 1) := by decide +kernel
theorem dX5_on_62 : decode cX5_on 62 = .ok (.aaload, 1) := by decide +kernel
theorem dX5_on_63 : decode cX5_on 63 = .ok (.astore 4, 2) := by decide +kernel
theorem dX5_on_65 : decode cX5_on 65 = .ok (.iload_n 3, 1) := by decide +kernel
theorem dX5_on_66 : decode cX5_on 66 = .ok (.ifCond .ne 9, 3) := by decide +kernel
theorem dX5_on_69 : decode cX5_on 69 = .ok (.aload 4, 2) := by decide +kernel
theorem dX5_on_71 : decode cX5_on 71 = .ok (.getfield 135, 3) := by decide +kernel
theorem dX5_on_74 : decode cX5_on 74 = .ok (.ireturn, 1) := by decide +kernel
theorem dX5_on_75 : decode cX5_on 75 = .ok (.iload_n 3, 1) := by decide +kernel
theorem dX5_on_76 : decode cX5_on 76 = .ok (.iconst 1, 1) := by decide +kernel
theorem dX5_on_77 : decode cX5_on 77 = .ok (.if_icmp .ne 17, 3) := by decide +kernel
theorem dX5_on_80 : decode cX5_on 80 = .ok (.aload 4, 2) := by decide +kernel
theorem dX5_on_82 : decode cX5_on 82 = .ok (.getfield 138, 3) := by decide +kernel
theorem dX5_on_85 : decode cX5_on 85 = .ok (.ifCond .eq 7, 3) := by decide +kernel
theorem dX5_on_88 : decode cX5_on 88 = .ok (.iconst 1, 1) := by decide +kernel
theorem dX5_on_89 : decode cX5_on 89 = .ok (.goto 4, 3) := by decide +kernel
theorem dX5_on_92 : decode cX5_on 92 = .ok (.iconst 0, 1) := by decide +kernel
theorem dX5_on_93 : decode cX5_on 93 = .ok (.ireturn, 1) := by decide +kernel
theorem dX5_on_94 : decode cX5_on 94 = .ok (.aload 4, 2) := by decide +kernel
theorem dX5_on_96 : decode cX5_on 96 = .ok (.getfield 141, 3) := by decide +kernel
theorem dX5_on_99 : decode cX5_on 99 = .ok (.ireturn, 1) := by decide +kernel
theorem dX5_then_0 : decode cX5_then 0 = .ok (.iload_n 1, 1) := by decide +kernel
theorem dX5_then_1 : decode cX5_then 1 = .ok (.iconst 0, 1) := by decide +kernel
theorem dX5_then_2 : decode cX5_then 2 = .ok (.sipush 200, 3) := by decide +kernel
theorem dX5_then_5 : decode cX5_then 5 = .ok (.invokestatic 53, 3) := by decide +kernel
theorem dX5_then_8 : decode cX5_then 8 = .ok (.ifCond .eq 12, 3) := by decide +kernel
theorem dX5_then_11 : decode cX5_then 11 = .ok (.iload_n 2, 1) := by decide +kernel
theorem dX5_then_12 : decode cX5_then 12 = .ok (.iconst 0, 1) := by decide +kernel
theorem dX5_then_13 : decode cX5_then 13 = .ok (.iconst 1, 1) := by decide +kernel
theorem dX5_then_14 : decode cX5_then 14 = .ok (.invokestatic 53, 3) := by decide +kernel
theorem dX5_then_17 : decode cX5_then 17 = .ok (.ifCond .ne 10, 3) := by decide +kernel
theorem dX5_then_20 : decode cX5_then 20 = .ok (.aload_n 0, 1) := by decide +kernel
theorem dX5_then_21 : decode cX5_then 21 = .ok (.ldc 57, 2) := by decide +kernel
theorem dX5_then_23 : decode cX5_then 23 = .ok (.invokevirtual 58, 3) := by decide +kernel
theorem dX5_then_26 : decode cX5_then 26 = .ok (.ireturn, 1) := by decide +kernel
theorem dX5_then_27 : decode cX5_then 27 = .ok (.aload_n 0, 1) := by decide +kernel
theorem dX5_then_28 : decode cX5_then 28 = .ok (.getfield 16, 3) := by decide +kernel
theorem dX5_then_31 : decode cX5_then 31 = .ok (.aload_n 0, 1) := by decide +kernel
theorem dX5_then_32 : decode cX5_then 32 = .ok (.getfield 10, 3) := by decide +kernel
theorem dX5_then_35 : decode cX5_then 35 = .ok (.invokevirtual 171, 3) := by decide +kernel
theorem dX5_then_38 : decode cX5_then 38 = .ok (.aload_n 0, 1) := by decide +kernel
theorem dX5_then_39 : decode cX5_then 39 = .ok (.getfield 16, 3) := by decide +kernel
theorem dX5_then_42 : decode cX5_then 42 = .ok (.iload_n 1, 1) := by decide +kernel
theorem dX5_then_43 : decode cX5_then 43 = .ok (.invokevirtual 167, 3) := by decide +kernel
theorem dX5_then_46 : decode cX5_then 46 = .ok (.iload_n 2, 1) := by decide +kernel
theorem dX5_then_47 : decode cX5_then 47 = .ok (.ifCond .ne 13, 3) := by decide +kernel
theorem dX5_then_50 : decode cX5_then 50 = .ok (.aload_n 0, 1) := by decide +kernel
theorem dX5_then_51 : decode cX5_then 51 = .ok (.getfield 16, 3) := by decide +kernel
theorem dX5_then_54 : decode cX5_then 54 = .ok (.getfield 102, 3) := by decide +kernel
theorem dX5_then_57 : decode cX5_then 57 = .ok (.goto 10, 3) := by decide +kernel
theorem dX5_then_60 : decode cX5_then 60 = .ok (.aload_n 0, 1) := by decide +kernel
theorem dX5_then_61 : decode cX5_then 61 = .ok (.getfield 16, 3) := by decide +kernel
theorem dX5_then_64 : decode cX5_then 64 = .ok (.invokevirtual 82, 3) := by decide +kernel
theorem dX5_then_67 : decode cX5_then 67 = .ok (.ireturn, 1) := by decide +kernel
theorem dX5_falls_0 : decode cX5_falls 0 = .ok (.iload_n 1, 1) := by decide +kernel
theorem dX5_falls_1 : decode cX5_falls 1 = .ok (.invokestatic 65, 3) := by decide +kernel
theorem dX5_falls_4 : decode cX5_falls 4 = .ok (.ifCond .ne 10, 3) := by decide +kernel
theorem dX5_falls_7 : decode cX5_falls 7 = .ok (.aload_n 0, 1) := by decide +kernel
theorem dX5_falls_8 : decode cX5_falls 8 = .ok (.ldc 57, 2) := by decide +kernel
theorem dX5_falls_10 : decode cX5_falls 10 = .ok (.invokevirtual 58, 3) := by decide +kernel
theorem dX5_falls_13 : decode cX5_falls 13 = .ok (.ireturn, 1) := by decide +kernel
theorem dX5_falls_14 : decode cX5_falls 14 = .ok (.aload_n 0, 1) := by decide +kernel
theorem dX5_falls_15 : decode cX5_falls 15 = .ok (.getfield 16, 3) := by decide +kernel
theorem dX5_falls_18 : decode cX5_falls 18 = .ok (.aload_n 0, 1) := by decide +kernel
theorem dX5_falls_19 : decode cX5_falls 19 = .ok (.getfield 10, 3) := by decide +kernel
theorem dX5_falls_22 : decode cX5_falls 22 = .ok (.invokevirtual 171, 3) := by decide +kernel
theorem dX5_falls_25 : decode cX5_falls 25 = .ok (.aload_n 0, 1) := by decide +kernel
theorem dX5_falls_26 : decode cX5_falls 26 = .ok (.getfield 16, 3) := by decide +kernel
theorem dX5_falls_29 : decode cX5_falls 29 = .ok (.iload_n 1, 1) := by decide +kernel
theorem dX5_falls_30 : decode cX5_falls 30 = .ok (.invokevirtual 175, 3) := by decide +kernel
theorem dX5_falls_33 : decode cX5_falls 33 = .ok (.istore_n 2, 1) := by decide +kernel
theorem dX5_falls_34 : decode cX5_falls 34 = .ok (.iload_n 2, 1) := by decide +kernel
theorem dX5_falls_35 : decode cX5_falls 35 = .ok (.sipush 200, 3) := by decide +kernel
theorem dX5_falls_38 : decode cX5_falls 38 = .ok (.if_icmp .le 12, 3) := by decide +kernel
theorem dX5_falls_41 : decode cX5_falls 41 = .ok (.aload_n 0, 1) := by decide +kernel
theorem dX5_falls_42 : decode cX5_falls 42 = .ok (.ldc 178, 2) := by decide +kernel
theorem dX5_falls_44 : decode cX5_falls 44 = .ok (.invokevirtual 58, 3) := by decide +kernel
theorem dX5_falls_47 : decode cX5_falls 47 = .ok (.goto 4, 3) := by decide +kernel
theorem dX5_falls_50 : decode cX5_falls 50 = .ok (.iload_n 2, 1) := by decide +kernel
theorem dX5_falls_51 : decode cX5_falls 51 = .ok (.ireturn, 1) := by decide +kernel
theorem dX5_gives_0 : decode cX5_gives 0 = .ok (.aload_n 0, 1) := by decide +kernel
theorem dX5_gives_1 : decode cX5_gives 1 = .ok (.iload_n 1, 1) := by decide +kernel
theorem dX5_gives_2 : decode cX5_gives 2 = .ok (.invokevirtual 120, 3) := by decide +kernel
theorem dX5_gives_5 : decode cX5_gives 5 = .ok (.ifCond .ne 10, 3) := by decide +kernel
theorem dX5_gives_8 : decode cX5_gives 8 = .ok (.aload_n 0, 1) := by decide +kernel
theorem dX5_gives_9 : decode cX5_gives 9 = .ok (.ldc 57, 2) := by decide +kernel
theorem dX5_gives_11 : decode cX5_gives 11 = .ok (.invokevirtual 58, 3) := by decide +kernel
theorem dX5_gives_14 : decode cX5_gives 14 = .ok (.ireturn, 1) := by decide +kernel
theorem dX5_gives_15 : decode cX5_gives 15 = .ok (.aload_n 0, 1) := by decide +kernel
theorem dX5_gives_16 : decode cX5_gives 16 = .ok (.getfield 16, 3) := by decide +kernel
theorem dX5_gives_19 : decode cX5_gives 19 = .ok (.aload_n 0, 1) := by decide +kernel
theorem dX5_gives_20 : decode cX5_gives 20 = .ok (.getfield 10, 3) := by decide +kernel
theorem dX5_gives_23 : decode cX5_gives 23 = .ok (.invokevirtual 171, 3) := by decide +kernel
theorem dX5_gives_26 : decode cX5_gives 26 = .ok (.aload_n 0, 1) := by decide +kernel
theorem dX5_gives_27 : decode cX5_gives 27 = .ok (.getfield 16, 3) := by decide +kernel
theorem dX5_gives_30 : decode cX5_gives 30 = .ok (.aload_n 0, 1) := by decide +kernel
theorem dX5_gives_31 : decode cX5_gives 31 = .ok (.getfield 16, 3) := by decide +kernel
theorem dX5_gives_34 : decode cX5_gives 34 = .ok (.getfield 123, 3) := by decide +kernel
theorem dX5_gives_37 : decode cX5_gives 37 = .ok (.iload_n 1, 1) := by decide +kernel
theorem dX5_gives_38 : decode cX5_gives 38 = .ok (.aaload, 1) := by decide +kernel
theorem dX5_gives_39 : decode cX5_gives 39 = .ok (.invokevirtual 179, 3) := by decide +kernel
theorem dX5_gives_42 : decode cX5_gives 42 = .ok (.istore_n 2, 1) := by decide +kernel
theorem dX5_gives_43 : decode cX5_gives 43 = .ok (.iload_n 2, 1) := by decide +kernel
theorem dX5_gives_44 : decode cX5_gives 44 = .ok (.sipush 200, 3) := by decide +kernel
theorem dX5_gives_47 : decode cX5_gives 47 = .ok (.if_icmp .le 12, 3) := by decide +kernel
theorem dX5_gives_50 : decode cX5_gives 50 = .ok (.aload_n 0, 1) := by decide +kernel
theorem dX5_gives_51 : decode cX5_gives 51 = .ok (.ldc 178, 2) := by decide +kernel
theorem dX5_gives_53 : decode cX5_gives 53 = .ok (.invokevirtual 58, 3) := by decide +kernel
theorem dX5_gives_56 : decode cX5_gives 56 = .ok (.goto 4, 3) := by decide +kernel
theorem dX5_gives_59 : decode cX5_gives 59 = .ok (.iload_n 2, 1) := by decide +kernel
theorem dX5_gives_60 : decode cX5_gives 60 = .ok (.ireturn, 1) := by decide +kernel
theorem dX5_best_0 : decode cX5_best 0 = .ok (.iload_n 1, 1) := by decide +kernel
theorem dX5_best_1 : decode cX5_best 1 = .ok (.invokestatic 65, 3) := by decide +kernel
theorem dX5_best_4 : decode cX5_best 4 = .ok (.ifCond .ne 10, 3) := by decide +kernel
theorem dX5_best_7 : decode cX5_best 7 = .ok (.aload_n 0, 1) := by decide +kernel
theorem dX5_best_8 : decode cX5_best 8 = .ok (.ldc 57, 2) := by decide +kernel
theorem dX5_best_10 : decode cX5_best 10 = .ok (.invokevirtual 58, 3) := by decide +kernel
theorem dX5_best_13 : decode cX5_best 13 = .ok (.ireturn, 1) := by decide +kernel
theorem dX5_best_14 : decode cX5_best 14 = .ok (.aload_n 0, 1) := by decide +kernel
theorem dX5_best_15 : decode cX5_best 15 = .ok (.getfield 16, 3) := by decide +kernel
theorem dX5_best_18 : decode cX5_best 18 = .ok (.aload_n 0, 1) := by decide +kernel
theorem dX5_best_19 : decode cX5_best 19 = .ok (.getfield 10, 3) := by decide +kernel
theorem dX5_best_22 : decode cX5_best 22 = .ok (.invokevirtual 171, 3) := by decide +kernel
theorem dX5_best_25 : decode cX5_best 25 = .ok (.aload_n 0, 1) := by decide +kernel
theorem dX5_best_26 : decode cX5_best 26 = .ok (.getfield 16, 3) := by decide +kernel
theorem dX5_best_29 : decode cX5_best 29 = .ok (.iload_n 1, 1) := by decide +kernel
theorem dX5_best_30 : decode cX5_best 30 = .ok (.invokevirtual 175, 3) := by decide +kernel
theorem dX5_best_33 : decode cX5_best 33 = .ok (.istore_n 2, 1) := by decide +kernel
theorem dX5_best_34 : decode cX5_best 34 = .ok (.iconst (-1), 1) := by decide +kernel
theorem dX5_best_35 : decode cX5_best 35 = .ok (.istore_n 3, 1) := by decide +kernel
theorem dX5_best_36 : decode cX5_best 36 = .ok (.iconst 0, 1) := by decide +kernel
theorem dX5_best_37 : decode cX5_best 37 = .ok (.istore 4, 2) := by decide +kernel
theorem dX5_best_39 : decode cX5_best 39 = .ok (.iload 4, 2) := by decide +kernel
theorem dX5_best_41 : decode cX5_best 41 = .ok (.aload_n 0, 1) := by decide +kernel
theorem dX5_best_42 : decode cX5_best 42 = .ok (.getfield 10, 3) := by decide +kernel
theorem dX5_best_45 : decode cX5_best 45 = .ok (.getfield 182, 3) := by decide +kernel
theorem dX5_best_48 : decode cX5_best 48 = .ok (.if_icmp .ge 55, 3) := by decide +kernel
theorem dX5_best_51 : decode cX5_best 51 = .ok (.aload_n 0, 1) := by decide +kernel
theorem dX5_best_52 : decode cX5_best 52 = .ok (.getfield 16, 3) := by decide +kernel
theorem dX5_best_55 : decode cX5_best 55 = .ok (.aload_n 0, 1) := by decide +kernel
theorem dX5_best_56 : decode cX5_best 56 = .ok (.getfield 10, 3) := by decide +kernel
theorem dX5_best_59 : decode cX5_best 59 = .ok (.invokevirtual 171, 3) := by decide +kernel
theorem dX5_best_62 : decode cX5_best 62 = .ok (.aload_n 0, 1) := by decide +kernel
theorem dX5_best_63 : decode cX5_best 63 = .ok (.getfield 16, 3) := by decide +kernel
theorem dX5_best_66 : decode cX5_best 66 = .ok (.getfield 123, 3) := by decide +kernel
theorem dX5_best_69 : decode cX5_best 69 = .ok (.iload 4, 2) := by decide +kernel
theorem dX5_best_71 : decode cX5_best 71 = .ok (.aaload, 1) := by decide +kernel
theorem dX5_best_72 : decode cX5_best 72 = .ok (.invokevirtual 162, 3) := by decide +kernel
theorem dX5_best_75 : decode cX5_best 75 = .ok (.aload_n 0, 1) := by decide +kernel
theorem dX5_best_76 : decode cX5_best 76 = .ok (.getfield 16, 3) := by decide +kernel
theorem dX5_best_79 : decode cX5_best 79 = .ok (.iload_n 1, 1) := by decide +kernel
theorem dX5_best_80 : decode cX5_best 80 = .ok (.invokevirtual 175, 3) := by decide +kernel
theorem dX5_best_83 : decode cX5_best 83 = .ok (.istore 5, 2) := by decide +kernel
theorem dX5_best_85 : decode cX5_best 85 = .ok (.iload 5, 2) := by decide +kernel
theorem dX5_best_87 : decode cX5_best 87 = .ok (.iload_n 2, 1) := by decide +kernel
theorem dX5_best_88 : decode cX5_best 88 = .ok (.if_icmp .le 9, 3) := by decide +kernel
theorem dX5_best_91 : decode cX5_best 91 = .ok (.iload 5, 2) := by decide +kernel
theorem dX5_best_93 : decode cX5_best 93 = .ok (.istore_n 2, 1) := by decide +kernel
theorem dX5_best_94 : decode cX5_best 94 = .ok (.iload 4, 2) := by decide +kernel
theorem dX5_best_96 : decode cX5_best 96 = .ok (.istore_n 3, 1) := by decide +kernel
theorem dX5_best_97 : decode cX5_best 97 = .ok (.iinc 4 1, 3) := by decide +kernel
theorem dX5_best_100 : decode cX5_best 100 = .ok (.goto (-61), 3) := by decide +kernel
theorem dX5_best_103 : decode cX5_best 103 = .ok (.iload_n 3, 1) := by decide +kernel
theorem dX5_best_104 : decode cX5_best 104 = .ok (.ifCond .ge 12, 3) := by decide +kernel
theorem dX5_best_107 : decode cX5_best 107 = .ok (.aload_n 0, 1) := by decide +kernel
theorem dX5_best_108 : decode cX5_best 108 = .ok (.ldc 178, 2) := by decide +kernel
theorem dX5_best_110 : decode cX5_best 110 = .ok (.invokevirtual 58, 3) := by decide +kernel
theorem dX5_best_113 : decode cX5_best 113 = .ok (.goto 4, 3) := by decide +kernel
theorem dX5_best_116 : decode cX5_best 116 = .ok (.iload_n 3, 1) := by decide +kernel
theorem dX5_best_117 : decode cX5_best 117 = .ok (.ireturn, 1) := by decide +kernel
theorem dX5_kind_0 : decode cX5_kind 0 = .ok (.aload_n 0, 1) := by decide +kernel
theorem dX5_kind_1 : decode cX5_kind 1 = .ok (.iload_n 1, 1) := by decide +kernel
theorem dX5_kind_2 : decode cX5_kind 2 = .ok (.invokevirtual 120, 3) := by decide +kernel
theorem dX5_kind_5 : decode cX5_kind 5 = .ok (.ifCond .ne 10, 3) := by decide +kernel
theorem dX5_kind_8 : decode cX5_kind 8 = .ok (.aload_n 0, 1) := by decide +kernel
theorem dX5_kind_9 : decode cX5_kind 9 = .ok (.ldc 57, 2) := by decide +kernel
theorem dX5_kind_11 : decode cX5_kind 11 = .ok (.invokevirtual 58, 3) := by decide +kernel
theorem dX5_kind_14 : decode cX5_kind 14 = .ok (.ireturn, 1) := by decide +kernel
theorem dX5_kind_15 : decode cX5_kind 15 = .ok (.iconst (-1), 1) := by decide +kernel
theorem dX5_kind_16 : decode cX5_kind 16 = .ok (.istore_n 2, 1) := by decide +kernel
theorem dX5_kind_17 : decode cX5_kind 17 = .ok (.iconst 0, 1) := by decide +kernel
theorem dX5_kind_18 : decode cX5_kind 18 = .ok (.istore_n 3, 1) := by decide +kernel
theorem dX5_kind_19 : decode cX5_kind 19 = .ok (.iconst 0, 1) := by decide +kernel
theorem dX5_kind_20 : decode cX5_kind 20 = .ok (.istore 4, 2) := by decide +kernel
theorem dX5_kind_22 : decode cX5_kind 22 = .ok (.iload 4, 2) := by decide +kernel
theorem dX5_kind_24 : decode cX5_kind 24 = .ok (.bipush 6, 2) := by decide +kernel
theorem dX5_kind_26 : decode cX5_kind 26 = .ok (.if_icmp .ge 64, 3) := by decide +kernel
theorem dX5_kind_29 : decode cX5_kind 29 = .ok (.aload_n 0, 1) := by decide +kernel
theorem dX5_kind_30 : decode cX5_kind 30 = .ok (.getfield 16, 3) := by decide +kernel
theorem dX5_kind_33 : decode cX5_kind 33 = .ok (.aload_n 0, 1) := by decide +kernel
theorem dX5_kind_34 : decode cX5_kind 34 = .ok (.getfield 10, 3) := by decide +kernel
theorem dX5_kind_37 : decode cX5_kind 37 = .ok (.invokevirtual 171, 3) := by decide +kernel
theorem dX5_kind_40 : decode cX5_kind 40 = .ok (.aload_n 0, 1) := by decide +kernel
theorem dX5_kind_41 : decode cX5_kind 41 = .ok (.getfield 16, 3) := by decide +kernel
theorem dX5_kind_44 : decode cX5_kind 44 = .ok (.getfield 123, 3) := by decide +kernel
theorem dX5_kind_47 : decode cX5_kind 47 = .ok (.iload_n 1, 1) := by decide +kernel
theorem dX5_kind_48 : decode cX5_kind 48 = .ok (.aaload, 1) := by decide +kernel
theorem dX5_kind_49 : decode cX5_kind 49 = .ok (.iload 4, 2) := by decide +kernel
theorem dX5_kind_51 : decode cX5_kind 51 = .ok (.putfield 127, 3) := by decide +kernel
theorem dX5_kind_54 : decode cX5_kind 54 = .ok (.aload_n 0, 1) := by decide +kernel
theorem dX5_kind_55 : decode cX5_kind 55 = .ok (.getfield 16, 3) := by decide +kernel
theorem dX5_kind_58 : decode cX5_kind 58 = .ok (.aload_n 0, 1) := by decide +kernel
theorem dX5_kind_59 : decode cX5_kind 59 = .ok (.getfield 16, 3) := by decide +kernel
theorem dX5_kind_62 : decode cX5_kind 62 = .ok (.getfield 123, 3) := by decide +kernel
theorem dX5_kind_65 : decode cX5_kind 65 = .ok (.iload_n 1, 1) := by decide +kernel
theorem dX5_kind_66 : decode cX5_kind 66 = .ok (.aaload, 1) := by decide +kernel
theorem dX5_kind_67 : decode cX5_kind 67 = .ok (.invokevirtual 179, 3) := by decide +kernel
theorem dX5_kind_70 : decode cX5_kind 70 = .ok (.istore 5, 2) := by decide +kernel
theorem dX5_kind_72 : decode cX5_kind 72 = .ok (.iload 5, 2) := by decide +kernel
theorem dX5_kind_74 : decode cX5_kind 74 = .ok (.iload_n 2, 1) := by decide +kernel
theorem dX5_kind_75 : decode cX5_kind 75 = .ok (.if_icmp .le 9, 3) := by decide +kernel
theorem dX5_kind_78 : decode cX5_kind 78 = .ok (.iload 5, 2) := by decide +kernel
theorem dX5_kind_80 : decode cX5_kind 80 = .ok (.istore_n 2, 1) := by decide +kernel
theorem dX5_kind_81 : decode cX5_kind 81 = .ok (.iload 4, 2) := by decide +kernel
theorem dX5_kind_83 : decode cX5_kind 83 = .ok (.istore_n 3, 1) := by decide +kernel
theorem dX5_kind_84 : decode cX5_kind 84 = .ok (.iinc 4 1, 3) := by decide +kernel
theorem dX5_kind_87 : decode cX5_kind 87 = .ok (.goto (-65), 3) := by decide +kernel
theorem dX5_kind_90 : decode cX5_kind 90 = .ok (.iload_n 3, 1) := by decide +kernel
theorem dX5_kind_91 : decode cX5_kind 91 = .ok (.ireturn, 1) := by decide +kernel
theorem dX5_open_0 : decode cX5_open 0 = .ok (.aload_n 0, 1) := by decide +kernel
theorem dX5_open_1 : decode cX5_open 1 = .ok (.iload_n 1, 1) := by decide +kernel
theorem dX5_open_2 : decode cX5_open 2 = .ok (.invokevirtual 120, 3) := by decide +kernel
theorem dX5_open_5 : decode cX5_open 5 = .ok (.ifCond .eq 13, 3) := by decide +kernel
theorem dX5_open_8 : decode cX5_open 8 = .ok (.iload_n 2, 1) := by decide +kernel
theorem dX5_open_9 : decode cX5_open 9 = .ok (.iconst 0, 1) := by decide +kernel
theorem dX5_open_10 : decode cX5_open 10 = .ok (.bipush 100, 2) := by decide +kernel
theorem dX5_open_12 : decode cX5_open 12 = .ok (.invokestatic 53, 3) := by decide +kernel
theorem dX5_open_15 : decode cX5_open 15 = .ok (.ifCond .ne 10, 3) := by decide +kernel
theorem dX5_open_18 : decode cX5_open 18 = .ok (.aload_n 0, 1) := by decide +kernel
theorem dX5_open_19 : decode cX5_open 19 = .ok (.ldc 57, 2) := by decide +kernel
theorem dX5_open_21 : decode cX5_open 21 = .ok (.invokevirtual 58, 3) := by decide +kernel
theorem dX5_open_24 : decode cX5_open 24 = .ok (.ireturn, 1) := by decide +kernel
theorem dX5_open_25 : decode cX5_open 25 = .ok (.iconst 0, 1) := by decide +kernel
theorem dX5_open_26 : decode cX5_open 26 = .ok (.istore_n 3, 1) := by decide +kernel
theorem dX5_open_27 : decode cX5_open 27 = .ok (.iload_n 3, 1) := by decide +kernel
theorem dX5_open_28 : decode cX5_open 28 = .ok (.bipush 99, 2) := by decide +kernel
theorem dX5_open_30 : decode cX5_open 30 = .ok (.if_icmp .gt 55, 3) := by decide +kernel
theorem dX5_open_33 : decode cX5_open 33 = .ok (.aload_n 0, 1) := by decide +kernel
theorem dX5_open_34 : decode cX5_open 34 = .ok (.getfield 16, 3) := by decide +kernel
theorem dX5_open_37 : decode cX5_open 37 = .ok (.aload_n 0, 1) := by decide +kernel
theorem dX5_open_38 : decode cX5_open 38 = .ok (.getfield 10, 3) := by decide +kernel
theorem dX5_open_41 : decode cX5_open 41 = .ok (.invokevirtual 171, 3) := by decide +kernel
theorem dX5_open_44 : decode cX5_open 44 = .ok (.aload_n 0, 1) := by decide +kernel
theorem dX5_open_45 : decode cX5_open 45 = .ok (.getfield 16, 3) := by decide +kernel
theorem dX5_open_48 : decode cX5_open 48 = .ok (.getfield 123, 3) := by decide +kernel
theorem dX5_open_51 : decode cX5_open 51 = .ok (.iload_n 1, 1) := by decide +kernel
theorem dX5_open_52 : decode cX5_open 52 = .ok (.aaload, 1) := by decide +kernel
theorem dX5_open_53 : decode cX5_open 53 = .ok (.iload_n 3, 1) := by decide +kernel
theorem dX5_open_54 : decode cX5_open 54 = .ok (.putfield 135, 3) := by decide +kernel
theorem dX5_open_57 : decode cX5_open 57 = .ok (.aload_n 0, 1) := by decide +kernel
theorem dX5_open_58 : decode cX5_open 58 = .ok (.getfield 16, 3) := by decide +kernel
theorem dX5_open_61 : decode cX5_open 61 = .ok (.aload_n 0, 1) := by decide +kernel
theorem dX5_open_62 : decode cX5_open 62 = .ok (.getfield 16, 3) := by decide +kernel
theorem dX5_open_65 : decode cX5_open 65 = .ok (.getfield 123, 3) := by decide +kernel
theorem dX5_open_68 : decode cX5_open 68 = .ok (.iload_n 1, 1) := by decide +kernel
theorem dX5_open_69 : decode cX5_open 69 = .ok (.aaload, 1) := by decide +kernel
theorem dX5_open_70 : decode cX5_open 70 = .ok (.iload_n 2, 1) := by decide +kernel
theorem dX5_open_71 : decode cX5_open 71 = .ok (.invokevirtual 185, 3) := by decide +kernel
theorem dX5_open_74 : decode cX5_open 74 = .ok (.ifCond .eq 5, 3) := by decide +kernel
theorem dX5_open_77 : decode cX5_open 77 = .ok (.iload_n 3, 1) := by decide +kernel
theorem dX5_open_78 : decode cX5_open 78 = .ok (.ireturn, 1) := by decide +kernel
theorem dX5_open_79 : decode cX5_open 79 = .ok (.iinc 3 1, 3) := by decide +kernel
theorem dX5_open_82 : decode cX5_open 82 = .ok (.goto (-55), 3) := by decide +kernel
theorem dX5_open_85 : decode cX5_open 85 = .ok (.aload_n 0, 1) := by decide +kernel
theorem dX5_open_86 : decode cX5_open 86 = .ok (.ldc 178, 2) := by decide +kernel
theorem dX5_open_88 : decode cX5_open 88 = .ok (.invokevirtual 58, 3) := by decide +kernel
theorem dX5_open_91 : decode cX5_open 91 = .ok (.ireturn, 1) := by decide +kernel
theorem dX5_bears_0 : decode cX5_bears 0 = .ok (.iload_n 1, 1) := by decide +kernel
theorem dX5_bears_1 : decode cX5_bears 1 = .ok (.invokestatic 65, 3) := by decide +kernel
theorem dX5_bears_4 : decode cX5_bears 4 = .ok (.ifCond .eq 13, 3) := by decide +kernel
theorem dX5_bears_7 : decode cX5_bears 7 = .ok (.iload_n 2, 1) := by decide +kernel
theorem dX5_bears_8 : decode cX5_bears 8 = .ok (.iconst 0, 1) := by decide +kernel
theorem dX5_bears_9 : decode cX5_bears 9 = .ok (.bipush 100, 2) := by decide +kernel
theorem dX5_bears_11 : decode cX5_bears 11 = .ok (.invokestatic 53, 3) := by decide +kernel
theorem dX5_bears_14 : decode cX5_bears 14 = .ok (.ifCond .ne 10, 3) := by decide +kernel
theorem dX5_bears_17 : decode cX5_bears 17 = .ok (.aload_n 0, 1) := by decide +kernel
theorem dX5_bears_18 : decode cX5_bears 18 = .ok (.ldc 57, 2) := by decide +kernel
theorem dX5_bears_20 : decode cX5_bears 20 = .ok (.invokevirtual 58, 3) := by decide +kernel
theorem dX5_bears_23 : decode cX5_bears 23 = .ok (.ireturn, 1) := by decide +kernel
theorem dX5_bears_24 : decode cX5_bears 24 = .ok (.iconst (-1), 1) := by decide +kernel
theorem dX5_bears_25 : decode cX5_bears 25 = .ok (.istore_n 3, 1) := by decide +kernel
theorem dX5_bears_26 : decode cX5_bears 26 = .ok (.sipush 1000, 3) := by decide +kernel
theorem dX5_bears_29 : decode cX5_bears 29 = .ok (.istore 4, 2) := by decide +kernel
theorem dX5_bears_31 : decode cX5_bears 31 = .ok (.iconst 0, 1) := by decide +kernel
theorem dX5_bears_32 : decode cX5_bears 32 = .ok (.istore 5, 2) := by decide +kernel
theorem dX5_bears_34 : decode cX5_bears 34 = .ok (.iload 5, 2) := by decide +kernel
theorem dX5_bears_36 : decode cX5_bears 36 = .ok (.bipush 10, 2) := by decide +kernel
theorem dX5_bears_38 : decode cX5_bears 38 = .ok (.if_icmp .ge 69, 3) := by decide +kernel
theorem dX5_bears_41 : decode cX5_bears 41 = .ok (.iload 4, 2) := by decide +kernel
theorem dX5_bears_43 : decode cX5_bears 43 = .ok (.iload_n 3, 1) := by decide +kernel
theorem dX5_bears_44 : decode cX5_bears 44 = .ok (.isub, 1) := by decide +kernel
theorem dX5_bears_45 : decode cX5_bears 45 = .ok (.iconst 1, 1) := by decide +kernel
theorem dX5_bears_46 : decode cX5_bears 46 = .ok (.if_icmp .le 61, 3) := by decide +kernel
theorem dX5_bears_49 : decode cX5_bears 49 = .ok (.iload_n 3, 1) := by decide +kernel
theorem dX5_bears_50 : decode cX5_bears 50 = .ok (.iload 4, 2) := by decide +kernel
theorem dX5_bears_52 : decode cX5_bears 52 = .ok (.iadd, 1) := by decide +kernel
theorem dX5_bears_53 : decode cX5_bears 53 = .ok (.iconst 2, 1) := by decide +kernel
theorem dX5_bears_54 : decode cX5_bears 54 = .ok (.idiv, 1) := by decide +kernel
theorem dX5_bears_55 : decode cX5_bears 55 = .ok (.istore 6, 2) := by decide +kernel
theorem dX5_bears_57 : decode cX5_bears 57 = .ok (.aload_n 0, 1) := by decide +kernel
theorem dX5_bears_58 : decode cX5_bears 58 = .ok (.getfield 16, 3) := by decide +kernel
theorem dX5_bears_61 : decode cX5_bears 61 = .ok (.aload_n 0, 1) := by decide +kernel
theorem dX5_bears_62 : decode cX5_bears 62 = .ok (.getfield 10, 3) := by decide +kernel
theorem dX5_bears_65 : decode cX5_bears 65 = .ok (.invokevirtual 171, 3) := by decide +kernel
theorem dX5_bears_68 : decode cX5_bears 68 = .ok (.aload_n 0, 1) := by decide +kernel
theorem dX5_bears_69 : decode cX5_bears 69 = .ok (.getfield 16, 3) := by decide +kernel
theorem dX5_bears_72 : decode cX5_bears 72 = .ok (.getfield 69, 3) := by decide +kernel
theorem dX5_bears_75 : decode cX5_bears 75 = .ok (.iload_n 1, 1) := by decide +kernel
theorem dX5_bears_76 : decode cX5_bears 76 = .ok (.iload 6, 2) := by decide +kernel
theorem dX5_bears_78 : decode cX5_bears 78 = .ok (.iastore, 1) := by decide +kernel
theorem dX5_bears_79 : decode cX5_bears 79 = .ok (.aload_n 0, 1) := by decide +kernel
theorem dX5_bears_80 : decode cX5_bears 80 = .ok (.getfield 16, 3) := by decide +kernel
theorem dX5_bears_83 : decode cX5_bears 83 = .ok (.iload_n 1, 1) := by decide +kernel
theorem dX5_bears_84 : decode cX5_bears 84 = .ok (.iload_n 2, 1) := by decide +kernel
theorem dX5_bears_85 : decode cX5_bears 85 = .ok (.invokevirtual 189, 3) := by decide +kernel
theorem dX5_bears_88 : decode cX5_bears 88 = .ok (.ifCond .eq 9, 3) := by decide +kernel
theorem dX5_bears_91 : decode cX5_bears 91 = .ok (.iload 6, 2) := by decide +kernel
theorem dX5_bears_93 : decode cX5_bears 93 = .ok (.istore_n 3, 1) := by decide +kernel
theorem dX5_bears_94 : decode cX5_bears 94 = .ok (.goto 7, 3) := by decide +kernel
theorem dX5_bears_97 : decode cX5_bears 97 = .ok (.iload 6, 2) := by decide +kernel
theorem dX5_bears_99 : decode cX5_bears 99 = .ok (.istore 4, 2) := by decide +kernel
theorem dX5_bears_101 : decode cX5_bears 101 = .ok (.iinc 5 1, 3) := by decide +kernel
theorem dX5_bears_104 : decode cX5_bears 104 = .ok (.goto (-70), 3) := by decide +kernel
theorem dX5_bears_107 : decode cX5_bears 107 = .ok (.iload_n 3, 1) := by decide +kernel
theorem dX5_bears_108 : decode cX5_bears 108 = .ok (.ifCond .ge 12, 3) := by decide +kernel
theorem dX5_bears_111 : decode cX5_bears 111 = .ok (.aload_n 0, 1) := by decide +kernel
theorem dX5_bears_112 : decode cX5_bears 112 = .ok (.ldc 178, 2) := by decide +kernel
theorem dX5_bears_114 : decode cX5_bears 114 = .ok (.invokevirtual 58, 3) := by decide +kernel
theorem dX5_bears_117 : decode cX5_bears 117 = .ok (.goto 4, 3) := by decide +kernel
theorem dX5_bears_120 : decode cX5_bears 120 = .ok (.iload_n 3, 1) := by decide +kernel
theorem dX5_bears_121 : decode cX5_bears 121 = .ok (.ireturn, 1) := by decide +kernel
theorem dX5_move_0 : decode cX5_move 0 = .ok (.aload_n 0, 1) := by decide +kernel
theorem dX5_move_1 : decode cX5_move 1 = .ok (.iload_n 1, 1) := by decide +kernel
theorem dX5_move_2 : decode cX5_move 2 = .ok (.invokevirtual 120, 3) := by decide +kernel
theorem dX5_move_5 : decode cX5_move 5 = .ok (.ifCond .eq 13, 3) := by decide +kernel
theorem dX5_move_8 : decode cX5_move 8 = .ok (.iload_n 2, 1) := by decide +kernel
theorem dX5_move_9 : decode cX5_move 9 = .ok (.iconst 1, 1) := by decide +kernel
theorem dX5_move_10 : decode cX5_move 10 = .ok (.bipush 100, 2) := by decide +kernel
theorem dX5_move_12 : decode cX5_move 12 = .ok (.invokestatic 53, 3) := by decide +kernel
theorem dX5_move_15 : decode cX5_move 15 = .ok (.ifCond .ne 10, 3) := by decide +kernel
theorem dX5_move_18 : decode cX5_move 18 = .ok (.aload_n 0, 1) := by decide +kernel
theorem dX5_move_19 : decode cX5_move 19 = .ok (.ldc 57, 2) := by decide +kernel
theorem dX5_move_21 : decode cX5_move 21 = .ok (.invokevirtual 58, 3) := by decide +kernel
theorem dX5_move_24 : decode cX5_move 24 = .ok (.ireturn, 1) := by decide +kernel
theorem dX5_move_25 : decode cX5_move 25 = .ok (.iconst (-1), 1) := by decide +kernel
theorem dX5_move_26 : decode cX5_move 26 = .ok (.istore_n 3, 1) := by decide +kernel
theorem dX5_move_27 : decode cX5_move 27 = .ok (.iconst 0, 1) := by decide +kernel
theorem dX5_move_28 : decode cX5_move 28 = .ok (.istore 4, 2) := by decide +kernel
theorem dX5_move_30 : decode cX5_move 30 = .ok (.iconst 0, 1) := by decide +kernel
theorem dX5_move_31 : decode cX5_move 31 = .ok (.istore 5, 2) := by decide +kernel
theorem dX5_move_33 : decode cX5_move 33 = .ok (.iload 5, 2) := by decide +kernel
theorem dX5_move_35 : decode cX5_move 35 = .ok (.iconst 4, 1) := by decide +kernel
theorem dX5_move_36 : decode cX5_move 36 = .ok (.if_icmp .ge 67, 3) := by decide +kernel
theorem dX5_move_39 : decode cX5_move 39 = .ok (.aload_n 0, 1) := by decide +kernel
theorem dX5_move_40 : decode cX5_move 40 = .ok (.getfield 16, 3) := by decide +kernel
theorem dX5_move_43 : decode cX5_move 43 = .ok (.aload_n 0, 1) := by decide +kernel
theorem dX5_move_44 : decode cX5_move 44 = .ok (.getfield 10, 3) := by decide +kernel
theorem dX5_move_47 : decode cX5_move 47 = .ok (.invokevirtual 171, 3) := by decide +kernel
theorem dX5_move_50 : decode cX5_move 50 = .ok (.aload_n 0, 1) := by decide +kernel
theorem dX5_move_51 : decode cX5_move 51 = .ok (.getfield 16, 3) := by decide +kernel
theorem dX5_move_54 : decode cX5_move 54 = .ok (.getfield 123, 3) := by decide +kernel
theorem dX5_move_57 : decode cX5_move 57 = .ok (.iload_n 1, 1) := by decide +kernel
theorem dX5_move_58 : decode cX5_move 58 = .ok (.aaload, 1) := by decide +kernel
theorem dX5_move_59 : decode cX5_move 59 = .ok (.iload 5, 2) := by decide +kernel
theorem dX5_move_61 : decode cX5_move 61 = .ok (.putfield 132, 3) := by decide +kernel
theorem dX5_move_64 : decode cX5_move 64 = .ok (.aload_n 0, 1) := by decide +kernel
theorem dX5_move_65 : decode cX5_move 65 = .ok (.getfield 16, 3) := by decide +kernel
theorem dX5_move_68 : decode cX5_move 68 = .ok (.iload_n 2, 1) := by decide +kernel
theorem dX5_move_69 : decode cX5_move 69 = .ok (.invokevirtual 167, 3) := by decide +kernel
theorem dX5_move_72 : decode cX5_move 72 = .ok (.aload_n 0, 1) := by decide +kernel
theorem dX5_move_73 : decode cX5_move 73 = .ok (.getfield 16, 3) := by decide +kernel
theorem dX5_move_76 : decode cX5_move 76 = .ok (.getfield 102, 3) := by decide +kernel
theorem dX5_move_79 : decode cX5_move 79 = .ok (.invokestatic 193, 3) := by decide +kernel
theorem dX5_move_82 : decode cX5_move 82 = .ok (.istore 6, 2) := by decide +kernel
theorem dX5_move_84 : decode cX5_move 84 = .ok (.iload 6, 2) := by decide +kernel
theorem dX5_move_86 : decode cX5_move 86 = .ok (.iload_n 3, 1) := by decide +kernel
theorem dX5_move_87 : decode cX5_move 87 = .ok (.if_icmp .le 10, 3) := by decide +kernel
theorem dX5_move_90 : decode cX5_move 90 = .ok (.iload 6, 2) := by decide +kernel
theorem dX5_move_92 : decode cX5_move 92 = .ok (.istore_n 3, 1) := by decide +kernel
theorem dX5_move_93 : decode cX5_move 93 = .ok (.iload 5, 2) := by decide +kernel
theorem dX5_move_95 : decode cX5_move 95 = .ok (.istore 4, 2) := by decide +kernel
theorem dX5_move_97 : decode cX5_move 97 = .ok (.iinc 5 1, 3) := by decide +kernel
theorem dX5_move_100 : decode cX5_move 100 = .ok (.goto (-67), 3) := by decide +kernel
theorem dX5_move_103 : decode cX5_move 103 = .ok (.iload 4, 2) := by decide +kernel
theorem dX5_move_105 : decode cX5_move 105 = .ok (.ireturn, 1) := by decide +kernel
theorem dX5_calm_0 : decode cX5_calm 0 = .ok (.iload_n 1, 1) := by decide +kernel
theorem dX5_calm_1 : decode cX5_calm 1 = .ok (.iconst 1, 1) := by decide +kernel
theorem dX5_calm_2 : decode cX5_calm 2 = .ok (.bipush 100, 2) := by decide +kernel
theorem dX5_calm_4 : decode cX5_calm 4 = .ok (.invokestatic 53, 3) := by decide +kernel
theorem dX5_calm_7 : decode cX5_calm 7 = .ok (.ifCond .ne 10, 3) := by decide +kernel
theorem dX5_calm_10 : decode cX5_calm 10 = .ok (.aload_n 0, 1) := by decide +kernel
theorem dX5_calm_11 : decode cX5_calm 11 = .ok (.ldc 57, 2) := by decide +kernel
theorem dX5_calm_13 : decode cX5_calm 13 = .ok (.invokevirtual 58, 3) := by decide +kernel
theorem dX5_calm_16 : decode cX5_calm 16 = .ok (.ireturn, 1) := by decide +kernel
theorem dX5_calm_17 : decode cX5_calm 17 = .ok (.iconst (-1), 1) := by decide +kernel
theorem dX5_calm_18 : decode cX5_calm 18 = .ok (.istore_n 2, 1) := by decide +kernel
theorem dX5_calm_19 : decode cX5_calm 19 = .ok (.iconst 0, 1) := by decide +kernel
theorem dX5_calm_20 : decode cX5_calm 20 = .ok (.istore_n 3, 1) := by decide +kernel
theorem dX5_calm_21 : decode cX5_calm 21 = .ok (.iconst 0, 1) := by decide +kernel
theorem dX5_calm_22 : decode cX5_calm 22 = .ok (.istore 4, 2) := by decide +kernel
theorem dX5_calm_24 : decode cX5_calm 24 = .ok (.iload 4, 2) := by decide +kernel
theorem dX5_calm_26 : decode cX5_calm 26 = .ok (.bipush 12, 2) := by decide +kernel
theorem dX5_calm_28 : decode cX5_calm 28 = .ok (.if_icmp .ge 63, 3) := by decide +kernel
theorem dX5_calm_31 : decode cX5_calm 31 = .ok (.aload_n 0, 1) := by decide +kernel
theorem dX5_calm_32 : decode cX5_calm 32 = .ok (.getfield 16, 3) := by decide +kernel
theorem dX5_calm_35 : decode cX5_calm 35 = .ok (.aload_n 0, 1) := by decide +kernel
theorem dX5_calm_36 : decode cX5_calm 36 = .ok (.getfield 10, 3) := by decide +kernel
theorem dX5_calm_39 : decode cX5_calm 39 = .ok (.invokevirtual 171, 3) := by decide +kernel
theorem dX5_calm_42 : decode cX5_calm 42 = .ok (.aload_n 0, 1) := by decide +kernel
theorem dX5_calm_43 : decode cX5_calm 43 = .ok (.getfield 16, 3) := by decide +kernel
theorem dX5_calm_46 : decode cX5_calm 46 = .ok (.getfield 62, 3) := by decide +kernel
theorem dX5_calm_49 : decode cX5_calm 49 = .ok (.iload 4, 2) := by decide +kernel
theorem dX5_calm_51 : decode cX5_calm 51 = .ok (.iconst 0, 1) := by decide +kernel
theorem dX5_calm_52 : decode cX5_calm 52 = .ok (.iastore, 1) := by decide +kernel
theorem dX5_calm_53 : decode cX5_calm 53 = .ok (.aload_n 0, 1) := by decide +kernel
theorem dX5_calm_54 : decode cX5_calm 54 = .ok (.getfield 16, 3) := by decide +kernel
theorem dX5_calm_57 : decode cX5_calm 57 = .ok (.iload_n 1, 1) := by decide +kernel
theorem dX5_calm_58 : decode cX5_calm 58 = .ok (.invokevirtual 167, 3) := by decide +kernel
theorem dX5_calm_61 : decode cX5_calm 61 = .ok (.aload_n 0, 1) := by decide +kernel
theorem dX5_calm_62 : decode cX5_calm 62 = .ok (.getfield 16, 3) := by decide +kernel
theorem dX5_calm_65 : decode cX5_calm 65 = .ok (.invokevirtual 82, 3) := by decide +kernel
theorem dX5_calm_68 : decode cX5_calm 68 = .ok (.invokestatic 193, 3) := by decide +kernel
theorem dX5_calm_71 : decode cX5_calm 71 = .ok (.istore 5, 2) := by decide +kernel
theorem dX5_calm_73 : decode cX5_calm 73 = .ok (.iload 5, 2) := by decide +kernel
theorem dX5_calm_75 : decode cX5_calm 75 = .ok (.iload_n 2, 1) := by decide +kernel
theorem dX5_calm_76 : decode cX5_calm 76 = .ok (.if_icmp .le 9, 3) := by decide +kernel
theorem dX5_calm_79 : decode cX5_calm 79 = .ok (.iload 5, 2) := by decide +kernel
theorem dX5_calm_81 : decode cX5_calm 81 = .ok (.istore_n 2, 1) := by decide +kernel
theorem dX5_calm_82 : decode cX5_calm 82 = .ok (.iload 4, 2) := by decide +kernel
theorem dX5_calm_84 : decode cX5_calm 84 = .ok (.istore_n 3, 1) := by decide +kernel
theorem dX5_calm_85 : decode cX5_calm 85 = .ok (.iinc 4 1, 3) := by decide +kernel
theorem dX5_calm_88 : decode cX5_calm 88 = .ok (.goto (-64), 3) := by decide +kernel
theorem dX5_calm_91 : decode cX5_calm 91 = .ok (.iload_n 3, 1) := by decide +kernel
theorem dX5_calm_92 : decode cX5_calm 92 = .ok (.ireturn, 1) := by decide +kernel
theorem dX5_firmest_0 : decode cX5_firmest 0 = .ok (.iload_n 1, 1) := by decide +kernel
theorem dX5_firmest_1 : decode cX5_firmest 1 = .ok (.iconst 0, 1) := by decide +kernel
theorem dX5_firmest_2 : decode cX5_firmest 2 = .ok (.sipush 200, 3) := by decide +kernel
theorem dX5_firmest_5 : decode cX5_firmest 5 = .ok (.invokestatic 53, 3) := by decide +kernel
theorem dX5_firmest_8 : decode cX5_firmest 8 = .ok (.ifCond .ne 10, 3) := by decide +kernel
theorem dX5_firmest_11 : decode cX5_firmest 11 = .ok (.aload_n 0, 1) := by decide +kernel
theorem dX5_firmest_12 : decode cX5_firmest 12 = .ok (.ldc 57, 2) := by decide +kernel
theorem dX5_firmest_14 : decode cX5_firmest 14 = .ok (.invokevirtual 58, 3) := by decide +kernel
theorem dX5_firmest_17 : decode cX5_firmest 17 = .ok (.ireturn, 1) := by decide +kernel
theorem dX5_firmest_18 : decode cX5_firmest 18 = .ok (.aload_n 0, 1) := by decide +kernel
theorem dX5_firmest_19 : decode cX5_firmest 19 = .ok (.getfield 16, 3) := by decide +kernel
theorem dX5_firmest_22 : decode cX5_firmest 22 = .ok (.aload_n 0, 1) := by decide +kernel
theorem dX5_firmest_23 : decode cX5_firmest 23 = .ok (.getfield 10, 3) := by decide +kernel
theorem dX5_firmest_26 : decode cX5_firmest 26 = .ok (.invokevirtual 171, 3) := by decide +kernel
theorem dX5_firmest_29 : decode cX5_firmest 29 = .ok (.aload_n 0, 1) := by decide +kernel
theorem dX5_firmest_30 : decode cX5_firmest 30 = .ok (.getfield 16, 3) := by decide +kernel
theorem dX5_firmest_33 : decode cX5_firmest 33 = .ok (.iload_n 1, 1) := by decide +kernel
theorem dX5_firmest_34 : decode cX5_firmest 34 = .ok (.invokevirtual 167, 3) := by decide +kernel
theorem dX5_firmest_37 : decode cX5_firmest 37 = .ok (.iconst (-1), 1) := by decide +kernel
theorem dX5_firmest_38 : decode cX5_firmest 38 = .ok (.istore_n 2, 1) := by decide +kernel
theorem dX5_firmest_39 : decode cX5_firmest 39 = .ok (.iconst (-1), 1) := by decide +kernel
theorem dX5_firmest_40 : decode cX5_firmest 40 = .ok (.istore_n 3, 1) := by decide +kernel
theorem dX5_firmest_41 : decode cX5_firmest 41 = .ok (.iconst 0, 1) := by decide +kernel
theorem dX5_firmest_42 : decode cX5_firmest 42 = .ok (.istore 4, 2) := by decide +kernel
theorem dX5_firmest_44 : decode cX5_firmest 44 = .ok (.iload 4, 2) := by decide +kernel
theorem dX5_firmest_46 : decode cX5_firmest 46 = .ok (.aload_n 0, 1) := by decide +kernel
theorem dX5_firmest_47 : decode cX5_firmest 47 = .ok (.getfield 16, 3) := by decide +kernel
theorem dX5_firmest_50 : decode cX5_firmest 50 = .ok (.getfield 182, 3) := by decide +kernel
theorem dX5_firmest_53 : decode cX5_firmest 53 = .ok (.if_icmp .ge 40, 3) := by decide +kernel
theorem dX5_firmest_56 : decode cX5_firmest 56 = .ok (.aload_n 0, 1) := by decide +kernel
theorem dX5_firmest_57 : decode cX5_firmest 57 = .ok (.getfield 16, 3) := by decide +kernel
theorem dX5_firmest_60 : decode cX5_firmest 60 = .ok (.aload_n 0, 1) := by decide +kernel
theorem dX5_firmest_61 : decode cX5_firmest 61 = .ok (.getfield 16, 3) := by decide +kernel
theorem dX5_firmest_64 : decode cX5_firmest 64 = .ok (.getfield 123, 3) := by decide +kernel
theorem dX5_firmest_67 : decode cX5_firmest 67 = .ok (.iload 4, 2) := by decide +kernel
theorem dX5_firmest_69 : decode cX5_firmest 69 = .ok (.aaload, 1) := by decide +kernel
theorem dX5_firmest_70 : decode cX5_firmest 70 = .ok (.invokevirtual 144, 3) := by decide +kernel
theorem dX5_firmest_73 : decode cX5_firmest 73 = .ok (.istore 5, 2) := by decide +kernel
theorem dX5_firmest_75 : decode cX5_firmest 75 = .ok (.iload 5, 2) := by decide +kernel
theorem dX5_firmest_77 : decode cX5_firmest 77 = .ok (.iload_n 2, 1) := by decide +kernel
theorem dX5_firmest_78 : decode cX5_firmest 78 = .ok (.if_icmp .le 9, 3) := by decide +kernel
theorem dX5_firmest_81 : decode cX5_firmest 81 = .ok (.iload 5, 2) := by decide +kernel
theorem dX5_firmest_83 : decode cX5_firmest 83 = .ok (.istore_n 2, 1) := by decide +kernel
theorem dX5_firmest_84 : decode cX5_firmest 84 = .ok (.iload 4, 2) := by decide +kernel
theorem dX5_firmest_86 : decode cX5_firmest 86 = .ok (.istore_n 3, 1) := by decide +kernel
theorem dX5_firmest_87 : decode cX5_firmest 87 = .ok (.iinc 4 1, 3) := by decide +kernel
theorem dX5_firmest_90 : decode cX5_firmest 90 = .ok (.goto (-46), 3) := by decide +kernel
theorem dX5_firmest_93 : decode cX5_firmest 93 = .ok (.iload_n 3, 1) := by decide +kernel
theorem dX5_firmest_94 : decode cX5_firmest 94 = .ok (.ifCond .ge 12, 3) := by decide +kernel
theorem dX5_firmest_97 : decode cX5_firmest 97 = .ok (.aload_n 0, 1) := by decide +kernel
theorem dX5_firmest_98 : decode cX5_firmest 98 = .ok (.ldc 178, 2) := by decide +kernel
theorem dX5_firmest_100 : decode cX5_firmest 100 = .ok (.invokevirtual 58, 3) := by decide +kernel
theorem dX5_firmest_103 : decode cX5_firmest 103 = .ok (.goto 4, 3) := by decide +kernel
theorem dX5_firmest_106 : decode cX5_firmest 106 = .ok (.iload_n 3, 1) := by decide +kernel
theorem dX5_firmest_107 : decode cX5_firmest 107 = .ok (.ireturn, 1) := by decide +kernel
theorem dX5_feed_0 : decode cX5_feed 0 = .ok (.iload_n 2, 1) := by decide +kernel
theorem dX5_feed_1 : decode cX5_feed 1 = .ok (.iconst 1, 1) := by decide +kernel
theorem dX5_feed_2 : decode cX5_feed 2 = .ok (.iconst 4, 1) := by decide +kernel
theorem dX5_feed_3 : decode cX5_feed 3 = .ok (.invokestatic 53, 3) := by decide +kernel
theorem dX5_feed_6 : decode cX5_feed 6 = .ok (.ifCond .ne 10, 3) := by decide +kernel
theorem dX5_feed_9 : decode cX5_feed 9 = .ok (.aload_n 0, 1) := by decide +kernel
theorem dX5_feed_10 : decode cX5_feed 10 = .ok (.ldc 57, 2) := by decide +kernel
theorem dX5_feed_12 : decode cX5_feed 12 = .ok (.invokevirtual 58, 3) := by decide +kernel
theorem dX5_feed_15 : decode cX5_feed 15 = .ok (.ireturn, 1) := by decide +kernel
theorem dX5_feed_16 : decode cX5_feed 16 = .ok (.aload_n 0, 1) := by decide +kernel
theorem dX5_feed_17 : decode cX5_feed 17 = .ok (.getfield 29, 3) := by decide +kernel
theorem dX5_feed_20 : decode cX5_feed 20 = .ok (.getfield 198, 3) := by decide +kernel
theorem dX5_feed_23 : decode cX5_feed 23 = .ok (.bipush 120, 2) := by decide +kernel
theorem dX5_feed_25 : decode cX5_feed 25 = .ok (.iload_n 2, 1) := by decide +kernel
theorem dX5_feed_26 : decode cX5_feed 26 = .ok (.isub, 1) := by decide +kernel
theorem dX5_feed_27 : decode cX5_feed 27 = .ok (.if_icmp .le 10, 3) := by decide +kernel
theorem dX5_feed_30 : decode cX5_feed 30 = .ok (.aload_n 0, 1) := by decide +kernel
theorem dX5_feed_31 : decode cX5_feed 31 = .ok (.ldc 115, 2) := by decide +kernel
theorem dX5_feed_33 : decode cX5_feed 33 = .ok (.invokevirtual 58, 3) := by decide +kernel
theorem dX5_feed_36 : decode cX5_feed 36 = .ok (.ireturn, 1) := by decide +kernel
theorem dX5_feed_37 : decode cX5_feed 37 = .ok (.iload_n 2, 1) := by decide +kernel
theorem dX5_feed_38 : decode cX5_feed 38 = .ok (.iconst 1, 1) := by decide +kernel
theorem dX5_feed_39 : decode cX5_feed 39 = .ok (.isub, 1) := by decide +kernel
theorem dX5_feed_40 : decode cX5_feed 40 = .ok (.istore_n 3, 1) := by decide +kernel
theorem dX5_feed_41 : decode cX5_feed 41 = .ok (.iload_n 3, 1) := by decide +kernel
theorem dX5_feed_42 : decode cX5_feed 42 = .ok (.ifCond .lt 26, 3) := by decide +kernel
theorem dX5_feed_45 : decode cX5_feed 45 = .ok (.aload_n 0, 1) := by decide +kernel
theorem dX5_feed_46 : decode cX5_feed 46 = .ok (.getfield 29, 3) := by decide +kernel
theorem dX5_feed_49 : decode cX5_feed 49 = .ok (.iload_n 1, 1) := by decide +kernel
theorem dX5_feed_50 : decode cX5_feed 50 = .ok (.bipush 8, 2) := by decide +kernel
theorem dX5_feed_52 : decode cX5_feed 52 = .ok (.iload_n 3, 1) := by decide +kernel
theorem dX5_feed_53 : decode cX5_feed 53 = .ok (.imul, 1) := by decide +kernel
theorem dX5_feed_54 : decode cX5_feed 54 = .ok (.iushr, 1) := by decide +kernel
theorem dX5_feed_55 : decode cX5_feed 55 = .ok (.sipush 255, 3) := by decide +kernel
theorem dX5_feed_58 : decode cX5_feed 58 = .ok (.iand, 1) := by decide +kernel
theorem dX5_feed_59 : decode cX5_feed 59 = .ok (.invokevirtual 201, 3) := by decide +kernel
theorem dX5_feed_62 : decode cX5_feed 62 = .ok (.iinc 3 (-1), 3) := by decide +kernel
theorem dX5_feed_65 : decode cX5_feed 65 = .ok (.goto (-24), 3) := by decide +kernel
theorem dX5_feed_68 : decode cX5_feed 68 = .ok (.aload_n 0, 1) := by decide +kernel
theorem dX5_feed_69 : decode cX5_feed 69 = .ok (.getfield 29, 3) := by decide +kernel
theorem dX5_feed_72 : decode cX5_feed 72 = .ok (.getfield 198, 3) := by decide +kernel
theorem dX5_feed_75 : decode cX5_feed 75 = .ok (.ireturn, 1) := by decide +kernel
theorem dX5_wipe_0 : decode cX5_wipe 0 = .ok (.aload_n 0, 1) := by decide +kernel
theorem dX5_wipe_1 : decode cX5_wipe 1 = .ok (.getfield 29, 3) := by decide +kernel
theorem dX5_wipe_4 : decode cX5_wipe 4 = .ok (.getfield 198, 3) := by decide +kernel
theorem dX5_wipe_7 : decode cX5_wipe 7 = .ok (.istore_n 1, 1) := by decide +kernel
theorem dX5_wipe_8 : decode cX5_wipe 8 = .ok (.aload_n 0, 1) := by decide +kernel
theorem dX5_wipe_9 : decode cX5_wipe 9 = .ok (.getfield 29, 3) := by decide +kernel
theorem dX5_wipe_12 : decode cX5_wipe 12 = .ok (.iconst 0, 1) := by decide +kernel
theorem dX5_wipe_13 : decode cX5_wipe 13 = .ok (.putfield 198, 3) := by decide +kernel
theorem dX5_wipe_16 : decode cX5_wipe 16 = .ok (.iload_n 1, 1) := by decide +kernel
theorem dX5_wipe_17 : decode cX5_wipe 17 = .ok (.ireturn, 1) := by decide +kernel
theorem dX5_yard_0 : decode cX5_yard 0 = .ok (.aload_n 0, 1) := by decide +kernel
theorem dX5_yard_1 : decode cX5_yard 1 = .ok (.getfield 16, 3) := by decide +kernel
theorem dX5_yard_4 : decode cX5_yard 4 = .ok (.aload_n 0, 1) := by decide +kernel
theorem dX5_yard_5 : decode cX5_yard 5 = .ok (.getfield 10, 3) := by decide +kernel
theorem dX5_yard_8 : decode cX5_yard 8 = .ok (.invokevirtual 171, 3) := by decide +kernel
theorem dX5_yard_11 : decode cX5_yard 11 = .ok (.aload_n 0, 1) := by decide +kernel
theorem dX5_yard_12 : decode cX5_yard 12 = .ok (.getfield 38, 3) := by decide +kernel
theorem dX5_yard_15 : decode cX5_yard 15 = .ok (.invokevirtual 204, 3) := by decide +kernel
theorem dX5_yard_18 : decode cX5_yard 18 = .ok (.istore_n 1, 1) := by decide +kernel
theorem dX5_yard_19 : decode cX5_yard 19 = .ok (.aload_n 0, 1) := by decide +kernel
theorem dX5_yard_20 : decode cX5_yard 20 = .ok (.getfield 29, 3) := by decide +kernel
theorem dX5_yard_23 : decode cX5_yard 23 = .ok (.iconst 0, 1) := by decide +kernel
theorem dX5_yard_24 : decode cX5_yard 24 = .ok (.putfield 198, 3) := by decide +kernel
theorem dX5_yard_27 : decode cX5_yard 27 = .ok (.iload_n 1, 1) := by decide +kernel
theorem dX5_yard_28 : decode cX5_yard 28 = .ok (.ifCond .lt 14, 3) := by decide +kernel
theorem dX5_yard_31 : decode cX5_yard 31 = .ok (.aload_n 0, 1) := by decide +kernel
theorem dX5_yard_32 : decode cX5_yard 32 = .ok (.getfield 10, 3) := by decide +kernel
theorem dX5_yard_35 : decode cX5_yard 35 = .ok (.aload_n 0, 1) := by decide +kernel
theorem dX5_yard_36 : decode cX5_yard 36 = .ok (.getfield 16, 3) := by decide +kernel
theorem dX5_yard_39 : decode cX5_yard 39 = .ok (.invokevirtual 171, 3) := by decide +kernel
theorem dX5_yard_42 : decode cX5_yard 42 = .ok (.iload_n 1, 1) := by decide +kernel
theorem dX5_yard_43 : decode cX5_yard 43 = .ok (.ireturn, 1) := by decide +kernel
theorem dX5_sheet_0 : decode cX5_sheet 0 = .ok (.iload_n 1, 1) := by decide +kernel
theorem dX5_sheet_1 : decode cX5_sheet 1 = .ok (.invokestatic 207, 3) := by decide +kernel
theorem dX5_sheet_4 : decode cX5_sheet 4 = .ok (.ifCond .eq 10, 3) := by decide +kernel
theorem dX5_sheet_7 : decode cX5_sheet 7 = .ok (.iload_n 2, 1) := by decide +kernel
theorem dX5_sheet_8 : decode cX5_sheet 8 = .ok (.invokestatic 210, 3) := by decide +kernel
theorem dX5_sheet_11 : decode cX5_sheet 11 = .ok (.ifCond .ne 10, 3) := by decide +kernel
theorem dX5_sheet_14 : decode cX5_sheet 14 = .ok (.aload_n 0, 1) := by decide +kernel
theorem dX5_sheet_15 : decode cX5_sheet 15 = .ok (.ldc 57, 2) := by decide +kernel
theorem dX5_sheet_17 : decode cX5_sheet 17 = .ok (.invokevirtual 58, 3) := by decide +kernel
theorem dX5_sheet_20 : decode cX5_sheet 20 = .ok (.ireturn, 1) := by decide +kernel
theorem dX5_sheet_21 : decode cX5_sheet 21 = .ok (.iload_n 3, 1) := by decide +kernel
theorem dX5_sheet_22 : decode cX5_sheet 22 = .ok (.ifCond .ge 10, 3) := by decide +kernel
theorem dX5_sheet_25 : decode cX5_sheet 25 = .ok (.aload_n 0, 1) := by decide +kernel
theorem dX5_sheet_26 : decode cX5_sheet 26 = .ok (.ldc 213, 2) := by decide +kernel
theorem dX5_sheet_28 : decode cX5_sheet 28 = .ok (.invokevirtual 58, 3) := by decide +kernel
theorem dX5_sheet_31 : decode cX5_sheet 31 = .ok (.ireturn, 1) := by decide +kernel
theorem dX5_sheet_32 : decode cX5_sheet 32 = .ok (.iload_n 3, 1) := by decide +kernel
theorem dX5_sheet_33 : decode cX5_sheet 33 = .ok (.bipush 40, 2) := by decide +kernel
theorem dX5_sheet_35 : decode cX5_sheet 35 = .ok (.if_icmp .le 10, 3) := by decide +kernel
theorem dX5_sheet_38 : decode cX5_sheet 38 = .ok (.aload_n 0, 1) := by decide +kernel
theorem dX5_sheet_39 : decode cX5_sheet 39 = .ok (.ldc 57, 2) := by decide +kernel
theorem dX5_sheet_41 : decode cX5_sheet 41 = .ok (.invokevirtual 58, 3) := by decide +kernel
theorem dX5_sheet_44 : decode cX5_sheet 44 = .ok (.ireturn, 1) := by decide +kernel
theorem dX5_sheet_45 : decode cX5_sheet 45 = .ok (.iload_n 2, 1) := by decide +kernel
theorem dX5_sheet_46 : decode cX5_sheet 46 = .ok (.ifCond .ne 7, 3) := by decide +kernel
theorem dX5_sheet_49 : decode cX5_sheet 49 = .ok (.iconst 0, 1) := by decide +kernel
theorem dX5_sheet_50 : decode cX5_sheet 50 = .ok (.goto 4, 3) := by decide +kernel
theorem dX5_sheet_53 : decode cX5_sheet 53 = .ok (.iload_n 3, 1) := by decide +kernel
theorem dX5_sheet_54 : decode cX5_sheet 54 = .ok (.istore 4, 2) := by decide +kernel
theorem dX5_sheet_56 : decode cX5_sheet 56 = .ok (.aload_n 0, 1) := by decide +kernel
theorem dX5_sheet_57 : decode cX5_sheet 57 = .ok (.getfield 44, 3) := by decide +kernel
theorem dX5_sheet_60 : decode cX5_sheet 60 = .ok (.iload_n 1, 1) := by decide +kernel
theorem dX5_sheet_61 : decode cX5_sheet 61 = .ok (.aaload, 1) := by decide +kernel
theorem dX5_sheet_62 : decode cX5_sheet 62 = .ok (.iload_n 2, 1) := by decide +kernel
theorem dX5_sheet_63 : decode cX5_sheet 63 = .ok (.iload 4, 2) := by decide +kernel
theorem dX5_sheet_65 : decode cX5_sheet 65 = .ok (.invokevirtual 214, 3) := by decide +kernel
theorem dX5_sheet_68 : decode cX5_sheet 68 = .ok (.iload 4, 2) := by decide +kernel
theorem dX5_sheet_70 : decode cX5_sheet 70 = .ok (.ireturn, 1) := by decide +kernel
theorem dX5_write_0 : decode cX5_write 0 = .ok (.iload_n 1, 1) := by decide +kernel
theorem dX5_write_1 : decode cX5_write 1 = .ok (.invokestatic 207, 3) := by decide +kernel
theorem dX5_write_4 : decode cX5_write 4 = .ok (.ifCond .ne 11, 3) := by decide +kernel
theorem dX5_write_7 : decode cX5_write 7 = .ok (.aload_n 0, 1) := by decide +kernel
theorem dX5_write_8 : decode cX5_write 8 = .ok (.ldc 57, 2) := by decide +kernel
theorem dX5_write_10 : decode cX5_write 10 = .ok (.invokevirtual 58, 3) := by decide +kernel
theorem dX5_write_13 : decode cX5_write 13 = .ok (.i2l, 1) := by decide +kernel
theorem dX5_write_14 : decode cX5_write 14 = .ok (.lreturn, 1) := by decide +kernel
theorem dX5_write_15 : decode cX5_write 15 = .ok (.aload_n 0, 1) := by decide +kernel
theorem dX5_write_16 : decode cX5_write 16 = .ok (.getfield 44, 3) := by decide +kernel
theorem dX5_write_19 : decode cX5_write 19 = .ok (.iload_n 1, 1) := by decide +kernel
theorem dX5_write_20 : decode cX5_write 20 = .ok (.aaload, 1) := by decide +kernel
theorem dX5_write_21 : decode cX5_write 21 = .ok (.astore 5, 2) := by decide +kernel
theorem dX5_write_23 : decode cX5_write 23 = .ok (.aload 5, 2) := by decide +kernel
theorem dX5_write_25 : decode cX5_write 25 = .ok (.invokevirtual 218, 3) := by decide +kernel
theorem dX5_write_28 : decode cX5_write 28 = .ok (.ifCond .eq 11, 3) := by decide +kernel
theorem dX5_write_31 : decode cX5_write 31 = .ok (.aload_n 0, 1) := by decide +kernel
theorem dX5_write_32 : decode cX5_write 32 = .ok (.ldc 221, 2) := by decide +kernel
theorem dX5_write_34 : decode cX5_write 34 = .ok (.invokevirtual 58, 3) := by decide +kernel
theorem dX5_write_37 : decode cX5_write 37 = .ok (.i2l, 1) := by decide +kernel
theorem dX5_write_38 : decode cX5_write 38 = .ok (.lreturn, 1) := by decide +kernel
theorem dX5_write_39 : decode cX5_write 39 = .ok (.iload_n 2, 1) := by decide +kernel
theorem dX5_write_40 : decode cX5_write 40 = .ok (.iconst 0, 1) := by decide +kernel
theorem dX5_write_41 : decode cX5_write 41 = .ok (.aload 5, 2) := by decide +kernel
theorem dX5_write_43 : decode cX5_write 43 = .ok (.getfield 222, 3) := by decide +kernel
theorem dX5_write_46 : decode cX5_write 46 = .ok (.iconst 1, 1) := by decide +kernel
theorem dX5_write_47 : decode cX5_write 47 = .ok (.isub, 1) := by decide +kernel
theorem dX5_write_48 : decode cX5_write 48 = .ok (.invokestatic 53, 3) := by decide +kernel
theorem dX5_write_51 : decode cX5_write 51 = .ok (.ifCond .ne 11, 3) := by decide +kernel
theorem dX5_write_54 : decode cX5_write 54 = .ok (.aload_n 0, 1) := by decide +kernel
theorem dX5_write_55 : decode cX5_write 55 = .ok (.ldc 57, 2) := by decide +kernel
theorem dX5_write_57 : decode cX5_write 57 = .ok (.invokevirtual 58, 3) := by decide +kernel
theorem dX5_write_60 : decode cX5_write 60 = .ok (.i2l, 1) := by decide +kernel
theorem dX5_write_61 : decode cX5_write 61 = .ok (.lreturn, 1) := by decide +kernel
theorem dX5_write_62 : decode cX5_write 62 = .ok (.aload 5, 2) := by decide +kernel
theorem dX5_write_64 : decode cX5_write 64 = .ok (.getfield 225, 3) := by decide +kernel
theorem dX5_write_67 : decode cX5_write 67 = .ok (.iload_n 2, 1) := by decide +kernel
theorem dX5_write_68 : decode cX5_write 68 = .ok (.laload, 1) := by decide +kernel
theorem dX5_write_69 : decode cX5_write 69 = .ok (.lstore 6, 2) := by decide +kernel
theorem dX5_write_71 : decode cX5_write 71 = .ok (.aload 5, 2) := by decide +kernel
theorem dX5_write_73 : decode cX5_write 73 = .ok (.iload_n 2, 1) := by decide +kernel
theorem dX5_write_74 : decode cX5_write 74 = .ok (.lload_n 3, 1) := by decide +kernel
theorem dX5_write_75 : decode cX5_write 75 = .ok (.invokevirtual 229, 3) := by decide +kernel
theorem dX5_write_78 : decode cX5_write 78 = .ok (.lload 6, 2) := by decide +kernel
theorem dX5_write_80 : decode cX5_write 80 = .ok (.lreturn, 1) := by decide +kernel
theorem dX5_copy_0 : decode cX5_copy 0 = .ok (.iload_n 1, 1) := by decide +kernel
theorem dX5_copy_1 : decode cX5_copy 1 = .ok (.invokestatic 207, 3) := by decide +kernel
theorem dX5_copy_4 : decode cX5_copy 4 = .ok (.ifCond .eq 10, 3) := by decide +kernel
theorem dX5_copy_7 : decode cX5_copy 7 = .ok (.iload_n 3, 1) := by decide +kernel
theorem dX5_copy_8 : decode cX5_copy 8 = .ok (.invokestatic 207, 3) := by decide +kernel
theorem dX5_copy_11 : decode cX5_copy 11 = .ok (.ifCond .ne 10, 3) := by decide +kernel
theorem dX5_copy_14 : decode cX5_copy 14 = .ok (.aload_n 0, 1) := by decide +kernel
theorem dX5_copy_15 : decode cX5_copy 15 = .ok (.ldc 57, 2) := by decide +kernel
theorem dX5_copy_17 : decode cX5_copy 17 = .ok (.invokevirtual 58, 3) := by decide +kernel
theorem dX5_copy_20 : decode cX5_copy 20 = .ok (.ireturn, 1) := by decide +kernel
theorem dX5_copy_21 : decode cX5_copy 21 = .ok (.aload_n 0, 1) := by decide +kernel
theorem dX5_copy_22 : decode cX5_copy 22 = .ok (.getfield 44, 3) := by decide +kernel
theorem dX5_copy_25 : decode cX5_copy 25 = .ok (.iload_n 1, 1) := by decide +kernel
theorem dX5_copy_26 : decode cX5_copy 26 = .ok (.aaload, 1) := by decide +kernel
theorem dX5_copy_27 : decode cX5_copy 27 = .ok (.astore 6, 2) := by decide +kernel
theorem dX5_copy_29 : decode cX5_copy 29 = .ok (.aload_n 0, 1) := by decide +kernel
theorem dX5_copy_30 : decode cX5_copy 30 = .ok (.getfield 44, 3) := by decide +kernel
theorem dX5_copy_33 : decode cX5_copy 33 = .ok (.iload_n 3, 1) := by decide +kernel
theorem dX5_copy_34 : decode cX5_copy 34 = .ok (.aaload, 1) := by decide +kernel
theorem dX5_copy_35 : decode cX5_copy 35 = .ok (.astore 7, 2) := by decide +kernel
theorem dX5_copy_37 : decode cX5_copy 37 = .ok (.aload 6, 2) := by decide +kernel
theorem dX5_copy_39 : decode cX5_copy 39 = .ok (.invokevirtual 218, 3) := by decide +kernel
theorem dX5_copy_42 : decode cX5_copy 42 = .ok (.ifCond .ne 11, 3) := by decide +kernel
theorem dX5_copy_45 : decode cX5_copy 45 = .ok (.aload 7, 2) := by decide +kernel
theorem dX5_copy_47 : decode cX5_copy 47 = .ok (.invokevirtual 218, 3) := by decide +kernel
theorem dX5_copy_50 : decode cX5_copy 50 = .ok (.ifCond .eq 10, 3) := by decide +kernel
theorem dX5_copy_53 : decode cX5_copy 53 = .ok (.aload_n 0, 1) := by decide +kernel
theorem dX5_copy_54 : decode cX5_copy 54 = .ok (.ldc 221, 2) := by decide +kernel
theorem dX5_copy_56 : decode cX5_copy 56 = .ok (.invokevirtual 58, 3) := by decide +kernel
theorem dX5_copy_59 : decode cX5_copy 59 = .ok (.ireturn, 1) := by decide +kernel
theorem dX5_copy_60 : decode cX5_copy 60 = .ok (.aload 6, 2) := by decide +kernel
theorem dX5_copy_62 : decode cX5_copy 62 = .ok (.getfield 233, 3) := by decide +kernel
theorem dX5_copy_65 : decode cX5_copy 65 = .ok (.aload 7, 2) := by decide +kernel
theorem dX5_copy_67 : decode cX5_copy 67 = .ok (.getfield 233, 3) := by decide +kernel
theorem dX5_copy_70 : decode cX5_copy 70 = .ok (.if_icmp .eq 10, 3) := by decide +kernel
theorem dX5_copy_73 : decode cX5_copy 73 = .ok (.aload_n 0, 1) := by decide +kernel
theorem dX5_copy_74 : decode cX5_copy 74 = .ok (.ldc 161, 2) := by decide +kernel
theorem dX5_copy_76 : decode cX5_copy 76 = .ok (.invokevirtual 58, 3) := by decide +kernel
theorem dX5_copy_79 : decode cX5_copy 79 = .ok (.ireturn, 1) := by decide +kernel
theorem dX5_copy_80 : decode cX5_copy 80 = .ok (.aload 6, 2) := by decide +kernel
theorem dX5_copy_82 : decode cX5_copy 82 = .ok (.iload_n 2, 1) := by decide +kernel
theorem dX5_copy_83 : decode cX5_copy 83 = .ok (.iload 5, 2) := by decide +kernel
theorem dX5_copy_85 : decode cX5_copy 85 = .ok (.invokevirtual 236, 3) := by decide +kernel
theorem dX5_copy_88 : decode cX5_copy 88 = .ok (.ifCond .eq 15, 3) := by decide +kernel
theorem dX5_copy_91 : decode cX5_copy 91 = .ok (.aload 7, 2) := by decide +kernel
theorem dX5_copy_93 : decode cX5_copy 93 = .ok (.iload 4, 2) := by decide +kernel
theorem dX5_copy_95 : decode cX5_copy 95 = .ok (.iload 5, 2) := by decide +kernel
theorem dX5_copy_97 : decode cX5_copy 97 = .ok (.invokevirtual 236, 3) := by decide +kernel
theorem dX5_copy_100 : decode cX5_copy 100 = .ok (.ifCond .ne 10, 3) := by decide +kernel
theorem dX5_copy_103 : decode cX5_copy 103 = .ok (.aload_n 0, 1) := by decide +kernel
theorem dX5_copy_104 : decode cX5_copy 104 = .ok (.ldc 57, 2) := by decide +kernel
theorem dX5_copy_106 : decode cX5_copy 106 = .ok (.invokevirtual 58, 3) := by decide +kernel
theorem dX5_copy_109 : decode cX5_copy 109 = .ok (.ireturn, 1) := by decide +kernel
theorem dX5_copy_110 : decode cX5_copy 110 = .ok (.aload 6, 2) := by decide +kernel
theorem dX5_copy_112 : decode cX5_copy 112 = .ok (.getfield 225, 3) := by decide +kernel
theorem dX5_copy_115 : decode cX5_copy 115 = .ok (.iload_n 2, 1) := by decide +kernel
theorem dX5_copy_116 : decode cX5_copy 116 = .ok (.aload 7, 2) := by decide +kernel
theorem dX5_copy_118 : decode cX5_copy 118 = .ok (.getfield 225, 3) := by decide +kernel
theorem dX5_copy_121 : decode cX5_copy 121 = .ok (.iload 4, 2) := by decide +kernel
theorem dX5_copy_123 : decode cX5_copy 123 = .ok (.iload 5, 2) := by decide +kernel
theorem dX5_copy_125 : decode cX5_copy 125 = .ok (.invokestatic 239, 3) := by decide +kernel
theorem dX5_copy_128 : decode cX5_copy 128 = .ok (.iload 5, 2) := by decide +kernel
theorem dX5_copy_130 : decode cX5_copy 130 = .ok (.ireturn, 1) := by decide +kernel
theorem dX5_lays_0 : decode cX5_lays 0 = .ok (.iload_n 1, 1) := by decide +kernel
theorem dX5_lays_1 : decode cX5_lays 1 = .ok (.invokestatic 207, 3) := by decide +kernel
theorem dX5_lays_4 : decode cX5_lays 4 = .ok (.ifCond .ne 10, 3) := by decide +kernel
theorem dX5_lays_7 : decode cX5_lays 7 = .ok (.aload_n 0, 1) := by decide +kernel
theorem dX5_lays_8 : decode cX5_lays 8 = .ok (.ldc 57, 2) := by decide +kernel
theorem dX5_lays_10 : decode cX5_lays 10 = .ok (.invokevirtual 58, 3) := by decide +kernel
theorem dX5_lays_13 : decode cX5_lays 13 = .ok (.ireturn, 1) := by decide +kernel
theorem dX5_lays_14 : decode cX5_lays 14 = .ok (.aload_n 0, 1) := by decide +kernel
theorem dX5_lays_15 : decode cX5_lays 15 = .ok (.getfield 44, 3) := by decide +kernel
theorem dX5_lays_18 : decode cX5_lays 18 = .ok (.iload_n 1, 1) := by decide +kernel
theorem dX5_lays_19 : decode cX5_lays 19 = .ok (.aaload, 1) := by decide +kernel
theorem dX5_lays_20 : decode cX5_lays 20 = .ok (.astore_n 2, 1) := by decide +kernel
theorem dX5_lays_21 : decode cX5_lays 21 = .ok (.aload_n 2, 1) := by decide +kernel
theorem dX5_lays_22 : decode cX5_lays 22 = .ok (.invokevirtual 218, 3) := by decide +kernel
theorem dX5_lays_25 : decode cX5_lays 25 = .ok (.ifCond .eq 10, 3) := by decide +kernel
theorem dX5_lays_28 : decode cX5_lays 28 = .ok (.aload_n 0, 1) := by decide +kernel
theorem dX5_lays_29 : decode cX5_lays 29 = .ok (.ldc 221, 2) := by decide +kernel
theorem dX5_lays_31 : decode cX5_lays 31 = .ok (.invokevirtual 58, 3) := by decide +kernel
theorem dX5_lays_34 : decode cX5_lays 34 = .ok (.ireturn, 1) := by decide +kernel
theorem dX5_lays_35 : decode cX5_lays 35 = .ok (.iconst 0, 1) := by decide +kernel
theorem dX5_lays_36 : decode cX5_lays 36 = .ok (.istore_n 3, 1) := by decide +kernel
theorem dX5_lays_37 : decode cX5_lays 37 = .ok (.iconst 0, 1) := by decide +kernel
theorem dX5_lays_38 : decode cX5_lays 38 = .ok (.istore 4, 2) := by decide +kernel
theorem dX5_lays_40 : decode cX5_lays 40 = .ok (.iload 4, 2) := by decide +kernel
theorem dX5_lays_42 : decode cX5_lays 42 = .ok (.bipush 12, 2) := by decide +kernel
theorem dX5_lays_44 : decode cX5_lays 44 = .ok (.if_icmp .ge 59, 3) := by decide +kernel
theorem dX5_lays_47 : decode cX5_lays 47 = .ok (.iload 4, 2) := by decide +kernel
theorem dX5_lays_49 : decode cX5_lays 49 = .ok (.aload_n 2, 1) := by decide +kernel
theorem dX5_lays_50 : decode cX5_lays 50 = .ok (.getfield 222, 3) := by decide +kernel
theorem dX5_lays_53 : decode cX5_lays 53 = .ok (.if_icmp .ge 50, 3) := by decide +kernel
theorem dX5_lays_56 : decode cX5_lays 56 = .ok (.aload_n 2, 1) := by decide +kernel
theorem dX5_lays_57 : decode cX5_lays 57 = .ok (.getfield 225, 3) := by decide +kernel
theorem dX5_lays_60 : decode cX5_lays 60 = .ok (.iload 4, 2) := by decide +kernel
theorem dX5_lays_62 : decode cX5_lays 62 = .ok (.laload, 1) := by decide +kernel
theorem dX5_lays_63 : decode cX5_lays 63 = .ok (.lstore 5, 2) := by decide +kernel
theorem dX5_lays_65 : decode cX5_lays 65 = .ok (.lload 5, 2) := by decide +kernel
theorem dX5_lays_67 : decode cX5_lays 67 = .ok (.lconst 0, 1) := by decide +kernel
theorem dX5_lays_68 : decode cX5_lays 68 = .ok (.lcmp, 1) := by decide +kernel
theorem dX5_lays_69 : decode cX5_lays 69 = .ok (.ifCond .lt 28, 3) := by decide +kernel
theorem dX5_lays_72 : decode cX5_lays 72 = .ok (.lload 5, 2) := by decide +kernel
theorem dX5_lays_74 : decode cX5_lays 74 = .ok (.ldc2_w 245, 3) := by decide +kernel
theorem dX5_lays_77 : decode cX5_lays 77 = .ok (.lcmp, 1) := by decide +kernel
theorem dX5_lays_78 : decode cX5_lays 78 = .ok (.ifCond .gt 19, 3) := by decide +kernel
theorem dX5_lays_81 : decode cX5_lays 81 = .ok (.aload_n 0, 1) := by decide +kernel
theorem dX5_lays_82 : decode cX5_lays 82 = .ok (.getfield 10, 3) := by decide +kernel
theorem dX5_lays_85 : decode cX5_lays 85 = .ok (.getfield 62, 3) := by decide +kernel
theorem dX5_lays_88 : decode cX5_lays 88 = .ok (.iload 4, 2) := by decide +kernel
theorem dX5_lays_90 : decode cX5_lays 90 = .ok (.lload 5, 2) := by decide +kernel
theorem dX5_lays_92 : decode cX5_lays 92 = .ok (.l2i, 1) := by decide +kernel
theorem dX5_lays_93 : decode cX5_lays 93 = .ok (.iastore, 1) := by decide +kernel
theorem dX5_lays_94 : decode cX5_lays 94 = .ok (.iinc 3 1, 3) := by decide +kernel
theorem dX5_lays_97 : decode cX5_lays 97 = .ok (.iinc 4 1, 3) := by decide +kernel
theorem dX5_lays_100 : decode cX5_lays 100 = .ok (.goto (-60), 3) := by decide +kernel
theorem dX5_lays_103 : decode cX5_lays 103 = .ok (.iload_n 3, 1) := by decide +kernel
theorem dX5_lays_104 : decode cX5_lays 104 = .ok (.ireturn, 1) := by decide +kernel
theorem dX5_book_0 : decode cX5_book 0 = .ok (.iload_n 1, 1) := by decide +kernel
theorem dX5_book_1 : decode cX5_book 1 = .ok (.invokestatic 207, 3) := by decide +kernel
theorem dX5_book_4 : decode cX5_book 4 = .ok (.ifCond .ne 10, 3) := by decide +kernel
theorem dX5_book_7 : decode cX5_book 7 = .ok (.aload_n 0, 1) := by decide +kernel
theorem dX5_book_8 : decode cX5_book 8 = .ok (.ldc 57, 2) := by decide +kernel
theorem dX5_book_10 : decode cX5_book 10 = .ok (.invokevirtual 58, 3) := by decide +kernel
theorem dX5_book_13 : decode cX5_book 13 = .ok (.ireturn, 1) := by decide +kernel
theorem dX5_book_14 : decode cX5_book 14 = .ok (.aload_n 0, 1) := by decide +kernel
theorem dX5_book_15 : decode cX5_book 15 = .ok (.getfield 44, 3) := by decide +kernel
theorem dX5_book_18 : decode cX5_book 18 = .ok (.iload_n 1, 1) := by decide +kernel
theorem dX5_book_19 : decode cX5_book 19 = .ok (.aaload, 1) := by decide +kernel
theorem dX5_book_20 : decode cX5_book 20 = .ok (.astore_n 3, 1) := by decide +kernel
theorem dX5_book_21 : decode cX5_book 21 = .ok (.aload_n 3, 1) := by decide +kernel
theorem dX5_book_22 : decode cX5_book 22 = .ok (.invokevirtual 218, 3) := by decide +kernel
theorem dX5_book_25 : decode cX5_book 25 = .ok (.ifCond .eq 10, 3) := by decide +kernel
theorem dX5_book_28 : decode cX5_book 28 = .ok (.aload_n 0, 1) := by decide +kernel
theorem dX5_book_29 : decode cX5_book 29 = .ok (.ldc 221, 2) := by decide +kernel
theorem dX5_book_31 : decode cX5_book 31 = .ok (.invokevirtual 58, 3) := by decide +kernel
theorem dX5_book_34 : decode cX5_book 34 = .ok (.ireturn, 1) := by decide +kernel
theorem dX5_book_35 : decode cX5_book 35 = .ok (.aload_n 0, 1) := by decide +kernel
theorem dX5_book_36 : decode cX5_book 36 = .ok (.iload_n 2, 1) := by decide +kernel
theorem dX5_book_37 : decode cX5_book 37 = .ok (.invokevirtual 120, 3) := by decide +kernel
theorem dX5_book_40 : decode cX5_book 40 = .ok (.ifCond .ne 10, 3) := by decide +kernel
theorem dX5_book_43 : decode cX5_book 43 = .ok (.aload_n 0, 1) := by decide +kernel
theorem dX5_book_44 : decode cX5_book 44 = .ok (.ldc 57, 2) := by decide +kernel
theorem dX5_book_46 : decode cX5_book 46 = .ok (.invokevirtual 58, 3) := by decide +kernel
theorem dX5_book_49 : decode cX5_book 49 = .ok (.ireturn, 1) := by decide +kernel
theorem dX5_book_50 : decode cX5_book 50 = .ok (.aload_n 0, 1) := by decide +kernel
theorem dX5_book_51 : decode cX5_book 51 = .ok (.getfield 16, 3) := by decide +kernel
theorem dX5_book_54 : decode cX5_book 54 = .ok (.aload_n 0, 1) := by decide +kernel
theorem dX5_book_55 : decode cX5_book 55 = .ok (.getfield 10, 3) := by decide +kernel
theorem dX5_book_58 : decode cX5_book 58 = .ok (.invokevirtual 171, 3) := by decide +kernel
theorem dX5_book_61 : decode cX5_book 61 = .ok (.iconst 0, 1) := by decide +kernel
theorem dX5_book_62 : decode cX5_book 62 = .ok (.istore 4, 2) := by decide +kernel
theorem dX5_book_64 : decode cX5_book 64 = .ok (.iload 4, 2) := by decide +kernel
theorem dX5_book_66 : decode cX5_book 66 = .ok (.aload_n 3, 1) := by decide +kernel
theorem dX5_book_67 : decode cX5_book 67 = .ok (.getfield 222, 3) := by decide +kernel
theorem dX5_book_70 : decode cX5_book 70 = .ok (.if_icmp .ge 35, 3) := by decide +kernel
theorem dX5_book_73 : decode cX5_book 73 = .ok (.aload_n 3, 1) := by decide +kernel
theorem dX5_book_74 : decode cX5_book 74 = .ok (.iload 4, 2) := by decide +kernel
theorem dX5_book_76 : decode cX5_book 76 = .ok (.aload_n 0, 1) := by decide +kernel
theorem dX5_book_77 : decode cX5_book 77 = .ok (.getfield 16, 3) := by decide +kernel
theorem dX5_book_80 : decode cX5_book 80 = .ok (.getfield 123, 3) := by decide +kernel
theorem dX5_book_83 : decode cX5_book 83 = .ok (.iload_n 2, 1) := by decide +kernel
theorem dX5_book_84 : decode cX5_book 84 = .ok (.aaload, 1) := by decide +kernel
theorem dX5_book_85 : decode cX5_book 85 = .ok (.getfield 135, 3) := by decide +kernel
theorem dX5_book_88 : decode cX5_book 88 = .ok (.i2l, 1) := by decide +kernel
theorem dX5_book_89 : decode cX5_book 89 = .ok (.invokevirtual 229, 3) := by decide +kernel
theorem dX5_book_92 : decode cX5_book 92 = .ok (.aload_n 0, 1) := by decide +kernel
theorem dX5_book_93 : decode cX5_book 93 = .ok (.getfield 16, 3) := by decide +kernel
theorem dX5_book_96 : decode cX5_book 96 = .ok (.invokevirtual 247, 3) := by decide +kernel
theorem dX5_book_99 : decode cX5_book 99 = .ok (.iinc 4 1, 3) := by decide +kernel
theorem dX5_book_102 : decode cX5_book 102 = .ok (.goto (-38), 3) := by decide +kernel
theorem dX5_book_105 : decode cX5_book 105 = .ok (.aload_n 3, 1) := by decide +kernel
theorem dX5_book_106 : decode cX5_book 106 = .ok (.getfield 222, 3) := by decide +kernel
theorem dX5_book_109 : decode cX5_book 109 = .ok (.ireturn, 1) := by decide +kernel
theorem dX5_read_0 : decode cX5_read 0 = .ok (.iload_n 1, 1) := by decide +kernel
theorem dX5_read_1 : decode cX5_read 1 = .ok (.invokestatic 207, 3) := by decide +kernel
theorem dX5_read_4 : decode cX5_read 4 = .ok (.ifCond .ne 10, 3) := by decide +kernel
theorem dX5_read_7 : decode cX5_read 7 = .ok (.aload_n 0, 1) := by decide +kernel
theorem dX5_read_8 : decode cX5_read 8 = .ok (.ldc 57, 2) := by decide +kernel
theorem dX5_read_10 : decode cX5_read 10 = .ok (.invokevirtual 58, 3) := by decide +kernel
theorem dX5_read_13 : decode cX5_read 13 = .ok (.ireturn, 1) := by decide +kernel
theorem dX5_read_14 : decode cX5_read 14 = .ok (.aload_n 0, 1) := by decide +kernel
theorem dX5_read_15 : decode cX5_read 15 = .ok (.getfield 44, 3) := by decide +kernel
theorem dX5_read_18 : decode cX5_read 18 = .ok (.iload_n 1, 1) := by decide +kernel
theorem dX5_read_19 : decode cX5_read 19 = .ok (.aaload, 1) := by decide +kernel
theorem dX5_read_20 : decode cX5_read 20 = .ok (.astore_n 3, 1) := by decide +kernel
theorem dX5_read_21 : decode cX5_read 21 = .ok (.aload_n 3, 1) := by decide +kernel
theorem dX5_read_22 : decode cX5_read 22 = .ok (.invokevirtual 218, 3) := by decide +kernel
theorem dX5_read_25 : decode cX5_read 25 = .ok (.ifCond .eq 10, 3) := by decide +kernel
theorem dX5_read_28 : decode cX5_read 28 = .ok (.aload_n 0, 1) := by decide +kernel
theorem dX5_read_29 : decode cX5_read 29 = .ok (.ldc 221, 2) := by decide +kernel
theorem dX5_read_31 : decode cX5_read 31 = .ok (.invokevirtual 58, 3) := by decide +kernel
theorem dX5_read_34 : decode cX5_read 34 = .ok (.ireturn, 1) := by decide +kernel
theorem dX5_read_35 : decode cX5_read 35 = .ok (.aload_n 0, 1) := by decide +kernel
theorem dX5_read_36 : decode cX5_read 36 = .ok (.iload_n 2, 1) := by decide +kernel
theorem dX5_read_37 : decode cX5_read 37 = .ok (.invokevirtual 120, 3) := by decide +kernel
theorem dX5_read_40 : decode cX5_read 40 = .ok (.ifCond .ne 10, 3) := by decide +kernel
theorem dX5_read_43 : decode cX5_read 43 = .ok (.aload_n 0, 1) := by decide +kernel
theorem dX5_read_44 : decode cX5_read 44 = .ok (.ldc 57, 2) := by decide +kernel
theorem dX5_read_46 : decode cX5_read 46 = .ok (.invokevirtual 58, 3) := by decide +kernel
theorem dX5_read_49 : decode cX5_read 49 = .ok (.ireturn, 1) := by decide +kernel
theorem dX5_read_50 : decode cX5_read 50 = .ok (.iconst 0, 1) := by decide +kernel
theorem dX5_read_51 : decode cX5_read 51 = .ok (.istore 4, 2) := by decide +kernel
theorem dX5_read_53 : decode cX5_read 53 = .ok (.iconst 0, 1) := by decide +kernel
theorem dX5_read_54 : decode cX5_read 54 = .ok (.istore 5, 2) := by decide +kernel
theorem dX5_read_56 : decode cX5_read 56 = .ok (.iload 5, 2) := by decide +kernel
theorem dX5_read_58 : decode cX5_read 58 = .ok (.bipush 6, 2) := by decide +kernel
theorem dX5_read_60 : decode cX5_read 60 = .ok (.if_icmp .ge 50, 3) := by decide +kernel
theorem dX5_read_63 : decode cX5_read 63 = .ok (.iconst 0, 1) := by decide +kernel
theorem dX5_read_64 : decode cX5_read 64 = .ok (.istore 6, 2) := by decide +kernel
theorem dX5_read_66 : decode cX5_read 66 = .ok (.iload 6, 2) := by decide +kernel
theorem dX5_read_68 : decode cX5_read 68 = .ok (.bipush 99, 2) := by decide +kernel
theorem dX5_read_70 : decode cX5_read 70 = .ok (.if_icmp .gt 34, 3) := by decide +kernel
theorem dX5_read_73 : decode cX5_read 73 = .ok (.aload_n 3, 1) := by decide +kernel
theorem dX5_read_74 : decode cX5_read 74 = .ok (.iload 6, 2) := by decide +kernel
theorem dX5_read_76 : decode cX5_read 76 = .ok (.invokevirtual 250, 3) := by decide +kernel
theorem dX5_read_79 : decode cX5_read 79 = .ok (.ifCond .eq 19, 3) := by decide +kernel
theorem dX5_read_82 : decode cX5_read 82 = .ok (.aload_n 0, 1) := by decide +kernel
theorem dX5_read_83 : decode cX5_read 83 = .ok (.aload_n 3, 1) := by decide +kernel
theorem dX5_read_84 : decode cX5_read 84 = .ok (.iload_n 2, 1) := by decide +kernel
theorem dX5_read_85 : decode cX5_read 85 = .ok (.iload 5, 2) := by decide +kernel
theorem dX5_read_87 : decode cX5_read 87 = .ok (.iload 6, 2) := by decide +kernel
theorem dX5_read_89 : decode cX5_read 89 = .ok (.invokevirtual 253, 3) := by decide +kernel
theorem dX5_read_92 : decode cX5_read 92 = .ok (.ifCond .eq 6, 3) := by decide +kernel
theorem dX5_read_95 : decode cX5_read 95 = .ok (.iinc 4 1, 3) := by decide +kernel
theorem dX5_read_98 : decode cX5_read 98 = .ok (.iinc 6 1, 3) := by decide +kernel
theorem dX5_read_101 : decode cX5_read 101 = .ok (.goto (-35), 3) := by decide +kernel
theorem dX5_read_104 : decode cX5_read 104 = .ok (.iinc 5 1, 3) := by decide +kernel
theorem dX5_read_107 : decode cX5_read 107 = .ok (.goto (-51), 3) := by decide +kernel
theorem dX5_read_110 : decode cX5_read 110 = .ok (.iload 4, 2) := by decide +kernel
theorem dX5_read_112 : decode cX5_read 112 = .ok (.ireturn, 1) := by decide +kernel
theorem dX5_image_0 : decode cX5_image 0 = .ok (.aload_n 0, 1) := by decide +kernel
theorem dX5_image_1 : decode cX5_image 1 = .ok (.getfield 19, 3) := by decide +kernel
theorem dX5_image_4 : decode cX5_image 4 = .ok (.aload_n 0, 1) := by decide +kernel
theorem dX5_image_5 : decode cX5_image 5 = .ok (.getfield 10, 3) := by decide +kernel
theorem dX5_image_8 : decode cX5_image 8 = .ok (.invokevirtual 171, 3) := by decide +kernel
theorem dX5_image_11 : decode cX5_image 11 = .ok (.aload_n 0, 1) := by decide +kernel
theorem dX5_image_12 : decode cX5_image 12 = .ok (.iconst 1, 1) := by decide +kernel
theorem dX5_image_13 : decode cX5_image 13 = .ok (.putfield 22, 3) := by decide +kernel
theorem dX5_image_16 : decode cX5_image 16 = .ok (.iconst 1, 1) := by decide +kernel
theorem dX5_image_17 : decode cX5_image 17 = .ok (.ireturn, 1) := by decide +kernel
theorem dX5_undo_0 : decode cX5_undo 0 = .ok (.aload_n 0, 1) := by decide +kernel
theorem dX5_undo_1 : decode cX5_undo 1 = .ok (.getfield 22, 3) := by decide +kernel
theorem dX5_undo_4 : decode cX5_undo 4 = .ok (.ifCond .ne 10, 3) := by decide +kernel
theorem dX5_undo_7 : decode cX5_undo 7 = .ok (.aload_n 0, 1) := by decide +kernel
theorem dX5_undo_8 : decode cX5_undo 8 = .ok (.ldc 178, 2) := by decide +kernel
theorem dX5_undo_10 : decode cX5_undo 10 = .ok (.invokevirtual 58, 3) := by decide +kernel
theorem dX5_undo_13 : decode cX5_undo 13 = .ok (.ireturn, 1) := by decide +kernel
theorem dX5_undo_14 : decode cX5_undo 14 = .ok (.aload_n 0, 1) := by decide +kernel
theorem dX5_undo_15 : decode cX5_undo 15 = .ok (.getfield 10, 3) := by decide +kernel
theorem dX5_undo_18 : decode cX5_undo 18 = .ok (.aload_n 0, 1) := by decide +kernel
theorem dX5_undo_19 : decode cX5_undo 19 = .ok (.getfield 19, 3) := by decide +kernel
theorem dX5_undo_22 : decode cX5_undo 22 = .ok (.invokevirtual 171, 3) := by decide +kernel
theorem dX5_undo_25 : decode cX5_undo 25 = .ok (.aload_n 0, 1) := by decide +kernel
theorem dX5_undo_26 : decode cX5_undo 26 = .ok (.getfield 10, 3) := by decide +kernel
theorem dX5_undo_29 : decode cX5_undo 29 = .ok (.getfield 182, 3) := by decide +kernel
theorem dX5_undo_32 : decode cX5_undo 32 = .ok (.ireturn, 1) := by decide +kernel
theorem dX5_tear_0 : decode cX5_tear 0 = .ok (.aload_n 0, 1) := by decide +kernel
theorem dX5_tear_1 : decode cX5_tear 1 = .ok (.getfield 22, 3) := by decide +kernel
theorem dX5_tear_4 : decode cX5_tear 4 = .ok (.ifCond .eq 7, 3) := by decide +kernel
theorem dX5_tear_7 : decode cX5_tear 7 = .ok (.iconst 1, 1) := by decide +kernel
theorem dX5_tear_8 : decode cX5_tear 8 = .ok (.goto 4, 3) := by decide +kernel
theorem dX5_tear_11 : decode cX5_tear 11 = .ok (.iconst 0, 1) := by decide +kernel
theorem dX5_tear_12 : decode cX5_tear 12 = .ok (.istore_n 1, 1) := by decide +kernel
theorem dX5_tear_13 : decode cX5_tear 13 = .ok (.aload_n 0, 1) := by decide +kernel
theorem dX5_tear_14 : decode cX5_tear 14 = .ok (.iconst 0, 1) := by decide +kernel
theorem dX5_tear_15 : decode cX5_tear 15 = .ok (.putfield 22, 3) := by decide +kernel
theorem dX5_tear_18 : decode cX5_tear 18 = .ok (.iload_n 1, 1) := by decide +kernel
theorem dX5_tear_19 : decode cX5_tear 19 = .ok (.ireturn, 1) := by decide +kernel
theorem dX5_count_0 : decode cX5_count 0 = .ok (.iload_n 1, 1) := by decide +kernel
theorem dX5_count_1 : decode cX5_count 1 = .ok (.tableswitch 63 0 3 #[31, 39, 47, 55], 31) := by decide +kernel
theorem dX5_count_32 : decode cX5_count 32 = .ok (.aload_n 0, 1) := by decide +kernel
theorem dX5_count_33 : decode cX5_count 33 = .ok (.getfield 10, 3) := by decide +kernel
theorem dX5_count_36 : decode cX5_count 36 = .ok (.getfield 182, 3) := by decide +kernel
theorem dX5_count_39 : decode cX5_count 39 = .ok (.ireturn, 1) := by decide +kernel
theorem dX5_count_40 : decode cX5_count 40 = .ok (.aload_n 0, 1) := by decide +kernel
theorem dX5_count_41 : decode cX5_count 41 = .ok (.getfield 29, 3) := by decide +kernel
theorem dX5_count_44 : decode cX5_count 44 = .ok (.getfield 198, 3) := by decide +kernel
theorem dX5_count_47 : decode cX5_count 47 = .ok (.ireturn, 1) := by decide +kernel
theorem dX5_count_48 : decode cX5_count 48 = .ok (.aload_n 0, 1) := by decide +kernel
theorem dX5_count_49 : decode cX5_count 49 = .ok (.getfield 10, 3) := by decide +kernel
theorem dX5_count_52 : decode cX5_count 52 = .ok (.invokevirtual 257, 3) := by decide +kernel
theorem dX5_count_55 : decode cX5_count 55 = .ok (.ireturn, 1) := by decide +kernel
theorem dX5_count_56 : decode cX5_count 56 = .ok (.aload_n 0, 1) := by decide +kernel
theorem dX5_count_57 : decode cX5_count 57 = .ok (.getfield 10, 3) := by decide +kernel
theorem dX5_count_60 : decode cX5_count 60 = .ok (.invokevirtual 260, 3) := by decide +kernel
theorem dX5_count_63 : decode cX5_count 63 = .ok (.ireturn, 1) := by decide +kernel
theorem dX5_count_64 : decode cX5_count 64 = .ok (.aload_n 0, 1) := by decide +kernel
theorem dX5_count_65 : decode cX5_count 65 = .ok (.ldc 57, 2) := by decide +kernel
theorem dX5_count_67 : decode cX5_count 67 = .ok (.invokevirtual 58, 3) := by decide +kernel
theorem dX5_count_70 : decode cX5_count 70 = .ok (.ireturn, 1) := by decide +kernel
theorem dX5_status_0 : decode cX5_status 0 = .ok (.iload_n 1, 1) := by decide +kernel
theorem dX5_status_1 : decode cX5_status 1 = .ok (.iconst (-1), 1) := by decide +kernel
theorem dX5_status_2 : decode cX5_status 2 = .ok (.if_icmp .ne 8, 3) := by decide +kernel
theorem dX5_status_5 : decode cX5_status 5 = .ok (.aload_n 0, 1) := by decide +kernel
theorem dX5_status_6 : decode cX5_status 6 = .ok (.invokevirtual 263, 3) := by decide +kernel
theorem dX5_status_9 : decode cX5_status 9 = .ok (.ireturn, 1) := by decide +kernel
theorem dX5_status_10 : decode cX5_status 10 = .ok (.iload_n 1, 1) := by decide +kernel
theorem dX5_status_11 : decode cX5_status 11 = .ok (.iconst 0, 1) := by decide +kernel
theorem dX5_status_12 : decode cX5_status 12 = .ok (.bipush 6, 2) := by decide +kernel
theorem dX5_status_14 : decode cX5_status 14 = .ok (.invokestatic 53, 3) := by decide +kernel
theorem dX5_status_17 : decode cX5_status 17 = .ok (.ifCond .eq 12, 3) := by decide +kernel
theorem dX5_status_20 : decode cX5_status 20 = .ok (.aload_n 0, 1) := by decide +kernel
theorem dX5_status_21 : decode cX5_status 21 = .ok (.getfield 48, 3) := by decide +kernel
theorem dX5_status_24 : decode cX5_status 24 = .ok (.iload_n 1, 1) := by decide +kernel
theorem dX5_status_25 : decode cX5_status 25 = .ok (.iaload, 1) := by decide +kernel
theorem dX5_status_26 : decode cX5_status 26 = .ok (.goto 9, 3) := by decide +kernel
theorem dX5_status_29 : decode cX5_status 29 = .ok (.aload_n 0, 1) := by decide +kernel
theorem dX5_status_30 : decode cX5_status 30 = .ok (.ldc 57, 2) := by decide +kernel
theorem dX5_status_32 : decode cX5_status 32 = .ok (.invokevirtual 58, 3) := by decide +kernel
theorem dX5_status_35 : decode cX5_status 35 = .ok (.ireturn, 1) := by decide +kernel
theorem dX5_tell_0 : decode cX5_tell 0 = .ok (.ldc 57, 2) := by decide +kernel
theorem dX5_tell_2 : decode cX5_tell 2 = .ok (.iload_n 1, 1) := by decide +kernel
theorem dX5_tell_3 : decode cX5_tell 3 = .ok (.isub, 1) := by decide +kernel
theorem dX5_tell_4 : decode cX5_tell 4 = .ok (.istore_n 2, 1) := by decide +kernel
theorem dX5_tell_5 : decode cX5_tell 5 = .ok (.iload_n 2, 1) := by decide +kernel
theorem dX5_tell_6 : decode cX5_tell 6 = .ok (.iconst 0, 1) := by decide +kernel
theorem dX5_tell_7 : decode cX5_tell 7 = .ok (.bipush 6, 2) := by decide +kernel
theorem dX5_tell_9 : decode cX5_tell 9 = .ok (.invokestatic 53, 3) := by decide +kernel
theorem dX5_tell_12 : decode cX5_tell 12 = .ok (.ifCond .eq 13, 3) := by decide +kernel
theorem dX5_tell_15 : decode cX5_tell 15 = .ok (.aload_n 0, 1) := by decide +kernel
theorem dX5_tell_16 : decode cX5_tell 16 = .ok (.getfield 48, 3) := by decide +kernel
theorem dX5_tell_19 : decode cX5_tell 19 = .ok (.iload_n 2, 1) := by decide +kernel
theorem dX5_tell_20 : decode cX5_tell 20 = .ok (.dup2, 1) := by decide +kernel
theorem dX5_tell_21 : decode cX5_tell 21 = .ok (.iaload, 1) := by decide +kernel
theorem dX5_tell_22 : decode cX5_tell 22 = .ok (.iconst 1, 1) := by decide +kernel
theorem dX5_tell_23 : decode cX5_tell 23 = .ok (.iadd, 1) := by decide +kernel
theorem dX5_tell_24 : decode cX5_tell 24 = .ok (.iastore, 1) := by decide +kernel
theorem dX5_tell_25 : decode cX5_tell 25 = .ok (.iload_n 1, 1) := by decide +kernel
theorem dX5_tell_26 : decode cX5_tell 26 = .ok (.ireturn, 1) := by decide +kernel
theorem dX5_allTold_0 : decode cX5_allTold 0 = .ok (.iconst 0, 1) := by decide +kernel
theorem dX5_allTold_1 : decode cX5_allTold 1 = .ok (.istore_n 1, 1) := by decide +kernel
theorem dX5_allTold_2 : decode cX5_allTold 2 = .ok (.iconst 0, 1) := by decide +kernel
theorem dX5_allTold_3 : decode cX5_allTold 3 = .ok (.istore_n 2, 1) := by decide +kernel
theorem dX5_allTold_4 : decode cX5_allTold 4 = .ok (.iload_n 2, 1) := by decide +kernel
theorem dX5_allTold_5 : decode cX5_allTold 5 = .ok (.bipush 7, 2) := by decide +kernel
theorem dX5_allTold_7 : decode cX5_allTold 7 = .ok (.if_icmp .ge 18, 3) := by decide +kernel
theorem dX5_allTold_10 : decode cX5_allTold 10 = .ok (.iload_n 1, 1) := by decide +kernel
theorem dX5_allTold_11 : decode cX5_allTold 11 = .ok (.aload_n 0, 1) := by decide +kernel
theorem dX5_allTold_12 : decode cX5_allTold 12 = .ok (.getfield 48, 3) := by decide +kernel
theorem dX5_allTold_15 : decode cX5_allTold 15 = .ok (.iload_n 2, 1) := by decide +kernel
theorem dX5_allTold_16 : decode cX5_allTold 16 = .ok (.iaload, 1) := by decide +kernel
theorem dX5_allTold_17 : decode cX5_allTold 17 = .ok (.iadd, 1) := by decide +kernel
theorem dX5_allTold_18 : decode cX5_allTold 18 = .ok (.istore_n 1, 1) := by decide +kernel
theorem dX5_allTold_19 : decode cX5_allTold 19 = .ok (.iinc 2 1, 3) := by decide +kernel
theorem dX5_allTold_22 : decode cX5_allTold 22 = .ok (.goto (-18), 3) := by decide +kernel
theorem dX5_allTold_25 : decode cX5_allTold 25 = .ok (.iload_n 1, 1) := by decide +kernel
theorem dX5_allTold_26 : decode cX5_allTold 26 = .ok (.ireturn, 1) := by decide +kernel
theorem dX5_isKnot_0 : decode cX5_isKnot 0 = .ok (.iload_n 1, 1) := by decide +kernel
theorem dX5_isKnot_1 : decode cX5_isKnot 1 = .ok (.iconst 0, 1) := by decide +kernel
theorem dX5_isKnot_2 : decode cX5_isKnot 2 = .ok (.aload_n 0, 1) := by decide +kernel
theorem dX5_isKnot_3 : decode cX5_isKnot 3 = .ok (.getfield 10, 3) := by decide +kernel
theorem dX5_isKnot_6 : decode cX5_isKnot 6 = .ok (.getfield 182, 3) := by decide +kernel
theorem dX5_isKnot_9 : decode cX5_isKnot 9 = .ok (.iconst 1, 1) := by decide +kernel
theorem dX5_isKnot_10 : decode cX5_isKnot 10 = .ok (.isub, 1) := by decide +kernel
theorem dX5_isKnot_11 : decode cX5_isKnot 11 = .ok (.invokestatic 53, 3) := by decide +kernel
theorem dX5_isKnot_14 : decode cX5_isKnot 14 = .ok (.ireturn, 1) := by decide +kernel
theorem dX5_goesAsTold_0 : decode cX5_goesAsTold 0 = .ok (.aload_n 0, 1) := by decide +kernel
theorem dX5_goesAsTold_1 : decode cX5_goesAsTold 1 = .ok (.getfield 16, 3) := by decide +kernel
theorem dX5_goesAsTold_4 : decode cX5_goesAsTold 4 = .ok (.aload_n 0, 1) := by decide +kernel
theorem dX5_goesAsTold_5 : decode cX5_goesAsTold 5 = .ok (.getfield 10, 3) := by decide +kernel
theorem dX5_goesAsTold_8 : decode cX5_goesAsTold 8 = .ok (.invokevirtual 171, 3) := by decide +kernel
theorem dX5_goesAsTold_11 : decode cX5_goesAsTold 11 = .ok (.aload_n 0, 1) := by decide +kernel
theorem dX5_goesAsTold_12 : decode cX5_goesAsTold 12 = .ok (.getfield 16, 3) := by decide +kernel
theorem dX5_goesAsTold_15 : decode cX5_goesAsTold 15 = .ok (.getfield 123, 3) := by decide +kernel
theorem dX5_goesAsTold_18 : decode cX5_goesAsTold 18 = .ok (.iload_n 2, 1) := by decide +kernel
theorem dX5_goesAsTold_19 : decode cX5_goesAsTold 19 = .ok (.aaload, 1) := by decide +kernel
theorem dX5_goesAsTold_20 : decode cX5_goesAsTold 20 = .ok (.astore 5, 2) := by decide +kernel
theorem dX5_goesAsTold_22 : decode cX5_goesAsTold 22 = .ok (.aload 5, 2) := by decide +kernel
theorem dX5_goesAsTold_24 : decode cX5_goesAsTold 24 = .ok (.iload_n 3, 1) := by decide +kernel
theorem dX5_goesAsTold_25 : decode cX5_goesAsTold 25 = .ok (.putfield 127, 3) := by decide +kernel
theorem dX5_goesAsTold_28 : decode cX5_goesAsTold 28 = .ok (.aload 5, 2) := by decide +kernel
theorem dX5_goesAsTold_30 : decode cX5_goesAsTold 30 = .ok (.iload 4, 2) := by decide +kernel
theorem dX5_goesAsTold_32 : decode cX5_goesAsTold 32 = .ok (.putfield 135, 3) := by decide +kernel
theorem dX5_goesAsTold_35 : decode cX5_goesAsTold 35 = .ok (.iconst 0, 1) := by decide +kernel
theorem dX5_goesAsTold_36 : decode cX5_goesAsTold 36 = .ok (.istore 6, 2) := by decide +kernel
theorem dX5_goesAsTold_38 : decode cX5_goesAsTold 38 = .ok (.iload 6, 2) := by decide +kernel
theorem dX5_goesAsTold_40 : decode cX5_goesAsTold 40 = .ok (.aload_n 1, 1) := by decide +kernel
theorem dX5_goesAsTold_41 : decode cX5_goesAsTold 41 = .ok (.getfield 222, 3) := by decide +kernel
theorem dX5_goesAsTold_44 : decode cX5_goesAsTold 44 = .ok (.if_icmp .ge 35, 3) := by decide +kernel
theorem dX5_goesAsTold_47 : decode cX5_goesAsTold 47 = .ok (.aload_n 1, 1) := by decide +kernel
theorem dX5_goesAsTold_48 : decode cX5_goesAsTold 48 = .ok (.getfield 225, 3) := by decide +kernel
theorem dX5_goesAsTold_51 : decode cX5_goesAsTold 51 = .ok (.iload 6, 2) := by decide +kernel
theorem dX5_goesAsTold_53 : decode cX5_goesAsTold 53 = .ok (.laload, 1) := by decide +kernel
theorem dX5_goesAsTold_54 : decode cX5_goesAsTold 54 = .ok (.aload 5, 2) := by decide +kernel
theorem dX5_goesAsTold_56 : decode cX5_goesAsTold 56 = .ok (.getfield 135, 3) := by decide +kernel
theorem dX5_goesAsTold_59 : decode cX5_goesAsTold 59 = .ok (.i2l, 1) := by decide +kernel
theorem dX5_goesAsTold_60 : decode cX5_goesAsTold 60 = .ok (.lcmp, 1) := by decide +kernel
theorem dX5_goesAsTold_61 : decode cX5_goesAsTold 61 = .ok (.ifCond .eq 5, 3) := by decide +kernel
theorem dX5_goesAsTold_64 : decode cX5_goesAsTold 64 = .ok (.iconst 0, 1) := by decide +kernel
theorem dX5_goesAsTold_65 : decode cX5_goesAsTold 65 = .ok (.ireturn, 1) := by decide +kernel
theorem dX5_goesAsTold_66 : decode cX5_goesAsTold 66 = .ok (.aload_n 0, 1) := by decide +kernel
theorem dX5_goesAsTold_67 : decode cX5_goesAsTold 67 = .ok (.getfield 16, 3) := by decide +kernel
theorem dX5_goesAsTold_70 : decode cX5_goesAsTold 70 = .ok (.invokevirtual 247, 3) := by decide +kernel
theorem dX5_goesAsTold_73 : decode cX5_goesAsTold 73 = .ok (.iinc 6 1, 3) := by decide +kernel
theorem dX5_goesAsTold_76 : decode cX5_goesAsTold 76 = .ok (.goto (-38), 3) := by decide +kernel
theorem dX5_goesAsTold_79 : decode cX5_goesAsTold 79 = .ok (.iconst 1, 1) := by decide +kernel
theorem dX5_goesAsTold_80 : decode cX5_goesAsTold 80 = .ok (.ireturn, 1) := by decide +kernel
theorem dX5_isWithin_0 : decode cX5_isWithin 0 = .ok (.iload_n 0, 1) := by decide +kernel
theorem dX5_isWithin_1 : decode cX5_isWithin 1 = .ok (.iload_n 1, 1) := by decide +kernel
theorem dX5_isWithin_2 : decode cX5_isWithin 2 = .ok (.if_icmp .lt 12, 3) := by decide +kernel
theorem dX5_isWithin_5 : decode cX5_isWithin 5 = .ok (.iload_n 0, 1) := by decide +kernel
theorem dX5_isWithin_6 : decode cX5_isWithin 6 = .ok (.iload_n 2, 1) := by decide +kernel
theorem dX5_isWithin_7 : decode cX5_isWithin 7 = .ok (.if_icmp .gt 7, 3) := by decide +kernel
theorem dX5_isWithin_10 : decode cX5_isWithin 10 = .ok (.iconst 1, 1) := by decide +kernel
theorem dX5_isWithin_11 : decode cX5_isWithin 11 = .ok (.goto 4, 3) := by decide +kernel
theorem dX5_isWithin_14 : decode cX5_isWithin 14 = .ok (.iconst 0, 1) := by decide +kernel
theorem dX5_isWithin_15 : decode cX5_isWithin 15 = .ok (.ireturn, 1) := by decide +kernel
theorem dX5_isMast_0 : decode cX5_isMast 0 = .ok (.iload_n 0, 1) := by decide +kernel
theorem dX5_isMast_1 : decode cX5_isMast 1 = .ok (.iconst 0, 1) := by decide +kernel
theorem dX5_isMast_2 : decode cX5_isMast 2 = .ok (.iconst 3, 1) := by decide +kernel
theorem dX5_isMast_3 : decode cX5_isMast 3 = .ok (.invokestatic 53, 3) := by decide +kernel
theorem dX5_isMast_6 : decode cX5_isMast 6 = .ok (.ireturn, 1) := by decide +kernel
theorem dX5_isKind_0 : decode cX5_isKind 0 = .ok (.iload_n 0, 1) := by decide +kernel
theorem dX5_isKind_1 : decode cX5_isKind 1 = .ok (.iconst 0, 1) := by decide +kernel
theorem dX5_isKind_2 : decode cX5_isKind 2 = .ok (.iconst 5, 1) := by decide +kernel
theorem dX5_isKind_3 : decode cX5_isKind 3 = .ok (.invokestatic 53, 3) := by decide +kernel
theorem dX5_isKind_6 : decode cX5_isKind 6 = .ok (.ireturn, 1) := by decide +kernel
theorem dX5_isSheet_0 : decode cX5_isSheet 0 = .ok (.iload_n 0, 1) := by decide +kernel
theorem dX5_isSheet_1 : decode cX5_isSheet 1 = .ok (.iconst 0, 1) := by decide +kernel
theorem dX5_isSheet_2 : decode cX5_isSheet 2 = .ok (.iconst 3, 1) := by decide +kernel
theorem dX5_isSheet_3 : decode cX5_isSheet 3 = .ok (.invokestatic 53, 3) := by decide +kernel
theorem dX5_isSheet_6 : decode cX5_isSheet 6 = .ok (.ireturn, 1) := by decide +kernel
theorem dX5_isSheetBits_0 : decode cX5_isSheetBits 0 = .ok (.iload_n 0, 1) := by decide +kernel
theorem dX5_isSheetBits_1 : decode cX5_isSheetBits 1 = .ok (.ifCond .eq 21, 3) := by decide +kernel
theorem dX5_isSheetBits_4 : decode cX5_isSheetBits 4 = .ok (.iload_n 0, 1) := by decide +kernel
theorem dX5_isSheetBits_5 : decode cX5_isSheetBits 5 = .ok (.bipush 8, 2) := by decide +kernel
theorem dX5_isSheetBits_7 : decode cX5_isSheetBits 7 = .ok (.if_icmp .eq 15, 3) := by decide +kernel
theorem dX5_isSheetBits_10 : decode cX5_isSheetBits 10 = .ok (.iload_n 0, 1) := by decide +kernel
theorem dX5_isSheetBits_11 : decode cX5_isSheetBits 11 = .ok (.bipush 16, 2) := by decide +kernel
theorem dX5_isSheetBits_13 : decode cX5_isSheetBits 13 = .ok (.if_icmp .eq 9, 3) := by decide +kernel
theorem dX5_isSheetBits_16 : decode cX5_isSheetBits 16 = .ok (.iload_n 0, 1) := by decide +kernel
theorem dX5_isSheetBits_17 : decode cX5_isSheetBits 17 = .ok (.bipush 64, 2) := by decide +kernel
theorem dX5_isSheetBits_19 : decode cX5_isSheetBits 19 = .ok (.if_icmp .ne 7, 3) := by decide +kernel
theorem dX5_isSheetBits_22 : decode cX5_isSheetBits 22 = .ok (.iconst 1, 1) := by decide +kernel
theorem dX5_isSheetBits_23 : decode cX5_isSheetBits 23 = .ok (.goto 4, 3) := by decide +kernel
theorem dX5_isSheetBits_26 : decode cX5_isSheetBits 26 = .ok (.iconst 0, 1) := by decide +kernel
theorem dX5_isSheetBits_27 : decode cX5_isSheetBits 27 = .ok (.ireturn, 1) := by decide +kernel
