theorem dX0_init_0 : decode cX0_init 0 = .ok (.aload_n 0, 1) := by decide +kernel
theorem dX0_init_1 : decode cX0_init 1 = .ok (.invokespecial 3, 3) := by decide +kernel
theorem dX0_init_4 : decode cX0_init 4 = .ok (.aload_n 0, 1) := by decide +kernel
theorem dX0_init_5 : decode cX0_init 5 = .ok (.iconst 0, 1) := by decide +kernel
theorem dX0_init_6 : decode cX0_init 6 = .ok (.putfield 9, 3) := by decide +kernel
theorem dX0_init_9 : decode cX0_init 9 = .ok (.aload_n 0, 1) := by decide +kernel
theorem dX0_init_10 : decode cX0_init 10 = .ok (.iconst 0, 1) := by decide +kernel
theorem dX0_init_11 : decode cX0_init 11 = .ok (.putfield 15, 3) := by decide +kernel
theorem dX0_init_14 : decode cX0_init 14 = .ok (.aload_n 0, 1) := by decide +kernel
theorem dX0_init_15 : decode cX0_init 15 = .ok (.bipush 50, 2) := by decide +kernel
theorem dX0_init_17 : decode cX0_init 17 = .ok (.putfield 18, 3) := by decide +kernel
theorem dX0_init_20 : decode cX0_init 20 = .ok (.aload_n 0, 1) := by decide +kernel
theorem dX0_init_21 : decode cX0_init 21 = .ok (.iconst 0, 1) := by decide +kernel
theorem dX0_init_22 : decode cX0_init 22 = .ok (.putfield 21, 3) := by decide +kernel
theorem dX0_init_25 : decode cX0_init 25 = .ok (.aload_n 0, 1) := by decide +kernel
theorem dX0_init_26 : decode cX0_init 26 = .ok (.iconst 1, 1) := by decide +kernel
theorem dX0_init_27 : decode cX0_init 27 = .ok (.putfield 24, 3) := by decide +kernel
theorem dX0_init_30 : decode cX0_init 30 = .ok (.return_, 1) := by decide +kernel
theorem dX0_begin_0 : decode cX0_begin 0 = .ok (.aload_n 0, 1) := by decide +kernel
theorem dX0_begin_1 : decode cX0_begin 1 = .ok (.iload_n 1, 1) := by decide +kernel
theorem dX0_begin_2 : decode cX0_begin 2 = .ok (.putfield 9, 3) := by decide +kernel
theorem dX0_begin_5 : decode cX0_begin 5 = .ok (.aload_n 0, 1) := by decide +kernel
theorem dX0_begin_6 : decode cX0_begin 6 = .ok (.iload_n 2, 1) := by decide +kernel
theorem dX0_begin_7 : decode cX0_begin 7 = .ok (.putfield 15, 3) := by decide +kernel
theorem dX0_begin_10 : decode cX0_begin 10 = .ok (.aload_n 0, 1) := by decide +kernel
theorem dX0_begin_11 : decode cX0_begin 11 = .ok (.bipush 50, 2) := by decide +kernel
theorem dX0_begin_13 : decode cX0_begin 13 = .ok (.putfield 18, 3) := by decide +kernel
theorem dX0_begin_16 : decode cX0_begin 16 = .ok (.aload_n 0, 1) := by decide +kernel
theorem dX0_begin_17 : decode cX0_begin 17 = .ok (.iconst 0, 1) := by decide +kernel
theorem dX0_begin_18 : decode cX0_begin 18 = .ok (.putfield 21, 3) := by decide +kernel
theorem dX0_begin_21 : decode cX0_begin 21 = .ok (.aload_n 0, 1) := by decide +kernel
theorem dX0_begin_22 : decode cX0_begin 22 = .ok (.iconst 1, 1) := by decide +kernel
theorem dX0_begin_23 : decode cX0_begin 23 = .ok (.putfield 24, 3) := by decide +kernel
theorem dX0_begin_26 : decode cX0_begin 26 = .ok (.return_, 1) := by decide +kernel
theorem dX0_beLike_0 : decode cX0_beLike 0 = .ok (.aload_n 0, 1) := by decide +kernel
theorem dX0_beLike_1 : decode cX0_beLike 1 = .ok (.aload_n 1, 1) := by decide +kernel
theorem dX0_beLike_2 : decode cX0_beLike 2 = .ok (.getfield 9, 3) := by decide +kernel
theorem dX0_beLike_5 : decode cX0_beLike 5 = .ok (.putfield 9, 3) := by decide +kernel
theorem dX0_beLike_8 : decode cX0_beLike 8 = .ok (.aload_n 0, 1) := by decide +kernel
theorem dX0_beLike_9 : decode cX0_beLike 9 = .ok (.aload_n 1, 1) := by decide +kernel
theorem dX0_beLike_10 : decode cX0_beLike 10 = .ok (.getfield 15, 3) := by decide +kernel
theorem dX0_beLike_13 : decode cX0_beLike 13 = .ok (.putfield 15, 3) := by decide +kernel
theorem dX0_beLike_16 : decode cX0_beLike 16 = .ok (.aload_n 0, 1) := by decide +kernel
theorem dX0_beLike_17 : decode cX0_beLike 17 = .ok (.aload_n 1, 1) := by decide +kernel
theorem dX0_beLike_18 : decode cX0_beLike 18 = .ok (.getfield 18, 3) := by decide +kernel
theorem dX0_beLike_21 : decode cX0_beLike 21 = .ok (.putfield 18, 3) := by decide +kernel
theorem dX0_beLike_24 : decode cX0_beLike 24 = .ok (.aload_n 0, 1) := by decide +kernel
theorem dX0_beLike_25 : decode cX0_beLike 25 = .ok (.aload_n 1, 1) := by decide +kernel
theorem dX0_beLike_26 : decode cX0_beLike 26 = .ok (.getfield 21, 3) := by decide +kernel
theorem dX0_beLike_29 : decode cX0_beLike 29 = .ok (.putfield 21, 3) := by decide +kernel
theorem dX0_beLike_32 : decode cX0_beLike 32 = .ok (.aload_n 0, 1) := by decide +kernel
theorem dX0_beLike_33 : decode cX0_beLike 33 = .ok (.aload_n 1, 1) := by decide +kernel
theorem dX0_beLike_34 : decode cX0_beLike 34 = .ok (.getfield 24, 3) := by decide +kernel
theorem dX0_beLike_37 : decode cX0_beLike 37 = .ok (.putfield 24, 3) := by decide +kernel
theorem dX0_beLike_40 : decode cX0_beLike 40 = .ok (.return_, 1) := by decide +kernel
theorem dX0_isOf_0 : decode cX0_isOf 0 = .ok (.iload_n 1, 1) := by decide +kernel
theorem dX0_isOf_1 : decode cX0_isOf 1 = .ok (.aload_n 0, 1) := by decide +kernel
theorem dX0_isOf_2 : decode cX0_isOf 2 = .ok (.getfield 9, 3) := by decide +kernel
theorem dX0_isOf_5 : decode cX0_isOf 5 = .ok (.if_icmp .eq 33, 3) := by decide +kernel
theorem dX0_isOf_8 : decode cX0_isOf 8 = .ok (.iload_n 1, 1) := by decide +kernel
theorem dX0_isOf_9 : decode cX0_isOf 9 = .ok (.ifCond .eq 29, 3) := by decide +kernel
theorem dX0_isOf_12 : decode cX0_isOf 12 = .ok (.iload_n 1, 1) := by decide +kernel
theorem dX0_isOf_13 : decode cX0_isOf 13 = .ok (.iconst 1, 1) := by decide +kernel
theorem dX0_isOf_14 : decode cX0_isOf 14 = .ok (.if_icmp .ne 11, 3) := by decide +kernel
theorem dX0_isOf_17 : decode cX0_isOf 17 = .ok (.aload_n 0, 1) := by decide +kernel
theorem dX0_isOf_18 : decode cX0_isOf 18 = .ok (.getfield 9, 3) := by decide +kernel
theorem dX0_isOf_21 : decode cX0_isOf 21 = .ok (.iconst 4, 1) := by decide +kernel
theorem dX0_isOf_22 : decode cX0_isOf 22 = .ok (.if_icmp .eq 16, 3) := by decide +kernel
theorem dX0_isOf_25 : decode cX0_isOf 25 = .ok (.iload_n 1, 1) := by decide +kernel
theorem dX0_isOf_26 : decode cX0_isOf 26 = .ok (.iconst 2, 1) := by decide +kernel
theorem dX0_isOf_27 : decode cX0_isOf 27 = .ok (.if_icmp .ne 15, 3) := by decide +kernel
theorem dX0_isOf_30 : decode cX0_isOf 30 = .ok (.aload_n 0, 1) := by decide +kernel
theorem dX0_isOf_31 : decode cX0_isOf 31 = .ok (.getfield 9, 3) := by decide +kernel
theorem dX0_isOf_34 : decode cX0_isOf 34 = .ok (.iconst 5, 1) := by decide +kernel
theorem dX0_isOf_35 : decode cX0_isOf 35 = .ok (.if_icmp .ne 7, 3) := by decide +kernel
theorem dX0_isOf_38 : decode cX0_isOf 38 = .ok (.iconst 1, 1) := by decide +kernel
theorem dX0_isOf_39 : decode cX0_isOf 39 = .ok (.goto 4, 3) := by decide +kernel
theorem dX0_isOf_42 : decode cX0_isOf 42 = .ok (.iconst 0, 1) := by decide +kernel
theorem dX0_isOf_43 : decode cX0_isOf 43 = .ok (.ireturn, 1) := by decide +kernel
theorem dX0_holding_0 : decode cX0_holding 0 = .ok (.aload_n 0, 1) := by decide +kernel
theorem dX0_holding_1 : decode cX0_holding 1 = .ok (.getfield 24, 3) := by decide +kernel
theorem dX0_holding_4 : decode cX0_holding 4 = .ok (.ifCond .ne 5, 3) := by decide +kernel
theorem dX0_holding_7 : decode cX0_holding 7 = .ok (.iconst 0, 1) := by decide +kernel
theorem dX0_holding_8 : decode cX0_holding 8 = .ok (.ireturn, 1) := by decide +kernel
theorem dX0_holding_9 : decode cX0_holding 9 = .ok (.aload_n 0, 1) := by decide +kernel
theorem dX0_holding_10 : decode cX0_holding 10 = .ok (.getfield 9, 3) := by decide +kernel
theorem dX0_holding_13 : decode cX0_holding 13 = .ok (.tableswitch 85 1 5 #[35, 40, 53, 61, 71], 35) := by decide +kernel
theorem dX0_holding_48 : decode cX0_holding 48 = .ok (.aload_n 0, 1) := by decide +kernel
theorem dX0_holding_49 : decode cX0_holding 49 = .ok (.invokevirtual 28, 3) := by decide +kernel
theorem dX0_holding_52 : decode cX0_holding 52 = .ok (.ireturn, 1) := by decide +kernel
theorem dX0_holding_53 : decode cX0_holding 53 = .ok (.iconst 0, 1) := by decide +kernel
theorem dX0_holding_54 : decode cX0_holding 54 = .ok (.iconst 2, 1) := by decide +kernel
theorem dX0_holding_55 : decode cX0_holding 55 = .ok (.aload_n 0, 1) := by decide +kernel
theorem dX0_holding_56 : decode cX0_holding 56 = .ok (.getfield 18, 3) := by decide +kernel
theorem dX0_holding_59 : decode cX0_holding 59 = .ok (.imul, 1) := by decide +kernel
theorem dX0_holding_60 : decode cX0_holding 60 = .ok (.iload_n 1, 1) := by decide +kernel
theorem dX0_holding_61 : decode cX0_holding 61 = .ok (.isub, 1) := by decide +kernel
theorem dX0_holding_62 : decode cX0_holding 62 = .ok (.invokestatic 32, 3) := by decide +kernel
theorem dX0_holding_65 : decode cX0_holding 65 = .ok (.ireturn, 1) := by decide +kernel
theorem dX0_holding_66 : decode cX0_holding 66 = .ok (.bipush 99, 2) := by decide +kernel
theorem dX0_holding_68 : decode cX0_holding 68 = .ok (.aload_n 0, 1) := by decide +kernel
theorem dX0_holding_69 : decode cX0_holding 69 = .ok (.getfield 18, 3) := by decide +kernel
theorem dX0_holding_72 : decode cX0_holding 72 = .ok (.isub, 1) := by decide +kernel
theorem dX0_holding_73 : decode cX0_holding 73 = .ok (.ireturn, 1) := by decide +kernel
theorem dX0_holding_74 : decode cX0_holding 74 = .ok (.aload_n 0, 1) := by decide +kernel
theorem dX0_holding_75 : decode cX0_holding 75 = .ok (.invokevirtual 28, 3) := by decide +kernel
theorem dX0_holding_78 : decode cX0_holding 78 = .ok (.bipush 10, 2) := by decide +kernel
theorem dX0_holding_80 : decode cX0_holding 80 = .ok (.iload_n 2, 1) := by decide +kernel
theorem dX0_holding_81 : decode cX0_holding 81 = .ok (.imul, 1) := by decide +kernel
theorem dX0_holding_82 : decode cX0_holding 82 = .ok (.iadd, 1) := by decide +kernel
theorem dX0_holding_83 : decode cX0_holding 83 = .ok (.ireturn, 1) := by decide +kernel
theorem dX0_holding_84 : decode cX0_holding 84 = .ok (.bipush 60, 2) := by decide +kernel
theorem dX0_holding_86 : decode cX0_holding 86 = .ok (.iconst 2, 1) := by decide +kernel
theorem dX0_holding_87 : decode cX0_holding 87 = .ok (.aload_n 0, 1) := by decide +kernel
theorem dX0_holding_88 : decode cX0_holding 88 = .ok (.getfield 18, 3) := by decide +kernel
theorem dX0_holding_91 : decode cX0_holding 91 = .ok (.imul, 1) := by decide +kernel
theorem dX0_holding_92 : decode cX0_holding 92 = .ok (.iload_n 1, 1) := by decide +kernel
theorem dX0_holding_93 : decode cX0_holding 93 = .ok (.isub, 1) := by decide +kernel
theorem dX0_holding_94 : decode cX0_holding 94 = .ok (.invokestatic 32, 3) := by decide +kernel
theorem dX0_holding_97 : decode cX0_holding 97 = .ok (.ireturn, 1) := by decide +kernel
theorem dX0_holding_98 : decode cX0_holding 98 = .ok (.iconst 2, 1) := by decide +kernel
theorem dX0_holding_99 : decode cX0_holding 99 = .ok (.aload_n 0, 1) := by decide +kernel
theorem dX0_holding_100 : decode cX0_holding 100 = .ok (.getfield 18, 3) := by decide +kernel
theorem dX0_holding_103 : decode cX0_holding 103 = .ok (.imul, 1) := by decide +kernel
theorem dX0_holding_104 : decode cX0_holding 104 = .ok (.ireturn, 1) := by decide +kernel
theorem dX0_spliceHolding_0 : decode cX0_spliceHolding 0 = .ok (.aload_n 0, 1) := by decide +kernel
theorem dX0_spliceHolding_1 : decode cX0_spliceHolding 1 = .ok (.getfield 18, 3) := by decide +kernel
theorem dX0_spliceHolding_4 : decode cX0_spliceHolding 4 = .ok (.bipush 60, 2) := by decide +kernel
theorem dX0_spliceHolding_6 : decode cX0_spliceHolding 6 = .ok (.if_icmp .lt 12, 3) := by decide +kernel
theorem dX0_spliceHolding_9 : decode cX0_spliceHolding 9 = .ok (.iconst 3, 1) := by decide +kernel
theorem dX0_spliceHolding_10 : decode cX0_spliceHolding 10 = .ok (.aload_n 0, 1) := by decide +kernel
theorem dX0_spliceHolding_11 : decode cX0_spliceHolding 11 = .ok (.getfield 18, 3) := by decide +kernel
theorem dX0_spliceHolding_14 : decode cX0_spliceHolding 14 = .ok (.imul, 1) := by decide +kernel
theorem dX0_spliceHolding_15 : decode cX0_spliceHolding 15 = .ok (.goto 9, 3) := by decide +kernel
theorem dX0_spliceHolding_18 : decode cX0_spliceHolding 18 = .ok (.iconst 2, 1) := by decide +kernel
theorem dX0_spliceHolding_19 : decode cX0_spliceHolding 19 = .ok (.aload_n 0, 1) := by decide +kernel
theorem dX0_spliceHolding_20 : decode cX0_spliceHolding 20 = .ok (.getfield 18, 3) := by decide +kernel
theorem dX0_spliceHolding_23 : decode cX0_spliceHolding 23 = .ok (.imul, 1) := by decide +kernel
theorem dX0_spliceHolding_24 : decode cX0_spliceHolding 24 = .ok (.ireturn, 1) := by decide +kernel
theorem dX0_settling_0 : decode cX0_settling 0 = .ok (.aload_n 0, 1) := by decide +kernel
theorem dX0_settling_1 : decode cX0_settling 1 = .ok (.getfield 9, 3) := by decide +kernel
theorem dX0_settling_4 : decode cX0_settling 4 = .ok (.tableswitch 95 1 5 #[36, 51, 58, 60, 75], 36) := by decide +kernel
theorem dX0_settling_40 : decode cX0_settling 40 = .ok (.aload_n 0, 1) := by decide +kernel
theorem dX0_settling_41 : decode cX0_settling 41 = .ok (.getfield 18, 3) := by decide +kernel
theorem dX0_settling_44 : decode cX0_settling 44 = .ok (.bipush 60, 2) := by decide +kernel
theorem dX0_settling_46 : decode cX0_settling 46 = .ok (.if_icmp .lt 7, 3) := by decide +kernel
theorem dX0_settling_49 : decode cX0_settling 49 = .ok (.iconst 0, 1) := by decide +kernel
theorem dX0_settling_50 : decode cX0_settling 50 = .ok (.goto 4, 3) := by decide +kernel
theorem dX0_settling_53 : decode cX0_settling 53 = .ok (.iconst 2, 1) := by decide +kernel
theorem dX0_settling_54 : decode cX0_settling 54 = .ok (.ireturn, 1) := by decide +kernel
theorem dX0_settling_55 : decode cX0_settling 55 = .ok (.iconst 2, 1) := by decide +kernel
theorem dX0_settling_56 : decode cX0_settling 56 = .ok (.iload_n 1, 1) := by decide +kernel
theorem dX0_settling_57 : decode cX0_settling 57 = .ok (.bipush 10, 2) := by decide +kernel
theorem dX0_settling_59 : decode cX0_settling 59 = .ok (.idiv, 1) := by decide +kernel
theorem dX0_settling_60 : decode cX0_settling 60 = .ok (.iadd, 1) := by decide +kernel
theorem dX0_settling_61 : decode cX0_settling 61 = .ok (.ireturn, 1) := by decide +kernel
theorem dX0_settling_62 : decode cX0_settling 62 = .ok (.iconst (-1), 1) := by decide +kernel
theorem dX0_settling_63 : decode cX0_settling 63 = .ok (.ireturn, 1) := by decide +kernel
theorem dX0_settling_64 : decode cX0_settling 64 = .ok (.aload_n 0, 1) := by decide +kernel
theorem dX0_settling_65 : decode cX0_settling 65 = .ok (.getfield 18, 3) := by decide +kernel
theorem dX0_settling_68 : decode cX0_settling 68 = .ok (.bipush 60, 2) := by decide +kernel
theorem dX0_settling_70 : decode cX0_settling 70 = .ok (.if_icmp .lt 7, 3) := by decide +kernel
theorem dX0_settling_73 : decode cX0_settling 73 = .ok (.iconst 0, 1) := by decide +kernel
theorem dX0_settling_74 : decode cX0_settling 74 = .ok (.goto 4, 3) := by decide +kernel
theorem dX0_settling_77 : decode cX0_settling 77 = .ok (.iconst 1, 1) := by decide +kernel
theorem dX0_settling_78 : decode cX0_settling 78 = .ok (.ireturn, 1) := by decide +kernel
theorem dX0_settling_79 : decode cX0_settling 79 = .ok (.aload_n 0, 1) := by decide +kernel
theorem dX0_settling_80 : decode cX0_settling 80 = .ok (.getfield 21, 3) := by decide +kernel
theorem dX0_settling_83 : decode cX0_settling 83 = .ok (.bipush 6, 2) := by decide +kernel
theorem dX0_settling_85 : decode cX0_settling 85 = .ok (.if_icmp .ge 7, 3) := by decide +kernel
theorem dX0_settling_88 : decode cX0_settling 88 = .ok (.iconst 0, 1) := by decide +kernel
theorem dX0_settling_89 : decode cX0_settling 89 = .ok (.goto 9, 3) := by decide +kernel
theorem dX0_settling_92 : decode cX0_settling 92 = .ok (.iconst 2, 1) := by decide +kernel
theorem dX0_settling_93 : decode cX0_settling 93 = .ok (.iload_n 1, 1) := by decide +kernel
theorem dX0_settling_94 : decode cX0_settling 94 = .ok (.bipush 10, 2) := by decide +kernel
theorem dX0_settling_96 : decode cX0_settling 96 = .ok (.idiv, 1) := by decide +kernel
theorem dX0_settling_97 : decode cX0_settling 97 = .ok (.iadd, 1) := by decide +kernel
theorem dX0_settling_98 : decode cX0_settling 98 = .ok (.ireturn, 1) := by decide +kernel
theorem dX0_settling_99 : decode cX0_settling 99 = .ok (.iconst 2, 1) := by decide +kernel
theorem dX0_settling_100 : decode cX0_settling 100 = .ok (.ireturn, 1) := by decide +kernel
theorem dX0_teasing_0 : decode cX0_teasing 0 = .ok (.aload_n 0, 1) := by decide +kernel
theorem dX0_teasing_1 : decode cX0_teasing 1 = .ok (.getfield 9, 3) := by decide +kernel
theorem dX0_teasing_4 : decode cX0_teasing 4 = .ok (.tableswitch 61 1 5 #[36, 39, 42, 36, 45], 36) := by decide +kernel
theorem dX0_teasing_40 : decode cX0_teasing 40 = .ok (.bipush 30, 2) := by decide +kernel
theorem dX0_teasing_42 : decode cX0_teasing 42 = .ok (.ireturn, 1) := by decide +kernel
theorem dX0_teasing_43 : decode cX0_teasing 43 = .ok (.bipush 10, 2) := by decide +kernel
theorem dX0_teasing_45 : decode cX0_teasing 45 = .ok (.ireturn, 1) := by decide +kernel
theorem dX0_teasing_46 : decode cX0_teasing 46 = .ok (.bipush (-20), 2) := by decide +kernel
theorem dX0_teasing_48 : decode cX0_teasing 48 = .ok (.ireturn, 1) := by decide +kernel
theorem dX0_teasing_49 : decode cX0_teasing 49 = .ok (.aload_n 0, 1) := by decide +kernel
theorem dX0_teasing_50 : decode cX0_teasing 50 = .ok (.getfield 18, 3) := by decide +kernel
theorem dX0_teasing_53 : decode cX0_teasing 53 = .ok (.bipush 90, 2) := by decide +kernel
theorem dX0_teasing_55 : decode cX0_teasing 55 = .ok (.if_icmp .lt 7, 3) := by decide +kernel
theorem dX0_teasing_58 : decode cX0_teasing 58 = .ok (.iconst 0, 1) := by decide +kernel
theorem dX0_teasing_59 : decode cX0_teasing 59 = .ok (.goto 5, 3) := by decide +kernel
theorem dX0_teasing_62 : decode cX0_teasing 62 = .ok (.bipush 10, 2) := by decide +kernel
theorem dX0_teasing_64 : decode cX0_teasing 64 = .ok (.ireturn, 1) := by decide +kernel
theorem dX0_teasing_65 : decode cX0_teasing 65 = .ok (.bipush 15, 2) := by decide +kernel
theorem dX0_teasing_67 : decode cX0_teasing 67 = .ok (.ireturn, 1) := by decide +kernel
theorem dX0_givesWay_0 : decode cX0_givesWay 0 = .ok (.iload_n 1, 1) := by decide +kernel
theorem dX0_givesWay_1 : decode cX0_givesWay 1 = .ok (.iload_n 2, 1) := by decide +kernel
theorem dX0_givesWay_2 : decode cX0_givesWay 2 = .ok (.if_icmp .le 7, 3) := by decide +kernel
theorem dX0_givesWay_5 : decode cX0_givesWay 5 = .ok (.iconst 1, 1) := by decide +kernel
theorem dX0_givesWay_6 : decode cX0_givesWay 6 = .ok (.goto 4, 3) := by decide +kernel
theorem dX0_givesWay_9 : decode cX0_givesWay 9 = .ok (.iconst 0, 1) := by decide +kernel
theorem dX0_givesWay_10 : decode cX0_givesWay 10 = .ok (.istore_n 3, 1) := by decide +kernel
theorem dX0_givesWay_11 : decode cX0_givesWay 11 = .ok (.aload_n 0, 1) := by decide +kernel
theorem dX0_givesWay_12 : decode cX0_givesWay 12 = .ok (.getfield 9, 3) := by decide +kernel
theorem dX0_givesWay_15 : decode cX0_givesWay 15 = .ok (.tableswitch 89 1 5 #[33, 89, 52, 33, 71], 33) := by decide +kernel
theorem dX0_givesWay_48 : decode cX0_givesWay 48 = .ok (.iload_n 3, 1) := by decide +kernel
theorem dX0_givesWay_49 : decode cX0_givesWay 49 = .ok (.ifCond .eq 16, 3) := by decide +kernel
theorem dX0_givesWay_52 : decode cX0_givesWay 52 = .ok (.aload_n 0, 1) := by decide +kernel
theorem dX0_givesWay_53 : decode cX0_givesWay 53 = .ok (.getfield 18, 3) := by decide +kernel
theorem dX0_givesWay_56 : decode cX0_givesWay 56 = .ok (.bipush 90, 2) := by decide +kernel
theorem dX0_givesWay_58 : decode cX0_givesWay 58 = .ok (.if_icmp .ge 7, 3) := by decide +kernel
theorem dX0_givesWay_61 : decode cX0_givesWay 61 = .ok (.iconst 1, 1) := by decide +kernel
theorem dX0_givesWay_62 : decode cX0_givesWay 62 = .ok (.goto 4, 3) := by decide +kernel
theorem dX0_givesWay_65 : decode cX0_givesWay 65 = .ok (.iconst 0, 1) := by decide +kernel
theorem dX0_givesWay_66 : decode cX0_givesWay 66 = .ok (.ireturn, 1) := by decide +kernel
theorem dX0_givesWay_67 : decode cX0_givesWay 67 = .ok (.iload_n 3, 1) := by decide +kernel
theorem dX0_givesWay_68 : decode cX0_givesWay 68 = .ok (.ifCond .ne 12, 3) := by decide +kernel
theorem dX0_givesWay_71 : decode cX0_givesWay 71 = .ok (.aload_n 0, 1) := by decide +kernel
theorem dX0_givesWay_72 : decode cX0_givesWay 72 = .ok (.getfield 18, 3) := by decide +kernel
theorem dX0_givesWay_75 : decode cX0_givesWay 75 = .ok (.bipush 99, 2) := by decide +kernel
theorem dX0_givesWay_77 : decode cX0_givesWay 77 = .ok (.if_icmp .ne 7, 3) := by decide +kernel
theorem dX0_givesWay_80 : decode cX0_givesWay 80 = .ok (.iconst 1, 1) := by decide +kernel
theorem dX0_givesWay_81 : decode cX0_givesWay 81 = .ok (.goto 4, 3) := by decide +kernel
theorem dX0_givesWay_84 : decode cX0_givesWay 84 = .ok (.iconst 0, 1) := by decide +kernel
theorem dX0_givesWay_85 : decode cX0_givesWay 85 = .ok (.ireturn, 1) := by decide +kernel
theorem dX0_givesWay_86 : decode cX0_givesWay 86 = .ok (.iload_n 3, 1) := by decide +kernel
theorem dX0_givesWay_87 : decode cX0_givesWay 87 = .ok (.ifCond .eq 15, 3) := by decide +kernel
theorem dX0_givesWay_90 : decode cX0_givesWay 90 = .ok (.aload_n 0, 1) := by decide +kernel
theorem dX0_givesWay_91 : decode cX0_givesWay 91 = .ok (.getfield 21, 3) := by decide +kernel
theorem dX0_givesWay_94 : decode cX0_givesWay 94 = .ok (.iconst 3, 1) := by decide +kernel
theorem dX0_givesWay_95 : decode cX0_givesWay 95 = .ok (.if_icmp .lt 7, 3) := by decide +kernel
theorem dX0_givesWay_98 : decode cX0_givesWay 98 = .ok (.iconst 1, 1) := by decide +kernel
theorem dX0_givesWay_99 : decode cX0_givesWay 99 = .ok (.goto 4, 3) := by decide +kernel
theorem dX0_givesWay_102 : decode cX0_givesWay 102 = .ok (.iconst 0, 1) := by decide +kernel
theorem dX0_givesWay_103 : decode cX0_givesWay 103 = .ok (.ireturn, 1) := by decide +kernel
theorem dX0_givesWay_104 : decode cX0_givesWay 104 = .ok (.iload_n 3, 1) := by decide +kernel
theorem dX0_givesWay_105 : decode cX0_givesWay 105 = .ok (.ireturn, 1) := by decide +kernel
theorem dX0_beTeased_0 : decode cX0_beTeased 0 = .ok (.aload_n 0, 1) := by decide +kernel
theorem dX0_beTeased_1 : decode cX0_beTeased 1 = .ok (.aload_n 0, 1) := by decide +kernel
theorem dX0_beTeased_2 : decode cX0_beTeased 2 = .ok (.invokevirtual 38, 3) := by decide +kernel
theorem dX0_beTeased_5 : decode cX0_beTeased 5 = .ok (.invokevirtual 41, 3) := by decide +kernel
theorem dX0_beTeased_8 : decode cX0_beTeased 8 = .ok (.return_, 1) := by decide +kernel
theorem dX0_settle_0 : decode cX0_settle 0 = .ok (.aload_n 0, 1) := by decide +kernel
theorem dX0_settle_1 : decode cX0_settle 1 = .ok (.aload_n 0, 1) := by decide +kernel
theorem dX0_settle_2 : decode cX0_settle 2 = .ok (.iload_n 1, 1) := by decide +kernel
theorem dX0_settle_3 : decode cX0_settle 3 = .ok (.invokevirtual 45, 3) := by decide +kernel
theorem dX0_settle_6 : decode cX0_settle 6 = .ok (.ineg, 1) := by decide +kernel
theorem dX0_settle_7 : decode cX0_settle 7 = .ok (.invokevirtual 41, 3) := by decide +kernel
theorem dX0_settle_10 : decode cX0_settle 10 = .ok (.aload_n 0, 1) := by decide +kernel
theorem dX0_settle_11 : decode cX0_settle 11 = .ok (.sipush 9999, 3) := by decide +kernel
theorem dX0_settle_14 : decode cX0_settle 14 = .ok (.aload_n 0, 1) := by decide +kernel
theorem dX0_settle_15 : decode cX0_settle 15 = .ok (.getfield 21, 3) := by decide +kernel
theorem dX0_settle_18 : decode cX0_settle 18 = .ok (.iconst 1, 1) := by decide +kernel
theorem dX0_settle_19 : decode cX0_settle 19 = .ok (.iadd, 1) := by decide +kernel
theorem dX0_settle_20 : decode cX0_settle 20 = .ok (.invokestatic 49, 3) := by decide +kernel
theorem dX0_settle_23 : decode cX0_settle 23 = .ok (.putfield 21, 3) := by decide +kernel
theorem dX0_settle_26 : decode cX0_settle 26 = .ok (.return_, 1) := by decide +kernel
theorem dX0_openBy_0 : decode cX0_openBy 0 = .ok (.aload_n 0, 1) := by decide +kernel
theorem dX0_openBy_1 : decode cX0_openBy 1 = .ok (.iconst 0, 1) := by decide +kernel
theorem dX0_openBy_2 : decode cX0_openBy 2 = .ok (.bipush 99, 2) := by decide +kernel
theorem dX0_openBy_4 : decode cX0_openBy 4 = .ok (.aload_n 0, 1) := by decide +kernel
theorem dX0_openBy_5 : decode cX0_openBy 5 = .ok (.getfield 18, 3) := by decide +kernel
theorem dX0_openBy_8 : decode cX0_openBy 8 = .ok (.iload_n 1, 1) := by decide +kernel
theorem dX0_openBy_9 : decode cX0_openBy 9 = .ok (.iadd, 1) := by decide +kernel
theorem dX0_openBy_10 : decode cX0_openBy 10 = .ok (.invokestatic 49, 3) := by decide +kernel
theorem dX0_openBy_13 : decode cX0_openBy 13 = .ok (.invokestatic 32, 3) := by decide +kernel
theorem dX0_openBy_16 : decode cX0_openBy 16 = .ok (.putfield 18, 3) := by decide +kernel
theorem dX0_openBy_19 : decode cX0_openBy 19 = .ok (.return_, 1) := by decide +kernel
theorem dX1_init_0 : decode cX1_init 0 = .ok (.aload_n 0, 1) := by decide +kernel
theorem dX1_init_1 : decode cX1_init 1 = .ok (.invokespecial 3, 3) := by decide +kernel
theorem dX1_init_4 : decode cX1_init 4 = .ok (.aload_n 0, 1) := by decide +kernel
theorem dX1_init_5 : decode cX1_init 5 = .ok (.iconst 0, 1) := by decide +kernel
theorem dX1_init_6 : decode cX1_init 6 = .ok (.putfield 9, 3) := by decide +kernel
theorem dX1_init_9 : decode cX1_init 9 = .ok (.aload_n 0, 1) := by decide +kernel
theorem dX1_init_10 : decode cX1_init 10 = .ok (.iconst 0, 1) := by decide +kernel
theorem dX1_init_11 : decode cX1_init 11 = .ok (.putfield 15, 3) := by decide +kernel
theorem dX1_init_14 : decode cX1_init 14 = .ok (.aload_n 0, 1) := by decide +kernel
theorem dX1_init_15 : decode cX1_init 15 = .ok (.bipush 40, 2) := by decide +kernel
theorem dX1_init_17 : decode cX1_init 17 = .ok (.newarray .long, 2) := by decide +kernel
theorem dX1_init_19 : decode cX1_init 19 = .ok (.putfield 18, 3) := by decide +kernel
theorem dX1_init_22 : decode cX1_init 22 = .ok (.return_, 1) := by decide +kernel
theorem dX1_begin_0 : decode cX1_begin 0 = .ok (.aload_n 0, 1) := by decide +kernel
theorem dX1_begin_1 : decode cX1_begin 1 = .ok (.iload_n 1, 1) := by decide +kernel
theorem dX1_begin_2 : decode cX1_begin 2 = .ok (.putfield 9, 3) := by decide +kernel
theorem dX1_begin_5 : decode cX1_begin 5 = .ok (.aload_n 0, 1) := by decide +kernel
theorem dX1_begin_6 : decode cX1_begin 6 = .ok (.iload_n 2, 1) := by decide +kernel
theorem dX1_begin_7 : decode cX1_begin 7 = .ok (.putfield 15, 3) := by decide +kernel
theorem dX1_begin_10 : decode cX1_begin 10 = .ok (.iconst 0, 1) := by decide +kernel
theorem dX1_begin_11 : decode cX1_begin 11 = .ok (.istore_n 3, 1) := by decide +kernel
theorem dX1_begin_12 : decode cX1_begin 12 = .ok (.iload_n 3, 1) := by decide +kernel
theorem dX1_begin_13 : decode cX1_begin 13 = .ok (.bipush 40, 2) := by decide +kernel
theorem dX1_begin_15 : decode cX1_begin 15 = .ok (.if_icmp .ge 16, 3) := by decide +kernel
theorem dX1_begin_18 : decode cX1_begin 18 = .ok (.aload_n 0, 1) := by decide +kernel
theorem dX1_begin_19 : decode cX1_begin 19 = .ok (.getfield 18, 3) := by decide +kernel
theorem dX1_begin_22 : decode cX1_begin 22 = .ok (.iload_n 3, 1) := by decide +kernel
theorem dX1_begin_23 : decode cX1_begin 23 = .ok (.lconst 0, 1) := by decide +kernel
theorem dX1_begin_24 : decode cX1_begin 24 = .ok (.lastore, 1) := by decide +kernel
theorem dX1_begin_25 : decode cX1_begin 25 = .ok (.iinc 3 1, 3) := by decide +kernel
theorem dX1_begin_28 : decode cX1_begin 28 = .ok (.goto (-16), 3) := by decide +kernel
theorem dX1_begin_31 : decode cX1_begin 31 = .ok (.return_, 1) := by decide +kernel
theorem dX1_isMissing_0 : decode cX1_isMissing 0 = .ok (.aload_n 0, 1) := by decide +kernel
theorem dX1_isMissing_1 : decode cX1_isMissing 1 = .ok (.getfield 9, 3) := by decide +kernel
theorem dX1_isMissing_4 : decode cX1_isMissing 4 = .ok (.ifCond .ne 7, 3) := by decide +kernel
theorem dX1_isMissing_7 : decode cX1_isMissing 7 = .ok (.iconst 1, 1) := by decide +kernel
theorem dX1_isMissing_8 : decode cX1_isMissing 8 = .ok (.goto 4, 3) := by decide +kernel
theorem dX1_isMissing_11 : decode cX1_isMissing 11 = .ok (.iconst 0, 1) := by decide +kernel
theorem dX1_isMissing_12 : decode cX1_isMissing 12 = .ok (.ireturn, 1) := by decide +kernel
theorem dX1_has_0 : decode cX1_has 0 = .ok (.iload_n 1, 1) := by decide +kernel
theorem dX1_has_1 : decode cX1_has 1 = .ok (.ifCond .lt 29, 3) := by decide +kernel
theorem dX1_has_4 : decode cX1_has 4 = .ok (.iload_n 2, 1) := by decide +kernel
theorem dX1_has_5 : decode cX1_has 5 = .ok (.ifCond .lt 25, 3) := by decide +kernel
theorem dX1_has_8 : decode cX1_has 8 = .ok (.iload_n 1, 1) := by decide +kernel
theorem dX1_has_9 : decode cX1_has 9 = .ok (.aload_n 0, 1) := by decide +kernel
theorem dX1_has_10 : decode cX1_has 10 = .ok (.getfield 15, 3) := by decide +kernel
theorem dX1_has_13 : decode cX1_has 13 = .ok (.if_icmp .gt 17, 3) := by decide +kernel
theorem dX1_has_16 : decode cX1_has 16 = .ok (.iload_n 2, 1) := by decide +kernel
theorem dX1_has_17 : decode cX1_has 17 = .ok (.aload_n 0, 1) := by decide +kernel
theorem dX1_has_18 : decode cX1_has 18 = .ok (.getfield 15, 3) := by decide +kernel
theorem dX1_has_21 : decode cX1_has 21 = .ok (.iload_n 1, 1) := by decide +kernel
theorem dX1_has_22 : decode cX1_has 22 = .ok (.isub, 1) := by decide +kernel
theorem dX1_has_23 : decode cX1_has 23 = .ok (.if_icmp .gt 7, 3) := by decide +kernel
theorem dX1_has_26 : decode cX1_has 26 = .ok (.iconst 1, 1) := by decide +kernel
theorem dX1_has_27 : decode cX1_has 27 = .ok (.goto 4, 3) := by decide +kernel
theorem dX1_has_30 : decode cX1_has 30 = .ok (.iconst 0, 1) := by decide +kernel
theorem dX1_has_31 : decode cX1_has 31 = .ok (.ireturn, 1) := by decide +kernel
theorem dX1_mayBeginWith_0 : decode cX1_mayBeginWith 0 = .ok (.aload_n 0, 1) := by decide +kernel
theorem dX1_mayBeginWith_1 : decode cX1_mayBeginWith 1 = .ok (.getfield 15, 3) := by decide +kernel
theorem dX1_mayBeginWith_4 : decode cX1_mayBeginWith 4 = .ok (.ifCond .eq 15, 3) := by decide +kernel
theorem dX1_mayBeginWith_7 : decode cX1_mayBeginWith 7 = .ok (.aload_n 0, 1) := by decide +kernel
theorem dX1_mayBeginWith_8 : decode cX1_mayBeginWith 8 = .ok (.getfield 18, 3) := by decide +kernel
theorem dX1_mayBeginWith_11 : decode cX1_mayBeginWith 11 = .ok (.iconst 0, 1) := by decide +kernel
theorem dX1_mayBeginWith_12 : decode cX1_mayBeginWith 12 = .ok (.laload, 1) := by decide +kernel
theorem dX1_mayBeginWith_13 : decode cX1_mayBeginWith 13 = .ok (.iload_n 1, 1) := by decide +kernel
theorem dX1_mayBeginWith_14 : decode cX1_mayBeginWith 14 = .ok (.i2l, 1) := by decide +kernel
theorem dX1_mayBeginWith_15 : decode cX1_mayBeginWith 15 = .ok (.lcmp, 1) := by decide +kernel
theorem dX1_mayBeginWith_16 : decode cX1_mayBeginWith 16 = .ok (.ifCond .ne 7, 3) := by decide +kernel
theorem dX1_mayBeginWith_19 : decode cX1_mayBeginWith 19 = .ok (.iconst 1, 1) := by decide +kernel
theorem dX1_mayBeginWith_20 : decode cX1_mayBeginWith 20 = .ok (.goto 4, 3) := by decide +kernel
theorem dX1_mayBeginWith_23 : decode cX1_mayBeginWith 23 = .ok (.iconst 0, 1) := by decide +kernel
theorem dX1_mayBeginWith_24 : decode cX1_mayBeginWith 24 = .ok (.ireturn, 1) := by decide +kernel
theorem dX1_put_0 : decode cX1_put 0 = .ok (.aload_n 0, 1) := by decide +kernel
theorem dX1_put_1 : decode cX1_put 1 = .ok (.getfield 9, 3) := by decide +kernel
theorem dX1_put_4 : decode cX1_put 4 = .ok (.bipush 8, 2) := by decide +kernel
theorem dX1_put_6 : decode cX1_put 6 = .ok (.if_icmp .ne 16, 3) := by decide +kernel
theorem dX1_put_9 : decode cX1_put 9 = .ok (.aload_n 0, 1) := by decide +kernel
theorem dX1_put_10 : decode cX1_put 10 = .ok (.getfield 18, 3) := by decide +kernel
theorem dX1_put_13 : decode cX1_put 13 = .ok (.iload_n 1, 1) := by decide +kernel
theorem dX1_put_14 : decode cX1_put 14 = .ok (.lload_n 2, 1) := by decide +kernel
theorem dX1_put_15 : decode cX1_put 15 = .ok (.l2i, 1) := by decide +kernel
theorem dX1_put_16 : decode cX1_put 16 = .ok (.i2b, 1) := by decide +kernel
theorem dX1_put_17 : decode cX1_put 17 = .ok (.i2l, 1) := by decide +kernel
theorem dX1_put_18 : decode cX1_put 18 = .ok (.lastore, 1) := by decide +kernel
theorem dX1_put_19 : decode cX1_put 19 = .ok (.goto 32, 3) := by decide +kernel
theorem dX1_put_22 : decode cX1_put 22 = .ok (.aload_n 0, 1) := by decide +kernel
theorem dX1_put_23 : decode cX1_put 23 = .ok (.getfield 9, 3) := by decide +kernel
theorem dX1_put_26 : decode cX1_put 26 = .ok (.bipush 16, 2) := by decide +kernel
theorem dX1_put_28 : decode cX1_put 28 = .ok (.if_icmp .ne 16, 3) := by decide +kernel
theorem dX1_put_31 : decode cX1_put 31 = .ok (.aload_n 0, 1) := by decide +kernel
theorem dX1_put_32 : decode cX1_put 32 = .ok (.getfield 18, 3) := by decide +kernel
theorem dX1_put_35 : decode cX1_put 35 = .ok (.iload_n 1, 1) := by decide +kernel
theorem dX1_put_36 : decode cX1_put 36 = .ok (.lload_n 2, 1) := by decide +kernel
theorem dX1_put_37 : decode cX1_put 37 = .ok (.l2i, 1) := by decide +kernel
theorem dX1_put_38 : decode cX1_put 38 = .ok (.i2s, 1) := by decide +kernel
theorem dX1_put_39 : decode cX1_put 39 = .ok (.i2l, 1) := by decide +kernel
theorem dX1_put_40 : decode cX1_put 40 = .ok (.lastore, 1) := by decide +kernel
theorem dX1_put_41 : decode cX1_put 41 = .ok (.goto 10, 3) := by decide +kernel
theorem dX1_put_44 : decode cX1_put 44 = .ok (.aload_n 0, 1) := by decide +kernel
theorem dX1_put_45 : decode cX1_put 45 = .ok (.getfield 18, 3) := by decide +kernel
theorem dX1_put_48 : decode cX1_put 48 = .ok (.iload_n 1, 1) := by decide +kernel
theorem dX1_put_49 : decode cX1_put 49 = .ok (.lload_n 2, 1) := by decide +kernel
theorem dX1_put_50 : decode cX1_put 50 = .ok (.lastore, 1) := by decide +kernel
theorem dX1_put_51 : decode cX1_put 51 = .ok (.return_, 1) := by decide +kernel
theorem dX2_init_0 : decode cX2_init 0 = .ok (.aload_n 0, 1) := by decide +kernel
theorem dX2_init_1 : decode cX2_init 1 = .ok (.invokespecial 3, 3) := by decide +kernel
theorem dX2_init_4 : decode cX2_init 4 = .ok (.aload_n 0, 1) := by decide +kernel
theorem dX2_init_5 : decode cX2_init 5 = .ok (.bipush 120, 2) := by decide +kernel
theorem dX2_init_7 : decode cX2_init 7 = .ok (.newarray .int, 2) := by decide +kernel
theorem dX2_init_9 : decode cX2_init 9 = .ok (.putfield 9, 3) := by decide +kernel
theorem dX2_init_12 : decode cX2_init 12 = .ok (.aload_n 0, 1) := by decide +kernel
theorem dX2_init_13 : decode cX2_init 13 = .ok (.iconst 0, 1) := by decide +kernel
theorem dX2_init_14 : decode cX2_init 14 = .ok (.putfield 15, 3) := by decide +kernel
theorem dX2_init_17 : decode cX2_init 17 = .ok (.return_, 1) := by decide +kernel
theorem dX2_add_0 : decode cX2_add 0 = .ok (.aload_n 0, 1) := by decide +kernel
theorem dX2_add_1 : decode cX2_add 1 = .ok (.getfield 15, 3) := by decide +kernel
theorem dX2_add_4 : decode cX2_add 4 = .ok (.bipush 120, 2) := by decide +kernel
theorem dX2_add_6 : decode cX2_add 6 = .ok (.if_icmp .ge 23, 3) := by decide +kernel
theorem dX2_add_9 : decode cX2_add 9 = .ok (.aload_n 0, 1) := by decide +kernel
theorem dX2_add_10 : decode cX2_add 10 = .ok (.getfield 9, 3) := by decide +kernel
theorem dX2_add_13 : decode cX2_add 13 = .ok (.aload_n 0, 1) := by decide +kernel
theorem dX2_add_14 : decode cX2_add 14 = .ok (.getfield 15, 3) := by decide +kernel
theorem dX2_add_17 : decode cX2_add 17 = .ok (.iload_n 1, 1) := by decide +kernel
theorem dX2_add_18 : decode cX2_add 18 = .ok (.iastore, 1) := by decide +kernel
theorem dX2_add_19 : decode cX2_add 19 = .ok (.aload_n 0, 1) := by decide +kernel
theorem dX2_add_20 : decode cX2_add 20 = .ok (.dup, 1) := by decide +kernel
theorem dX2_add_21 : decode cX2_add 21 = .ok (.getfield 15, 3) := by decide +kernel
theorem dX2_add_24 : decode cX2_add 24 = .ok (.iconst 1, 1) := by decide +kernel
theorem dX2_add_25 : decode cX2_add 25 = .ok (.iadd, 1) := by decide +kernel
theorem dX2_add_26 : decode cX2_add 26 = .ok (.putfield 15, 3) := by decide +kernel
theorem dX2_add_29 : decode cX2_add 29 = .ok (.return_, 1) := by decide +kernel
theorem dX2_byteAt_0 : decode cX2_byteAt 0 = .ok (.iload_n 1, 1) := by decide +kernel
theorem dX2_byteAt_1 : decode cX2_byteAt 1 = .ok (.ifCond .lt 20, 3) := by decide +kernel
theorem dX2_byteAt_4 : decode cX2_byteAt 4 = .ok (.iload_n 1, 1) := by decide +kernel
theorem dX2_byteAt_5 : decode cX2_byteAt 5 = .ok (.aload_n 0, 1) := by decide +kernel
theorem dX2_byteAt_6 : decode cX2_byteAt 6 = .ok (.getfield 15, 3) := by decide +kernel
theorem dX2_byteAt_9 : decode cX2_byteAt 9 = .ok (.if_icmp .ge 12, 3) := by decide +kernel
theorem dX2_byteAt_12 : decode cX2_byteAt 12 = .ok (.aload_n 0, 1) := by decide +kernel
theorem dX2_byteAt_13 : decode cX2_byteAt 13 = .ok (.getfield 9, 3) := by decide +kernel
theorem dX2_byteAt_16 : decode cX2_byteAt 16 = .ok (.iload_n 1, 1) := by decide +kernel
theorem dX2_byteAt_17 : decode cX2_byteAt 17 = .ok (.iaload, 1) := by decide +kernel
theorem dX2_byteAt_18 : decode cX2_byteAt 18 = .ok (.goto 4, 3) := by decide +kernel
theorem dX2_byteAt_21 : decode cX2_byteAt 21 = .ok (.iconst (-1), 1) := by decide +kernel
theorem dX2_byteAt_22 : decode cX2_byteAt 22 = .ok (.ireturn, 1) := by decide +kernel
theorem dX3_init_0 : decode cX3_init 0 = .ok (.aload_n 0, 1) := by decide +kernel
theorem dX3_init_1 : decode cX3_init 1 = .ok (.invokespecial 3, 3) := by decide +kernel
theorem dX3_init_4 : decode cX3_init 4 = .ok (.aload_n 0, 1) := by decide +kernel
theorem dX3_init_5 : decode cX3_init 5 = .ok (.iconst 0, 1) := by decide +kernel
theorem dX3_init_6 : decode cX3_init 6 = .ok (.putfield 9, 3) := by decide +kernel
theorem dX3_init_9 : decode cX3_init 9 = .ok (.aload_n 0, 1) := by decide +kernel
theorem dX3_init_10 : decode cX3_init 10 = .ok (.iconst 0, 1) := by decide +kernel
theorem dX3_init_11 : decode cX3_init 11 = .ok (.putfield 15, 3) := by decide +kernel
theorem dX3_init_14 : decode cX3_init 14 = .ok (.aload_n 0, 1) := by decide +kernel
theorem dX3_init_15 : decode cX3_init 15 = .ok (.iconst 0, 1) := by decide +kernel
theorem dX3_init_16 : decode cX3_init 16 = .ok (.putfield 18, 3) := by decide +kernel
theorem dX3_init_19 : decode cX3_init 19 = .ok (.aload_n 0, 1) := by decide +kernel
theorem dX3_init_20 : decode cX3_init 20 = .ok (.iconst 0, 1) := by decide +kernel
theorem dX3_init_21 : decode cX3_init 21 = .ok (.putfield 21, 3) := by decide +kernel
theorem dX3_init_24 : decode cX3_init 24 = .ok (.aload_n 0, 1) := by decide +kernel
theorem dX3_init_25 : decode cX3_init 25 = .ok (.iconst 0, 1) := by decide +kernel
theorem dX3_init_26 : decode cX3_init 26 = .ok (.putfield 24, 3) := by decide +kernel
theorem dX3_init_29 : decode cX3_init 29 = .ok (.aload_n 0, 1) := by decide +kernel
theorem dX3_init_30 : decode cX3_init 30 = .ok (.aload_n 1, 1) := by decide +kernel
theorem dX3_init_31 : decode cX3_init 31 = .ok (.putfield 27, 3) := by decide +kernel
theorem dX3_init_34 : decode cX3_init 34 = .ok (.aload_n 0, 1) := by decide +kernel
theorem dX3_init_35 : decode cX3_init 35 = .ok (.aload_n 2, 1) := by decide +kernel
theorem dX3_init_36 : decode cX3_init 36 = .ok (.putfield 31, 3) := by decide +kernel
theorem dX3_init_39 : decode cX3_init 39 = .ok (.return_, 1) := by decide +kernel
theorem dX3_readText_0 : decode cX3_readText 0 = .ok (.aload_n 0, 1) := by decide +kernel
theorem dX3_readText_1 : decode cX3_readText 1 = .ok (.iconst 0, 1) := by decide +kernel
theorem dX3_readText_2 : decode cX3_readText 2 = .ok (.putfield 9, 3) := by decide +kernel
theorem dX3_readText_5 : decode cX3_readText 5 = .ok (.aload_n 0, 1) := by decide +kernel
theorem dX3_readText_6 : decode cX3_readText 6 = .ok (.invokevirtual 35, 3) := by decide +kernel
theorem dX3_readText_9 : decode cX3_readText 9 = .ok (.iconst 1, 1) := by decide +kernel
theorem dX3_readText_10 : decode cX3_readText 10 = .ok (.istore_n 1, 1) := by decide +kernel
theorem dX3_readText_11 : decode cX3_readText 11 = .ok (.iload_n 1, 1) := by decide +kernel
theorem dX3_readText_12 : decode cX3_readText 12 = .ok (.bipush 120, 2) := by decide +kernel
theorem dX3_readText_14 : decode cX3_readText 14 = .ok (.if_icmp .gt 43, 3) := by decide +kernel
theorem dX3_readText_17 : decode cX3_readText 17 = .ok (.aload_n 0, 1) := by decide +kernel
theorem dX3_readText_18 : decode cX3_readText 18 = .ok (.invokevirtual 38, 3) := by decide +kernel
theorem dX3_readText_21 : decode cX3_readText 21 = .ok (.ifCond .ne 6, 3) := by decide +kernel
theorem dX3_readText_24 : decode cX3_readText 24 = .ok (.goto 33, 3) := by decide +kernel
theorem dX3_readText_27 : decode cX3_readText 27 = .ok (.aload_n 0, 1) := by decide +kernel
theorem dX3_readText_28 : decode cX3_readText 28 = .ok (.getfield 15, 3) := by decide +kernel
theorem dX3_readText_31 : decode cX3_readText 31 = .ok (.ifCond .ne 5, 3) := by decide +kernel
theorem dX3_readText_34 : decode cX3_readText 34 = .ok (.iload_n 1, 1) := by decide +kernel
theorem dX3_readText_35 : decode cX3_readText 35 = .ok (.ireturn, 1) := by decide +kernel
theorem dX3_readText_36 : decode cX3_readText 36 = .ok (.aload_n 0, 1) := by decide +kernel
theorem dX3_readText_37 : decode cX3_readText 37 = .ok (.getfield 15, 3) := by decide +kernel
theorem dX3_readText_40 : decode cX3_readText 40 = .ok (.iconst 3, 1) := by decide +kernel
theorem dX3_readText_41 : decode cX3_readText 41 = .ok (.if_icmp .eq 6, 3) := by decide +kernel
theorem dX3_readText_44 : decode cX3_readText 44 = .ok (.goto 13, 3) := by decide +kernel
theorem dX3_readText_47 : decode cX3_readText 47 = .ok (.aload_n 0, 1) := by decide +kernel
theorem dX3_readText_48 : decode cX3_readText 48 = .ok (.invokevirtual 35, 3) := by decide +kernel
theorem dX3_readText_51 : decode cX3_readText 51 = .ok (.iinc 1 1, 3) := by decide +kernel
theorem dX3_readText_54 : decode cX3_readText 54 = .ok (.goto (-43), 3) := by decide +kernel
theorem dX3_readText_57 : decode cX3_readText 57 = .ok (.iconst (-1), 1) := by decide +kernel
theorem dX3_readText_58 : decode cX3_readText 58 = .ok (.aload_n 0, 1) := by decide +kernel
theorem dX3_readText_59 : decode cX3_readText 59 = .ok (.getfield 18, 3) := by decide +kernel
theorem dX3_readText_62 : decode cX3_readText 62 = .ok (.isub, 1) := by decide +kernel
theorem dX3_readText_63 : decode cX3_readText 63 = .ok (.ireturn, 1) := by decide +kernel
theorem dX3_readItem_0 : decode cX3_readItem 0 = .ok (.aload_n 0, 1) := by decide +kernel
theorem dX3_readItem_1 : decode cX3_readItem 1 = .ok (.ldc 42, 2) := by decide +kernel
theorem dX3_readItem_3 : decode cX3_readItem 3 = .ok (.invokevirtual 44, 3) := by decide +kernel
theorem dX3_readItem_6 : decode cX3_readItem 6 = .ok (.ifCond .eq 8, 3) := by decide +kernel
theorem dX3_readItem_9 : decode cX3_readItem 9 = .ok (.aload_n 0, 1) := by decide +kernel
theorem dX3_readItem_10 : decode cX3_readItem 10 = .ok (.invokevirtual 48, 3) := by decide +kernel
theorem dX3_readItem_13 : decode cX3_readItem 13 = .ok (.ireturn, 1) := by decide +kernel
theorem dX3_readItem_14 : decode cX3_readItem 14 = .ok (.aload_n 0, 1) := by decide +kernel
theorem dX3_readItem_15 : decode cX3_readItem 15 = .ok (.ldc 51, 2) := by decide +kernel
theorem dX3_readItem_17 : decode cX3_readItem 17 = .ok (.invokevirtual 44, 3) := by decide +kernel
theorem dX3_readItem_20 : decode cX3_readItem 20 = .ok (.ifCond .eq 8, 3) := by decide +kernel
theorem dX3_readItem_23 : decode cX3_readItem 23 = .ok (.aload_n 0, 1) := by decide +kernel
theorem dX3_readItem_24 : decode cX3_readItem 24 = .ok (.invokevirtual 53, 3) := by decide +kernel
theorem dX3_readItem_27 : decode cX3_readItem 27 = .ok (.ireturn, 1) := by decide +kernel
theorem dX3_readItem_28 : decode cX3_readItem 28 = .ok (.aload_n 0, 1) := by decide +kernel
theorem dX3_readItem_29 : decode cX3_readItem 29 = .ok (.ldc 56, 2) := by decide +kernel
theorem dX3_readItem_31 : decode cX3_readItem 31 = .ok (.invokevirtual 44, 3) := by decide +kernel
theorem dX3_readItem_34 : decode cX3_readItem 34 = .ok (.ifCond .eq 8, 3) := by decide +kernel
theorem dX3_readItem_37 : decode cX3_readItem 37 = .ok (.aload_n 0, 1) := by decide +kernel
theorem dX3_readItem_38 : decode cX3_readItem 38 = .ok (.invokevirtual 58, 3) := by decide +kernel
theorem dX3_readItem_41 : decode cX3_readItem 41 = .ok (.ireturn, 1) := by decide +kernel
theorem dX3_readItem_42 : decode cX3_readItem 42 = .ok (.aload_n 0, 1) := by decide +kernel
theorem dX3_readItem_43 : decode cX3_readItem 43 = .ok (.invokevirtual 61, 3) := by decide +kernel
theorem dX3_readItem_46 : decode cX3_readItem 46 = .ok (.ireturn, 1) := by decide +kernel
theorem dX3_readMast_0 : decode cX3_readMast 0 = .ok (.aload_n 0, 1) := by decide +kernel
theorem dX3_readMast_1 : decode cX3_readMast 1 = .ok (.iconst 3, 1) := by decide +kernel
theorem dX3_readMast_2 : decode cX3_readMast 2 = .ok (.invokevirtual 64, 3) := by decide +kernel
theorem dX3_readMast_5 : decode cX3_readMast 5 = .ok (.ifCond .ne 5, 3) := by decide +kernel
theorem dX3_readMast_8 : decode cX3_readMast 8 = .ok (.iconst 0, 1) := by decide +kernel
theorem dX3_readMast_9 : decode cX3_readMast 9 = .ok (.ireturn, 1) := by decide +kernel
theorem dX3_readMast_10 : decode cX3_readMast 10 = .ok (.aload_n 0, 1) := by decide +kernel
theorem dX3_readMast_11 : decode cX3_readMast 11 = .ok (.getfield 24, 3) := by decide +kernel
theorem dX3_readMast_14 : decode cX3_readMast 14 = .ok (.istore_n 1, 1) := by decide +kernel
theorem dX3_readMast_15 : decode cX3_readMast 15 = .ok (.aload_n 0, 1) := by decide +kernel
theorem dX3_readMast_16 : decode cX3_readMast 16 = .ok (.sipush 999, 3) := by decide +kernel
theorem dX3_readMast_19 : decode cX3_readMast 19 = .ok (.invokevirtual 64, 3) := by decide +kernel
theorem dX3_readMast_22 : decode cX3_readMast 22 = .ok (.ifCond .ne 5, 3) := by decide +kernel
theorem dX3_readMast_25 : decode cX3_readMast 25 = .ok (.iconst 0, 1) := by decide +kernel
theorem dX3_readMast_26 : decode cX3_readMast 26 = .ok (.ireturn, 1) := by decide +kernel
theorem dX3_readMast_27 : decode cX3_readMast 27 = .ok (.aload_n 0, 1) := by decide +kernel
theorem dX3_readMast_28 : decode cX3_readMast 28 = .ok (.getfield 31, 3) := by decide +kernel
theorem dX3_readMast_31 : decode cX3_readMast 31 = .ok (.getfield 68, 3) := by decide +kernel
theorem dX3_readMast_34 : decode cX3_readMast 34 = .ok (.iload_n 1, 1) := by decide +kernel
theorem dX3_readMast_35 : decode cX3_readMast 35 = .ok (.aload_n 0, 1) := by decide +kernel
theorem dX3_readMast_36 : decode cX3_readMast 36 = .ok (.getfield 24, 3) := by decide +kernel
theorem dX3_readMast_39 : decode cX3_readMast 39 = .ok (.iastore, 1) := by decide +kernel
theorem dX3_readMast_40 : decode cX3_readMast 40 = .ok (.aload_n 0, 1) := by decide +kernel
theorem dX3_readMast_41 : decode cX3_readMast 41 = .ok (.getfield 31, 3) := by decide +kernel
theorem dX3_readMast_44 : decode cX3_readMast 44 = .ok (.iload_n 1, 1) := by decide +kernel
theorem dX3_readMast_45 : decode cX3_readMast 45 = .ok (.aload_n 0, 1) := by decide +kernel
theorem dX3_readMast_46 : decode cX3_readMast 46 = .ok (.ldc 74, 2) := by decide +kernel
theorem dX3_readMast_48 : decode cX3_readMast 48 = .ok (.invokevirtual 44, 3) := by decide +kernel
theorem dX3_readMast_51 : decode cX3_readMast 51 = .ok (.ifCond .ne 7, 3) := by decide +kernel
theorem dX3_readMast_54 : decode cX3_readMast 54 = .ok (.iconst 1, 1) := by decide +kernel
theorem dX3_readMast_55 : decode cX3_readMast 55 = .ok (.goto 4, 3) := by decide +kernel
theorem dX3_readMast_58 : decode cX3_readMast 58 = .ok (.iconst 0, 1) := by decide +kernel
theorem dX3_readMast_59 : decode cX3_readMast 59 = .ok (.invokevirtual 76, 3) := by decide +kernel
theorem dX3_readMast_62 : decode cX3_readMast 62 = .ok (.iconst 1, 1) := by decide +kernel
theorem dX3_readMast_63 : decode cX3_readMast 63 = .ok (.ireturn, 1) := by decide +kernel
theorem dX3_readWind_0 : decode cX3_readWind 0 = .ok (.aload_n 0, 1) := by decide +kernel
theorem dX3_readWind_1 : decode cX3_readWind 1 = .ok (.bipush 11, 2) := by decide +kernel
theorem dX3_readWind_3 : decode cX3_readWind 3 = .ok (.invokevirtual 64, 3) := by decide +kernel
theorem dX3_readWind_6 : decode cX3_readWind 6 = .ok (.ifCond .ne 5, 3) := by decide +kernel
theorem dX3_readWind_9 : decode cX3_readWind 9 = .ok (.iconst 0, 1) := by decide +kernel
theorem dX3_readWind_10 : decode cX3_readWind 10 = .ok (.ireturn, 1) := by decide +kernel
theorem dX3_readWind_11 : decode cX3_readWind 11 = .ok (.aload_n 0, 1) := by decide +kernel
theorem dX3_readWind_12 : decode cX3_readWind 12 = .ok (.getfield 24, 3) := by decide +kernel
theorem dX3_readWind_15 : decode cX3_readWind 15 = .ok (.istore_n 1, 1) := by decide +kernel
theorem dX3_readWind_16 : decode cX3_readWind 16 = .ok (.aload_n 0, 1) := by decide +kernel
theorem dX3_readWind_17 : decode cX3_readWind 17 = .ok (.bipush 99, 2) := by decide +kernel
theorem dX3_readWind_19 : decode cX3_readWind 19 = .ok (.invokevirtual 64, 3) := by decide +kernel
theorem dX3_readWind_22 : decode cX3_readWind 22 = .ok (.ifCond .ne 5, 3) := by decide +kernel
theorem dX3_readWind_25 : decode cX3_readWind 25 = .ok (.iconst 0, 1) := by decide +kernel
theorem dX3_readWind_26 : decode cX3_readWind 26 = .ok (.ireturn, 1) := by decide +kernel
theorem dX3_readWind_27 : decode cX3_readWind 27 = .ok (.aload_n 0, 1) := by decide +kernel
theorem dX3_readWind_28 : decode cX3_readWind 28 = .ok (.getfield 31, 3) := by decide +kernel
theorem dX3_readWind_31 : decode cX3_readWind 31 = .ok (.getfield 80, 3) := by decide +kernel
theorem dX3_readWind_34 : decode cX3_readWind 34 = .ok (.iload_n 1, 1) := by decide +kernel
theorem dX3_readWind_35 : decode cX3_readWind 35 = .ok (.aload_n 0, 1) := by decide +kernel
theorem dX3_readWind_36 : decode cX3_readWind 36 = .ok (.getfield 24, 3) := by decide +kernel
theorem dX3_readWind_39 : decode cX3_readWind 39 = .ok (.iastore, 1) := by decide +kernel
theorem dX3_readWind_40 : decode cX3_readWind 40 = .ok (.iconst 1, 1) := by decide +kernel
theorem dX3_readWind_41 : decode cX3_readWind 41 = .ok (.ireturn, 1) := by decide +kernel
theorem dX3_readTease_0 : decode cX3_readTease 0 = .ok (.aload_n 0, 1) := by decide +kernel
theorem dX3_readTease_1 : decode cX3_readTease 1 = .ok (.aload_n 0, 1) := by decide +kernel
theorem dX3_readTease_2 : decode cX3_readTease 2 = .ok (.getfield 31, 3) := by decide +kernel
theorem dX3_readTease_5 : decode cX3_readTease 5 = .ok (.getfield 83, 3) := by decide +kernel
theorem dX3_readTease_8 : decode cX3_readTease 8 = .ok (.iconst 1, 1) := by decide +kernel
theorem dX3_readTease_9 : decode cX3_readTease 9 = .ok (.isub, 1) := by decide +kernel
theorem dX3_readTease_10 : decode cX3_readTease 10 = .ok (.invokevirtual 64, 3) := by decide +kernel
theorem dX3_readTease_13 : decode cX3_readTease 13 = .ok (.ifCond .ne 5, 3) := by decide +kernel
theorem dX3_readTease_16 : decode cX3_readTease 16 = .ok (.iconst 0, 1) := by decide +kernel
theorem dX3_readTease_17 : decode cX3_readTease 17 = .ok (.ireturn, 1) := by decide +kernel
theorem dX3_readTease_18 : decode cX3_readTease 18 = .ok (.aload_n 0, 1) := by decide +kernel
theorem dX3_readTease_19 : decode cX3_readTease 19 = .ok (.getfield 31, 3) := by decide +kernel
theorem dX3_readTease_22 : decode cX3_readTease 22 = .ok (.getfield 86, 3) := by decide +kernel
theorem dX3_readTease_25 : decode cX3_readTease 25 = .ok (.aload_n 0, 1) := by decide +kernel
theorem dX3_readTease_26 : decode cX3_readTease 26 = .ok (.getfield 24, 3) := by decide +kernel
theorem dX3_readTease_29 : decode cX3_readTease 29 = .ok (.aaload, 1) := by decide +kernel
theorem dX3_readTease_30 : decode cX3_readTease 30 = .ok (.invokevirtual 90, 3) := by decide +kernel
theorem dX3_readTease_33 : decode cX3_readTease 33 = .ok (.iconst 1, 1) := by decide +kernel
theorem dX3_readTease_34 : decode cX3_readTease 34 = .ok (.ireturn, 1) := by decide +kernel
theorem dX3_readKnot_0 : decode cX3_readKnot 0 = .ok (.aload_n 0, 1) := by decide +kernel
theorem dX3_readKnot_1 : decode cX3_readKnot 1 = .ok (.invokevirtual 95, 3) := by decide +kernel
theorem dX3_readKnot_4 : decode cX3_readKnot 4 = .ok (.istore_n 1, 1) := by decide +kernel
theorem dX3_readKnot_5 : decode cX3_readKnot 5 = .ok (.iload_n 1, 1) := by decide +kernel
theorem dX3_readKnot_6 : decode cX3_readKnot 6 = .ok (.ifCond .lt 13, 3) := by decide +kernel
theorem dX3_readKnot_9 : decode cX3_readKnot 9 = .ok (.aload_n 0, 1) := by decide +kernel
theorem dX3_readKnot_10 : decode cX3_readKnot 10 = .ok (.getfield 31, 3) := by decide +kernel
theorem dX3_readKnot_13 : decode cX3_readKnot 13 = .ok (.invokevirtual 99, 3) := by decide +kernel
theorem dX3_readKnot_16 : decode cX3_readKnot 16 = .ok (.ifCond .eq 5, 3) := by decide +kernel
theorem dX3_readKnot_19 : decode cX3_readKnot 19 = .ok (.iconst 0, 1) := by decide +kernel
theorem dX3_readKnot_20 : decode cX3_readKnot 20 = .ok (.ireturn, 1) := by decide +kernel
theorem dX3_readKnot_21 : decode cX3_readKnot 21 = .ok (.aload_n 0, 1) := by decide +kernel
theorem dX3_readKnot_22 : decode cX3_readKnot 22 = .ok (.invokevirtual 35, 3) := by decide +kernel
theorem dX3_readKnot_25 : decode cX3_readKnot 25 = .ok (.aload_n 0, 1) := by decide +kernel
theorem dX3_readKnot_26 : decode cX3_readKnot 26 = .ok (.iconst 3, 1) := by decide +kernel
theorem dX3_readKnot_27 : decode cX3_readKnot 27 = .ok (.invokevirtual 64, 3) := by decide +kernel
theorem dX3_readKnot_30 : decode cX3_readKnot 30 = .ok (.ifCond .ne 5, 3) := by decide +kernel
theorem dX3_readKnot_33 : decode cX3_readKnot 33 = .ok (.iconst 0, 1) := by decide +kernel
theorem dX3_readKnot_34 : decode cX3_readKnot 34 = .ok (.ireturn, 1) := by decide +kernel
theorem dX3_readKnot_35 : decode cX3_readKnot 35 = .ok (.aload_n 0, 1) := by decide +kernel
theorem dX3_readKnot_36 : decode cX3_readKnot 36 = .ok (.getfield 31, 3) := by decide +kernel
theorem dX3_readKnot_39 : decode cX3_readKnot 39 = .ok (.getfield 86, 3) := by decide +kernel
theorem dX3_readKnot_42 : decode cX3_readKnot 42 = .ok (.aload_n 0, 1) := by decide +kernel
theorem dX3_readKnot_43 : decode cX3_readKnot 43 = .ok (.getfield 31, 3) := by decide +kernel
theorem dX3_readKnot_46 : decode cX3_readKnot 46 = .ok (.iload_n 1, 1) := by decide +kernel
theorem dX3_readKnot_47 : decode cX3_readKnot 47 = .ok (.aload_n 0, 1) := by decide +kernel
theorem dX3_readKnot_48 : decode cX3_readKnot 48 = .ok (.getfield 24, 3) := by decide +kernel
theorem dX3_readKnot_51 : decode cX3_readKnot 51 = .ok (.invokevirtual 102, 3) := by decide +kernel
theorem dX3_readKnot_54 : decode cX3_readKnot 54 = .ok (.aaload, 1) := by decide +kernel
theorem dX3_readKnot_55 : decode cX3_readKnot 55 = .ok (.astore_n 2, 1) := by decide +kernel
theorem dX3_readKnot_56 : decode cX3_readKnot 56 = .ok (.aload_n 0, 1) := by decide +kernel
theorem dX3_readKnot_57 : decode cX3_readKnot 57 = .ok (.ldc 106, 2) := by decide +kernel
theorem dX3_readKnot_59 : decode cX3_readKnot 59 = .ok (.invokevirtual 44, 3) := by decide +kernel
theorem dX3_readKnot_62 : decode cX3_readKnot 62 = .ok (.ifCond .eq 22, 3) := by decide +kernel
theorem dX3_readKnot_65 : decode cX3_readKnot 65 = .ok (.aload_n 0, 1) := by decide +kernel
theorem dX3_readKnot_66 : decode cX3_readKnot 66 = .ok (.bipush 99, 2) := by decide +kernel
theorem dX3_readKnot_68 : decode cX3_readKnot 68 = .ok (.invokevirtual 64, 3) := by decide +kernel
theorem dX3_readKnot_71 : decode cX3_readKnot 71 = .ok (.ifCond .ne 5, 3) := by decide +kernel
theorem dX3_readKnot_74 : decode cX3_readKnot 74 = .ok (.iconst 0, 1) := by decide +kernel
theorem dX3_readKnot_75 : decode cX3_readKnot 75 = .ok (.ireturn, 1) := by decide +kernel
theorem dX3_readKnot_76 : decode cX3_readKnot 76 = .ok (.aload_n 2, 1) := by decide +kernel
theorem dX3_readKnot_77 : decode cX3_readKnot 77 = .ok (.aload_n 0, 1) := by decide +kernel
theorem dX3_readKnot_78 : decode cX3_readKnot 78 = .ok (.getfield 24, 3) := by decide +kernel
theorem dX3_readKnot_81 : decode cX3_readKnot 81 = .ok (.putfield 108, 3) := by decide +kernel
theorem dX3_readKnot_84 : decode cX3_readKnot 84 = .ok (.aload_n 2, 1) := by decide +kernel
theorem dX3_readKnot_85 : decode cX3_readKnot 85 = .ok (.aload_n 0, 1) := by decide +kernel
theorem dX3_readKnot_86 : decode cX3_readKnot 86 = .ok (.ldc 110, 2) := by decide +kernel
theorem dX3_readKnot_88 : decode cX3_readKnot 88 = .ok (.invokevirtual 44, 3) := by decide +kernel
theorem dX3_readKnot_91 : decode cX3_readKnot 91 = .ok (.ifCond .ne 7, 3) := by decide +kernel
theorem dX3_readKnot_94 : decode cX3_readKnot 94 = .ok (.iconst 1, 1) := by decide +kernel
theorem dX3_readKnot_95 : decode cX3_readKnot 95 = .ok (.goto 4, 3) := by decide +kernel
theorem dX3_readKnot_98 : decode cX3_readKnot 98 = .ok (.iconst 0, 1) := by decide +kernel
theorem dX3_readKnot_99 : decode cX3_readKnot 99 = .ok (.putfield 112, 3) := by decide +kernel
theorem dX3_readKnot_102 : decode cX3_readKnot 102 = .ok (.iconst 1, 1) := by decide +kernel
theorem dX3_readKnot_103 : decode cX3_readKnot 103 = .ok (.ireturn, 1) := by decide +kernel
theorem dX3_kindTold_0 : decode cX3_kindTold 0 = .ok (.iconst 0, 1) := by decide +kernel
theorem dX3_kindTold_1 : decode cX3_kindTold 1 = .ok (.istore_n 1, 1) := by decide +kernel
theorem dX3_kindTold_2 : decode cX3_kindTold 2 = .ok (.iload_n 1, 1) := by decide +kernel
theorem dX3_kindTold_3 : decode cX3_kindTold 3 = .ok (.bipush 6, 2) := by decide +kernel
theorem dX3_kindTold_5 : decode cX3_kindTold 5 = .ok (.if_icmp .ge 22, 3) := by decide +kernel
theorem dX3_kindTold_8 : decode cX3_kindTold 8 = .ok (.aload_n 0, 1) := by decide +kernel
theorem dX3_kindTold_9 : decode cX3_kindTold 9 = .ok (.iload_n 1, 1) := by decide +kernel
theorem dX3_kindTold_10 : decode cX3_kindTold 10 = .ok (.invokestatic 116, 3) := by decide +kernel
theorem dX3_kindTold_13 : decode cX3_kindTold 13 = .ok (.invokevirtual 120, 3) := by decide +kernel
theorem dX3_kindTold_16 : decode cX3_kindTold 16 = .ok (.ifCond .eq 5, 3) := by decide +kernel
theorem dX3_kindTold_19 : decode cX3_kindTold 19 = .ok (.iload_n 1, 1) := by decide +kernel
theorem dX3_kindTold_20 : decode cX3_kindTold 20 = .ok (.ireturn, 1) := by decide +kernel
theorem dX3_kindTold_21 : decode cX3_kindTold 21 = .ok (.iinc 1 1, 3) := by decide +kernel
theorem dX3_kindTold_24 : decode cX3_kindTold 24 = .ok (.goto (-22), 3) := by decide +kernel
theorem dX3_kindTold_27 : decode cX3_kindTold 27 = .ok (.iconst (-1), 1) := by decide +kernel
theorem dX3_kindTold_28 : decode cX3_kindTold 28 = .ok (.ireturn, 1) := by decide +kernel
theorem dX3_nameOf_0 : decode cX3_nameOf 0 = .ok (.iload_n 0, 1) := by decide +kernel
theorem dX3_nameOf_1 : decode cX3_nameOf 1 = .ok (.tableswitch 50 1 5 #[35, 38, 41, 44, 47], 35) := by decide +kernel
theorem dX3_nameOf_36 : decode cX3_nameOf 36 = .ok (.ldc 123, 2) := by decide +kernel
theorem dX3_nameOf_38 : decode cX3_nameOf 38 = .ok (.areturn, 1) := by decide +kernel
theorem dX3_nameOf_39 : decode cX3_nameOf 39 = .ok (.ldc 125, 2) := by decide +kernel
theorem dX3_nameOf_41 : decode cX3_nameOf 41 = .ok (.areturn, 1) := by decide +kernel
theorem dX3_nameOf_42 : decode cX3_nameOf 42 = .ok (.ldc 127, 2) := by decide +kernel
theorem dX3_nameOf_44 : decode cX3_nameOf 44 = .ok (.areturn, 1) := by decide +kernel
theorem dX3_nameOf_45 : decode cX3_nameOf 45 = .ok (.ldc 129, 2) := by decide +kernel
theorem dX3_nameOf_47 : decode cX3_nameOf 47 = .ok (.areturn, 1) := by decide +kernel
theorem dX3_nameOf_48 : decode cX3_nameOf 48 = .ok (.ldc 131, 2) := by decide +kernel
theorem dX3_nameOf_50 : decode cX3_nameOf 50 = .ok (.areturn, 1) := by decide +kernel
theorem dX3_nameOf_51 : decode cX3_nameOf 51 = .ok (.ldc 133, 2) := by decide +kernel
theorem dX3_nameOf_53 : decode cX3_nameOf 53 = .ok (.areturn, 1) := by decide +kernel
theorem dX3_takeWord_0 : decode cX3_takeWord 0 = .ok (.aload_n 0, 1) := by decide +kernel
theorem dX3_takeWord_1 : decode cX3_takeWord 1 = .ok (.aload_n 1, 1) := by decide +kernel
theorem dX3_takeWord_2 : decode cX3_takeWord 2 = .ok (.invokevirtual 120, 3) := by decide +kernel
theorem dX3_takeWord_5 : decode cX3_takeWord 5 = .ok (.ifCond .ne 5, 3) := by decide +kernel
theorem dX3_takeWord_8 : decode cX3_takeWord 8 = .ok (.iconst 0, 1) := by decide +kernel
theorem dX3_takeWord_9 : decode cX3_takeWord 9 = .ok (.ireturn, 1) := by decide +kernel
theorem dX3_takeWord_10 : decode cX3_takeWord 10 = .ok (.aload_n 0, 1) := by decide +kernel
theorem dX3_takeWord_11 : decode cX3_takeWord 11 = .ok (.invokevirtual 35, 3) := by decide +kernel
theorem dX3_takeWord_14 : decode cX3_takeWord 14 = .ok (.iconst 1, 1) := by decide +kernel
theorem dX3_takeWord_15 : decode cX3_takeWord 15 = .ok (.ireturn, 1) := by decide +kernel
theorem dX3_isWord_0 : decode cX3_isWord 0 = .ok (.aload_n 0, 1) := by decide +kernel
theorem dX3_isWord_1 : decode cX3_isWord 1 = .ok (.getfield 15, 3) := by decide +kernel
theorem dX3_isWord_4 : decode cX3_isWord 4 = .ok (.iconst 1, 1) := by decide +kernel
theorem dX3_isWord_5 : decode cX3_isWord 5 = .ok (.if_icmp .ne 19, 3) := by decide +kernel
theorem dX3_isWord_8 : decode cX3_isWord 8 = .ok (.aload_n 0, 1) := by decide +kernel
theorem dX3_isWord_9 : decode cX3_isWord 9 = .ok (.getfield 9, 3) := by decide +kernel
theorem dX3_isWord_12 : decode cX3_isWord 12 = .ok (.aload_n 0, 1) := by decide +kernel
theorem dX3_isWord_13 : decode cX3_isWord 13 = .ok (.getfield 18, 3) := by decide +kernel
theorem dX3_isWord_16 : decode cX3_isWord 16 = .ok (.isub, 1) := by decide +kernel
theorem dX3_isWord_17 : decode cX3_isWord 17 = .ok (.aload_n 1, 1) := by decide +kernel
theorem dX3_isWord_18 : decode cX3_isWord 18 = .ok (.invokevirtual 135, 3) := by decide +kernel
theorem dX3_isWord_21 : decode cX3_isWord 21 = .ok (.if_icmp .eq 5, 3) := by decide +kernel
theorem dX3_isWord_24 : decode cX3_isWord 24 = .ok (.iconst 0, 1) := by decide +kernel
theorem dX3_isWord_25 : decode cX3_isWord 25 = .ok (.ireturn, 1) := by decide +kernel
theorem dX3_isWord_26 : decode cX3_isWord 26 = .ok (.iconst 0, 1) := by decide +kernel
theorem dX3_isWord_27 : decode cX3_isWord 27 = .ok (.istore_n 2, 1) := by decide +kernel
theorem dX3_isWord_28 : decode cX3_isWord 28 = .ok (.iload_n 2, 1) := by decide +kernel
theorem dX3_isWord_29 : decode cX3_isWord 29 = .ok (.aload_n 1, 1) := by decide +kernel
theorem dX3_isWord_30 : decode cX3_isWord 30 = .ok (.invokevirtual 135, 3) := by decide +kernel
theorem dX3_isWord_33 : decode cX3_isWord 33 = .ok (.if_icmp .ge 32, 3) := by decide +kernel
theorem dX3_isWord_36 : decode cX3_isWord 36 = .ok (.aload_n 0, 1) := by decide +kernel
theorem dX3_isWord_37 : decode cX3_isWord 37 = .ok (.getfield 27, 3) := by decide +kernel
theorem dX3_isWord_40 : decode cX3_isWord 40 = .ok (.aload_n 0, 1) := by decide +kernel
theorem dX3_isWord_41 : decode cX3_isWord 41 = .ok (.getfield 18, 3) := by decide +kernel
theorem dX3_isWord_44 : decode cX3_isWord 44 = .ok (.iload_n 2, 1) := by decide +kernel
theorem dX3_isWord_45 : decode cX3_isWord 45 = .ok (.iadd, 1) := by decide +kernel
theorem dX3_isWord_46 : decode cX3_isWord 46 = .ok (.invokevirtual 140, 3) := by decide +kernel
theorem dX3_isWord_49 : decode cX3_isWord 49 = .ok (.aload_n 1, 1) := by decide +kernel
theorem dX3_isWord_50 : decode cX3_isWord 50 = .ok (.iload_n 2, 1) := by decide +kernel
theorem dX3_isWord_51 : decode cX3_isWord 51 = .ok (.invokevirtual 146, 3) := by decide +kernel
theorem dX3_isWord_54 : decode cX3_isWord 54 = .ok (.if_icmp .eq 5, 3) := by decide +kernel
theorem dX3_isWord_57 : decode cX3_isWord 57 = .ok (.iconst 0, 1) := by decide +kernel
theorem dX3_isWord_58 : decode cX3_isWord 58 = .ok (.ireturn, 1) := by decide +kernel
theorem dX3_isWord_59 : decode cX3_isWord 59 = .ok (.iinc 2 1, 3) := by decide +kernel
theorem dX3_isWord_62 : decode cX3_isWord 62 = .ok (.goto (-34), 3) := by decide +kernel
theorem dX3_isWord_65 : decode cX3_isWord 65 = .ok (.iconst 1, 1) := by decide +kernel
theorem dX3_isWord_66 : decode cX3_isWord 66 = .ok (.ireturn, 1) := by decide +kernel
theorem dX3_takeNumber_0 : decode cX3_takeNumber 0 = .ok (.aload_n 0, 1) := by decide +kernel
theorem dX3_takeNumber_1 : decode cX3_takeNumber 1 = .ok (.getfield 15, 3) := by decide +kernel
theorem dX3_takeNumber_4 : decode cX3_takeNumber 4 = .ok (.iconst 2, 1) := by decide +kernel
theorem dX3_takeNumber_5 : decode cX3_takeNumber 5 = .ok (.if_icmp .ne 11, 3) := by decide +kernel
theorem dX3_takeNumber_8 : decode cX3_takeNumber 8 = .ok (.aload_n 0, 1) := by decide +kernel
theorem dX3_takeNumber_9 : decode cX3_takeNumber 9 = .ok (.getfield 21, 3) := by decide +kernel
theorem dX3_takeNumber_12 : decode cX3_takeNumber 12 = .ok (.iload_n 1, 1) := by decide +kernel
theorem dX3_takeNumber_13 : decode cX3_takeNumber 13 = .ok (.if_icmp .le 5, 3) := by decide +kernel
theorem dX3_takeNumber_16 : decode cX3_takeNumber 16 = .ok (.iconst 0, 1) := by decide +kernel
theorem dX3_takeNumber_17 : decode cX3_takeNumber 17 = .ok (.ireturn, 1) := by decide +kernel
theorem dX3_takeNumber_18 : decode cX3_takeNumber 18 = .ok (.aload_n 0, 1) := by decide +kernel
theorem dX3_takeNumber_19 : decode cX3_takeNumber 19 = .ok (.aload_n 0, 1) := by decide +kernel
theorem dX3_takeNumber_20 : decode cX3_takeNumber 20 = .ok (.getfield 21, 3) := by decide +kernel
theorem dX3_takeNumber_23 : decode cX3_takeNumber 23 = .ok (.putfield 24, 3) := by decide +kernel
theorem dX3_takeNumber_26 : decode cX3_takeNumber 26 = .ok (.aload_n 0, 1) := by decide +kernel
theorem dX3_takeNumber_27 : decode cX3_takeNumber 27 = .ok (.invokevirtual 35, 3) := by decide +kernel
theorem dX3_takeNumber_30 : decode cX3_takeNumber 30 = .ok (.iconst 1, 1) := by decide +kernel
theorem dX3_takeNumber_31 : decode cX3_takeNumber 31 = .ok (.ireturn, 1) := by decide +kernel
theorem dX3_readToken_0 : decode cX3_readToken 0 = .ok (.aload_n 0, 1) := by decide +kernel
theorem dX3_readToken_1 : decode cX3_readToken 1 = .ok (.getfield 9, 3) := by decide +kernel
theorem dX3_readToken_4 : decode cX3_readToken 4 = .ok (.aload_n 0, 1) := by decide +kernel
theorem dX3_readToken_5 : decode cX3_readToken 5 = .ok (.getfield 27, 3) := by decide +kernel
theorem dX3_readToken_8 : decode cX3_readToken 8 = .ok (.getfield 150, 3) := by decide +kernel
theorem dX3_readToken_11 : decode cX3_readToken 11 = .ok (.if_icmp .ge 32, 3) := by decide +kernel
theorem dX3_readToken_14 : decode cX3_readToken 14 = .ok (.aload_n 0, 1) := by decide +kernel
theorem dX3_readToken_15 : decode cX3_readToken 15 = .ok (.getfield 27, 3) := by decide +kernel
theorem dX3_readToken_18 : decode cX3_readToken 18 = .ok (.aload_n 0, 1) := by decide +kernel
theorem dX3_readToken_19 : decode cX3_readToken 19 = .ok (.getfield 9, 3) := by decide +kernel
theorem dX3_readToken_22 : decode cX3_readToken 22 = .ok (.invokevirtual 140, 3) := by decide +kernel
theorem dX3_readToken_25 : decode cX3_readToken 25 = .ok (.bipush 32, 2) := by decide +kernel
theorem dX3_readToken_27 : decode cX3_readToken 27 = .ok (.if_icmp .ne 16, 3) := by decide +kernel
theorem dX3_readToken_30 : decode cX3_readToken 30 = .ok (.aload_n 0, 1) := by decide +kernel
theorem dX3_readToken_31 : decode cX3_readToken 31 = .ok (.dup, 1) := by decide +kernel
theorem dX3_readToken_32 : decode cX3_readToken 32 = .ok (.getfield 9, 3) := by decide +kernel
theorem dX3_readToken_35 : decode cX3_readToken 35 = .ok (.iconst 1, 1) := by decide +kernel
theorem dX3_readToken_36 : decode cX3_readToken 36 = .ok (.iadd, 1) := by decide +kernel
theorem dX3_readToken_37 : decode cX3_readToken 37 = .ok (.putfield 9, 3) := by decide +kernel
theorem dX3_readToken_40 : decode cX3_readToken 40 = .ok (.goto (-40), 3) := by decide +kernel
theorem dX3_readToken_43 : decode cX3_readToken 43 = .ok (.aload_n 0, 1) := by decide +kernel
theorem dX3_readToken_44 : decode cX3_readToken 44 = .ok (.aload_n 0, 1) := by decide +kernel
theorem dX3_readToken_45 : decode cX3_readToken 45 = .ok (.getfield 9, 3) := by decide +kernel
theorem dX3_readToken_48 : decode cX3_readToken 48 = .ok (.putfield 18, 3) := by decide +kernel
theorem dX3_readToken_51 : decode cX3_readToken 51 = .ok (.aload_n 0, 1) := by decide +kernel
theorem dX3_readToken_52 : decode cX3_readToken 52 = .ok (.getfield 27, 3) := by decide +kernel
theorem dX3_readToken_55 : decode cX3_readToken 55 = .ok (.aload_n 0, 1) := by decide +kernel
theorem dX3_readToken_56 : decode cX3_readToken 56 = .ok (.getfield 9, 3) := by decide +kernel
theorem dX3_readToken_59 : decode cX3_readToken 59 = .ok (.invokevirtual 140, 3) := by decide +kernel
theorem dX3_readToken_62 : decode cX3_readToken 62 = .ok (.istore_n 1, 1) := by decide +kernel
theorem dX3_readToken_63 : decode cX3_readToken 63 = .ok (.iload_n 1, 1) := by decide +kernel
theorem dX3_readToken_64 : decode cX3_readToken 64 = .ok (.invokestatic 152, 3) := by decide +kernel
theorem dX3_readToken_67 : decode cX3_readToken 67 = .ok (.ifCond .eq 52, 3) := by decide +kernel
theorem dX3_readToken_70 : decode cX3_readToken 70 = .ok (.aload_n 0, 1) := by decide +kernel
theorem dX3_readToken_71 : decode cX3_readToken 71 = .ok (.iconst 1, 1) := by decide +kernel
theorem dX3_readToken_72 : decode cX3_readToken 72 = .ok (.putfield 15, 3) := by decide +kernel
theorem dX3_readToken_75 : decode cX3_readToken 75 = .ok (.aload_n 0, 1) := by decide +kernel
theorem dX3_readToken_76 : decode cX3_readToken 76 = .ok (.getfield 9, 3) := by decide +kernel
theorem dX3_readToken_79 : decode cX3_readToken 79 = .ok (.aload_n 0, 1) := by decide +kernel
theorem dX3_readToken_80 : decode cX3_readToken 80 = .ok (.getfield 27, 3) := by decide +kernel
theorem dX3_readToken_83 : decode cX3_readToken 83 = .ok (.getfield 150, 3) := by decide +kernel
theorem dX3_readToken_86 : decode cX3_readToken 86 = .ok (.if_icmp .ge 163, 3) := by decide +kernel
theorem dX3_readToken_89 : decode cX3_readToken 89 = .ok (.aload_n 0, 1) := by decide +kernel
theorem dX3_readToken_90 : decode cX3_readToken 90 = .ok (.getfield 27, 3) := by decide +kernel
theorem dX3_readToken_93 : decode cX3_readToken 93 = .ok (.aload_n 0, 1) := by decide +kernel
theorem dX3_readToken_94 : decode cX3_readToken 94 = .ok (.getfield 9, 3) := by decide +kernel
theorem dX3_readToken_97 : decode cX3_readToken 97 = .ok (.invokevirtual 140, 3) := by decide +kernel
theorem dX3_readToken_100 : decode cX3_readToken 100 = .ok (.invokestatic 152, 3) := by decide +kernel
theorem dX3_readToken_103 : decode cX3_readToken 103 = .ok (.ifCond .eq 146, 3) := by decide +kernel
theorem dX3_readToken_106 : decode cX3_readToken 106 = .ok (.aload_n 0, 1) := by decide +kernel
theorem dX3_readToken_107 : decode cX3_readToken 107 = .ok (.dup, 1) := by decide +kernel
theorem dX3_readToken_108 : decode cX3_readToken 108 = .ok (.getfield 9, 3) := by decide +kernel
theorem dX3_readToken_111 : decode cX3_readToken 111 = .ok (.iconst 1, 1) := by decide +kernel
theorem dX3_readToken_112 : decode cX3_readToken 112 = .ok (.iadd, 1) := by decide +kernel
theorem dX3_readToken_113 : decode cX3_readToken 113 = .ok (.putfield 9, 3) := by decide +kernel
theorem dX3_readToken_116 : decode cX3_readToken 116 = .ok (.goto (-41), 3) := by decide +kernel
theorem dX3_readToken_119 : decode cX3_readToken 119 = .ok (.iload_n 1, 1) := by decide +kernel
theorem dX3_readToken_120 : decode cX3_readToken 120 = .ok (.invokestatic 155, 3) := by decide +kernel
theorem dX3_readToken_123 : decode cX3_readToken 123 = .ok (.ifCond .eq 89, 3) := by decide +kernel
theorem dX3_readToken_126 : decode cX3_readToken 126 = .ok (.aload_n 0, 1) := by decide +kernel
theorem dX3_readToken_127 : decode cX3_readToken 127 = .ok (.iconst 2, 1) := by decide +kernel
theorem dX3_readToken_128 : decode cX3_readToken 128 = .ok (.putfield 15, 3) := by decide +kernel
theorem dX3_readToken_131 : decode cX3_readToken 131 = .ok (.aload_n 0, 1) := by decide +kernel
theorem dX3_readToken_132 : decode cX3_readToken 132 = .ok (.iconst 0, 1) := by decide +kernel
theorem dX3_readToken_133 : decode cX3_readToken 133 = .ok (.putfield 21, 3) := by decide +kernel
theorem dX3_readToken_136 : decode cX3_readToken 136 = .ok (.aload_n 0, 1) := by decide +kernel
theorem dX3_readToken_137 : decode cX3_readToken 137 = .ok (.getfield 9, 3) := by decide +kernel
theorem dX3_readToken_140 : decode cX3_readToken 140 = .ok (.aload_n 0, 1) := by decide +kernel
theorem dX3_readToken_141 : decode cX3_readToken 141 = .ok (.getfield 27, 3) := by decide +kernel
theorem dX3_readToken_144 : decode cX3_readToken 144 = .ok (.getfield 150, 3) := by decide +kernel
theorem dX3_readToken_147 : decode cX3_readToken 147 = .ok (.if_icmp .ge 102, 3) := by decide +kernel
theorem dX3_readToken_150 : decode cX3_readToken 150 = .ok (.aload_n 0, 1) := by decide +kernel
theorem dX3_readToken_151 : decode cX3_readToken 151 = .ok (.getfield 27, 3) := by decide +kernel
theorem dX3_readToken_154 : decode cX3_readToken 154 = .ok (.aload_n 0, 1) := by decide +kernel
theorem dX3_readToken_155 : decode cX3_readToken 155 = .ok (.getfield 9, 3) := by decide +kernel
theorem dX3_readToken_158 : decode cX3_readToken 158 = .ok (.invokevirtual 140, 3) := by decide +kernel
theorem dX3_readToken_161 : decode cX3_readToken 161 = .ok (.invokestatic 155, 3) := by decide +kernel
theorem dX3_readToken_164 : decode cX3_readToken 164 = .ok (.ifCond .eq 85, 3) := by decide +kernel
theorem dX3_readToken_167 : decode cX3_readToken 167 = .ok (.aload_n 0, 1) := by decide +kernel
theorem dX3_readToken_168 : decode cX3_readToken 168 = .ok (.sipush 1000, 3) := by decide +kernel
theorem dX3_readToken_171 : decode cX3_readToken 171 = .ok (.bipush 10, 2) := by decide +kernel
theorem dX3_readToken_173 : decode cX3_readToken 173 = .ok (.aload_n 0, 1) := by decide +kernel
theorem dX3_readToken_174 : decode cX3_readToken 174 = .ok (.getfield 21, 3) := by decide +kernel
theorem dX3_readToken_177 : decode cX3_readToken 177 = .ok (.imul, 1) := by decide +kernel
theorem dX3_readToken_178 : decode cX3_readToken 178 = .ok (.aload_n 0, 1) := by decide +kernel
theorem dX3_readToken_179 : decode cX3_readToken 179 = .ok (.getfield 27, 3) := by decide +kernel
theorem dX3_readToken_182 : decode cX3_readToken 182 = .ok (.aload_n 0, 1) := by decide +kernel
theorem dX3_readToken_183 : decode cX3_readToken 183 = .ok (.getfield 9, 3) := by decide +kernel
theorem dX3_readToken_186 : decode cX3_readToken 186 = .ok (.invokevirtual 140, 3) := by decide +kernel
theorem dX3_readToken_189 : decode cX3_readToken 189 = .ok (.iadd, 1) := by decide +kernel
theorem dX3_readToken_190 : decode cX3_readToken 190 = .ok (.bipush 48, 2) := by decide +kernel
theorem dX3_readToken_192 : decode cX3_readToken 192 = .ok (.isub, 1) := by decide +kernel
theorem dX3_readToken_193 : decode cX3_readToken 193 = .ok (.invokestatic 158, 3) := by decide +kernel
theorem dX3_readToken_196 : decode cX3_readToken 196 = .ok (.putfield 21, 3) := by decide +kernel
theorem dX3_readToken_199 : decode cX3_readToken 199 = .ok (.aload_n 0, 1) := by decide +kernel
theorem dX3_readToken_200 : decode cX3_readToken 200 = .ok (.dup, 1) := by decide +kernel
theorem dX3_readToken_201 : decode cX3_readToken 201 = .ok (.getfield 9, 3) := by decide +kernel
theorem dX3_readToken_204 : decode cX3_readToken 204 = .ok (.iconst 1, 1) := by decide +kernel
theorem dX3_readToken_205 : decode cX3_readToken 205 = .ok (.iadd, 1) := by decide +kernel
theorem dX3_readToken_206 : decode cX3_readToken 206 = .ok (.putfield 9, 3) := by decide +kernel
theorem dX3_readToken_209 : decode cX3_readToken 209 = .ok (.goto (-73), 3) := by decide +kernel
theorem dX3_readToken_212 : decode cX3_readToken 212 = .ok (.iload_n 1, 1) := by decide +kernel
theorem dX3_readToken_213 : decode cX3_readToken 213 = .ok (.ifCond .ge 11, 3) := by decide +kernel
theorem dX3_readToken_216 : decode cX3_readToken 216 = .ok (.aload_n 0, 1) := by decide +kernel
theorem dX3_readToken_217 : decode cX3_readToken 217 = .ok (.iconst 0, 1) := by decide +kernel
theorem dX3_readToken_218 : decode cX3_readToken 218 = .ok (.putfield 15, 3) := by decide +kernel
theorem dX3_readToken_221 : decode cX3_readToken 221 = .ok (.goto 28, 3) := by decide +kernel
theorem dX3_readToken_224 : decode cX3_readToken 224 = .ok (.aload_n 0, 1) := by decide +kernel
theorem dX3_readToken_225 : decode cX3_readToken 225 = .ok (.iload_n 1, 1) := by decide +kernel
theorem dX3_readToken_226 : decode cX3_readToken 226 = .ok (.bipush 59, 2) := by decide +kernel
theorem dX3_readToken_228 : decode cX3_readToken 228 = .ok (.if_icmp .ne 7, 3) := by decide +kernel
theorem dX3_readToken_231 : decode cX3_readToken 231 = .ok (.iconst 3, 1) := by decide +kernel
theorem dX3_readToken_232 : decode cX3_readToken 232 = .ok (.goto 4, 3) := by decide +kernel
theorem dX3_readToken_235 : decode cX3_readToken 235 = .ok (.iconst 4, 1) := by decide +kernel
theorem dX3_readToken_236 : decode cX3_readToken 236 = .ok (.putfield 15, 3) := by decide +kernel
theorem dX3_readToken_239 : decode cX3_readToken 239 = .ok (.aload_n 0, 1) := by decide +kernel
theorem dX3_readToken_240 : decode cX3_readToken 240 = .ok (.dup, 1) := by decide +kernel
theorem dX3_readToken_241 : decode cX3_readToken 241 = .ok (.getfield 9, 3) := by decide +kernel
theorem dX3_readToken_244 : decode cX3_readToken 244 = .ok (.iconst 1, 1) := by decide +kernel
theorem dX3_readToken_245 : decode cX3_readToken 245 = .ok (.iadd, 1) := by decide +kernel
theorem dX3_readToken_246 : decode cX3_readToken 246 = .ok (.putfield 9, 3) := by decide +kernel
theorem dX3_readToken_249 : decode cX3_readToken 249 = .ok (.return_, 1) := by decide +kernel
theorem dX3_isLetter_0 : decode cX3_isLetter 0 = .ok (.iload_n 0, 1) := by decide +kernel
theorem dX3_isLetter_1 : decode cX3_isLetter 1 = .ok (.bipush 97, 2) := by decide +kernel
theorem dX3_isLetter_3 : decode cX3_isLetter 3 = .ok (.if_icmp .lt 13, 3) := by decide +kernel
theorem dX3_isLetter_6 : decode cX3_isLetter 6 = .ok (.iload_n 0, 1) := by decide +kernel
theorem dX3_isLetter_7 : decode cX3_isLetter 7 = .ok (.bipush 122, 2) := by decide +kernel
theorem dX3_isLetter_9 : decode cX3_isLetter 9 = .ok (.if_icmp .gt 7, 3) := by decide +kernel
theorem dX3_isLetter_12 : decode cX3_isLetter 12 = .ok (.iconst 1, 1) := by decide +kernel
theorem dX3_isLetter_13 : decode cX3_isLetter 13 = .ok (.goto 4, 3) := by decide +kernel
theorem dX3_isLetter_16 : decode cX3_isLetter 16 = .ok (.iconst 0, 1) := by decide +kernel
theorem dX3_isLetter_17 : decode cX3_isLetter 17 = .ok (.ireturn, 1) := by decide +kernel
theorem dX3_isDigit_0 : decode cX3_isDigit 0 = .ok (.iload_n 0, 1) := by decide +kernel
theorem dX3_isDigit_1 : decode cX3_isDigit 1 = .ok (.bipush 48, 2) := by decide +kernel
theorem dX3_isDigit_3 : decode cX3_isDigit 3 = .ok (.if_icmp .lt 13, 3) := by decide +kernel
theorem dX3_isDigit_6 : decode cX3_isDigit 6 = .ok (.iload_n 0, 1) := by decide +kernel
theorem dX3_isDigit_7 : decode cX3_isDigit 7 = .ok (.bipush 57, 2) := by decide +kernel
theorem dX3_isDigit_9 : decode cX3_isDigit 9 = .ok (.if_icmp .gt 7, 3) := by decide +kernel
theorem dX3_isDigit_12 : decode cX3_isDigit 12 = .ok (.iconst 1, 1) := by decide +kernel
theorem dX3_isDigit_13 : decode cX3_isDigit 13 = .ok (.goto 4, 3) := by decide +kernel
theorem dX3_isDigit_16 : decode cX3_isDigit 16 = .ok (.iconst 0, 1) := by decide +kernel
theorem dX3_isDigit_17 : decode cX3_isDigit 17 = .ok (.ireturn, 1) := by decide +kernel
theorem dX4_init_0 : decode cX4_init 0 = .ok (.aload_n 0, 1) := by decide +kernel
theorem dX4_init_1 : decode cX4_init 1 = .ok (.invokespecial 3, 3) := by decide +kernel
theorem dX4_init_4 : decode cX4_init 4 = .ok (.aload_n 0, 1) := by decide +kernel
theorem dX4_init_5 : decode cX4_init 5 = .ok (.iconst 0, 1) := by decide +kernel
theorem dX4_init_6 : decode cX4_init 6 = .ok (.putfield 9, 3) := by decide +kernel
theorem dX4_init_9 : decode cX4_init 9 = .ok (.aload_n 0, 1) := by decide +kernel
theorem dX4_init_10 : decode cX4_init 10 = .ok (.iconst 0, 1) := by decide +kernel
theorem dX4_init_11 : decode cX4_init 11 = .ok (.putfield 15, 3) := by decide +kernel
theorem dX4_init_14 : decode cX4_init 14 = .ok (.aload_n 0, 1) := by decide +kernel
theorem dX4_init_15 : decode cX4_init 15 = .ok (.bipush 15, 2) := by decide +kernel
theorem dX4_init_17 : decode cX4_init 17 = .ok (.putfield 18, 3) := by decide +kernel
theorem dX4_init_20 : decode cX4_init 20 = .ok (.aload_n 0, 1) := by decide +kernel
theorem dX4_init_21 : decode cX4_init 21 = .ok (.bipush 12, 2) := by decide +kernel
theorem dX4_init_23 : decode cX4_init 23 = .ok (.newarray .int, 2) := by decide +kernel
theorem dX4_init_25 : decode cX4_init 25 = .ok (.putfield 21, 3) := by decide +kernel
theorem dX4_init_28 : decode cX4_init 28 = .ok (.aload_n 0, 1) := by decide +kernel
theorem dX4_init_29 : decode cX4_init 29 = .ok (.iconst 4, 1) := by decide +kernel
theorem dX4_init_30 : decode cX4_init 30 = .ok (.newarray .int, 2) := by decide +kernel
theorem dX4_init_32 : decode cX4_init 32 = .ok (.putfield 25, 3) := by decide +kernel
theorem dX4_init_35 : decode cX4_init 35 = .ok (.aload_n 0, 1) := by decide +kernel
theorem dX4_init_36 : decode cX4_init 36 = .ok (.bipush 10, 2) := by decide +kernel
theorem dX4_init_38 : decode cX4_init 38 = .ok (.anewarray 28, 3) := by decide +kernel
theorem dX4_init_41 : decode cX4_init 41 = .ok (.putfield 30, 3) := by decide +kernel
theorem dX4_init_44 : decode cX4_init 44 = .ok (.aload_n 0, 1) := by decide +kernel
theorem dX4_init_45 : decode cX4_init 45 = .ok (.iconst 4, 1) := by decide +kernel
theorem dX4_init_46 : decode cX4_init 46 = .ok (.newarray .int, 2) := by decide +kernel
theorem dX4_init_48 : decode cX4_init 48 = .ok (.putfield 34, 3) := by decide +kernel
theorem dX4_init_51 : decode cX4_init 51 = .ok (.iconst 0, 1) := by decide +kernel
theorem dX4_init_52 : decode cX4_init 52 = .ok (.istore_n 1, 1) := by decide +kernel
theorem dX4_init_53 : decode cX4_init 53 = .ok (.iload_n 1, 1) := by decide +kernel
theorem dX4_init_54 : decode cX4_init 54 = .ok (.bipush 12, 2) := by decide +kernel
theorem dX4_init_56 : decode cX4_init 56 = .ok (.if_icmp .ge 22, 3) := by decide +kernel
theorem dX4_init_59 : decode cX4_init 59 = .ok (.aload_n 0, 1) := by decide +kernel
theorem dX4_init_60 : decode cX4_init 60 = .ok (.getfield 21, 3) := by decide +kernel
theorem dX4_init_63 : decode cX4_init 63 = .ok (.iload_n 1, 1) := by decide +kernel
theorem dX4_init_64 : decode cX4_init 64 = .ok (.bipush 7, 2) := by decide +kernel
theorem dX4_init_66 : decode cX4_init 66 = .ok (.iload_n 1, 1) := by decide +kernel
theorem dX4_init_67 : decode cX4_init 67 = .ok (.imul, 1) := by decide +kernel
theorem dX4_init_68 : decode cX4_init 68 = .ok (.bipush 30, 2) := by decide +kernel
theorem dX4_init_70 : decode cX4_init 70 = .ok (.irem, 1) := by decide +kernel
theorem dX4_init_71 : decode cX4_init 71 = .ok (.iastore, 1) := by decide +kernel
theorem dX4_init_72 : decode cX4_init 72 = .ok (.iinc 1 1, 3) := by decide +kernel
theorem dX4_init_75 : decode cX4_init 75 = .ok (.goto (-22), 3) := by decide +kernel
theorem dX4_init_78 : decode cX4_init 78 = .ok (.iconst 0, 1) := by decide +kernel
theorem dX4_init_79 : decode cX4_init 79 = .ok (.istore_n 1, 1) := by decide +kernel
theorem dX4_init_80 : decode cX4_init 80 = .ok (.iload_n 1, 1) := by decide +kernel
theorem dX4_init_81 : decode cX4_init 81 = .ok (.iconst 4, 1) := by decide +kernel
theorem dX4_init_82 : decode cX4_init 82 = .ok (.if_icmp .ge 17, 3) := by decide +kernel
theorem dX4_init_85 : decode cX4_init 85 = .ok (.aload_n 0, 1) := by decide +kernel
theorem dX4_init_86 : decode cX4_init 86 = .ok (.getfield 25, 3) := by decide +kernel
theorem dX4_init_89 : decode cX4_init 89 = .ok (.iload_n 1, 1) := by decide +kernel
theorem dX4_init_90 : decode cX4_init 90 = .ok (.bipush 100, 2) := by decide +kernel
theorem dX4_init_92 : decode cX4_init 92 = .ok (.iastore, 1) := by decide +kernel
theorem dX4_init_93 : decode cX4_init 93 = .ok (.iinc 1 1, 3) := by decide +kernel
theorem dX4_init_96 : decode cX4_init 96 = .ok (.goto (-16), 3) := by decide +kernel
theorem dX4_init_99 : decode cX4_init 99 = .ok (.iconst 0, 1) := by decide +kernel
theorem dX4_init_100 : decode cX4_init 100 = .ok (.istore_n 1, 1) := by decide +kernel
theorem dX4_init_101 : decode cX4_init 101 = .ok (.iload_n 1, 1) := by decide +kernel
theorem dX4_init_102 : decode cX4_init 102 = .ok (.bipush 10, 2) := by decide +kernel
theorem dX4_init_104 : decode cX4_init 104 = .ok (.if_icmp .ge 22, 3) := by decide +kernel
theorem dX4_init_107 : decode cX4_init 107 = .ok (.aload_n 0, 1) := by decide +kernel
theorem dX4_init_108 : decode cX4_init 108 = .ok (.getfield 30, 3) := by decide +kernel
theorem dX4_init_111 : decode cX4_init 111 = .ok (.iload_n 1, 1) := by decide +kernel
theorem dX4_init_112 : decode cX4_init 112 = .ok (.new 28, 3) := by decide +kernel
theorem dX4_init_115 : decode cX4_init 115 = .ok (.dup, 1) := by decide +kernel
theorem dX4_init_116 : decode cX4_init 116 = .ok (.invokespecial 37, 3) := by decide +kernel
theorem dX4_init_119 : decode cX4_init 119 = .ok (.aastore, 1) := by decide +kernel
theorem dX4_init_120 : decode cX4_init 120 = .ok (.iinc 1 1, 3) := by decide +kernel
theorem dX4_init_123 : decode cX4_init 123 = .ok (.goto (-22), 3) := by decide +kernel
theorem dX4_init_126 : decode cX4_init 126 = .ok (.return_, 1) := by decide +kernel
theorem dX4_become_0 : decode cX4_become 0 = .ok (.aload_n 0, 1) := by decide +kernel
theorem dX4_become_1 : decode cX4_become 1 = .ok (.aload_n 1, 1) := by decide +kernel
theorem dX4_become_2 : decode cX4_become 2 = .ok (.getfield 9, 3) := by decide +kernel
theorem dX4_become_5 : decode cX4_become 5 = .ok (.putfield 9, 3) := by decide +kernel
theorem dX4_become_8 : decode cX4_become 8 = .ok (.aload_n 0, 1) := by decide +kernel
theorem dX4_become_9 : decode cX4_become 9 = .ok (.aload_n 1, 1) := by decide +kernel
theorem dX4_become_10 : decode cX4_become 10 = .ok (.getfield 15, 3) := by decide +kernel
theorem dX4_become_13 : decode cX4_become 13 = .ok (.putfield 15, 3) := by decide +kernel
theorem dX4_become_16 : decode cX4_become 16 = .ok (.aload_n 0, 1) := by decide +kernel
theorem dX4_become_17 : decode cX4_become 17 = .ok (.aload_n 1, 1) := by decide +kernel
theorem dX4_become_18 : decode cX4_become 18 = .ok (.getfield 18, 3) := by decide +kernel
theorem dX4_become_21 : decode cX4_become 21 = .ok (.putfield 18, 3) := by decide +kernel
theorem dX4_become_24 : decode cX4_become 24 = .ok (.aload_n 1, 1) := by decide +kernel
theorem dX4_become_25 : decode cX4_become 25 = .ok (.getfield 21, 3) := by decide +kernel
theorem dX4_become_28 : decode cX4_become 28 = .ok (.iconst 0, 1) := by decide +kernel
theorem dX4_become_29 : decode cX4_become 29 = .ok (.aload_n 0, 1) := by decide +kernel
theorem dX4_become_30 : decode cX4_become 30 = .ok (.getfield 21, 3) := by decide +kernel
theorem dX4_become_33 : decode cX4_become 33 = .ok (.iconst 0, 1) := by decide +kernel
theorem dX4_become_34 : decode cX4_become 34 = .ok (.bipush 12, 2) := by decide +kernel
theorem dX4_become_36 : decode cX4_become 36 = .ok (.invokestatic 38, 3) := by decide +kernel
theorem dX4_become_39 : decode cX4_become 39 = .ok (.aload_n 1, 1) := by decide +kernel
theorem dX4_become_40 : decode cX4_become 40 = .ok (.getfield 25, 3) := by decide +kernel
theorem dX4_become_43 : decode cX4_become 43 = .ok (.iconst 0, 1) := by decide +kernel
theorem dX4_become_44 : decode cX4_become 44 = .ok (.aload_n 0, 1) := by decide +kernel
theorem dX4_become_45 : decode cX4_become 45 = .ok (.getfield 25, 3) := by decide +kernel
theorem dX4_become_48 : decode cX4_become 48 = .ok (.iconst 0, 1) := by decide +kernel
theorem dX4_become_49 : decode cX4_become 49 = .ok (.iconst 4, 1) := by decide +kernel
theorem dX4_become_50 : decode cX4_become 50 = .ok (.invokestatic 38, 3) := by decide +kernel
theorem dX4_become_53 : decode cX4_become 53 = .ok (.iconst 0, 1) := by decide +kernel
theorem dX4_become_54 : decode cX4_become 54 = .ok (.istore_n 2, 1) := by decide +kernel
theorem dX4_become_55 : decode cX4_become 55 = .ok (.iload_n 2, 1) := by decide +kernel
theorem dX4_become_56 : decode cX4_become 56 = .ok (.aload_n 0, 1) := by decide +kernel
theorem dX4_become_57 : decode cX4_become 57 = .ok (.getfield 15, 3) := by decide +kernel
theorem dX4_become_60 : decode cX4_become 60 = .ok (.if_icmp .ge 24, 3) := by decide +kernel
theorem dX4_become_63 : decode cX4_become 63 = .ok (.aload_n 0, 1) := by decide +kernel
theorem dX4_become_64 : decode cX4_become 64 = .ok (.getfield 30, 3) := by decide +kernel
theorem dX4_become_67 : decode cX4_become 67 = .ok (.iload_n 2, 1) := by decide +kernel
theorem dX4_become_68 : decode cX4_become 68 = .ok (.aaload, 1) := by decide +kernel
theorem dX4_become_69 : decode cX4_become 69 = .ok (.aload_n 1, 1) := by decide +kernel
theorem dX4_become_70 : decode cX4_become 70 = .ok (.getfield 30, 3) := by decide +kernel
theorem dX4_become_73 : decode cX4_become 73 = .ok (.iload_n 2, 1) := by decide +kernel
theorem dX4_become_74 : decode cX4_become 74 = .ok (.aaload, 1) := by decide +kernel
theorem dX4_become_75 : decode cX4_become 75 = .ok (.invokevirtual 44, 3) := by decide +kernel
theorem dX4_become_78 : decode cX4_become 78 = .ok (.iinc 2 1, 3) := by decide +kernel
theorem dX4_become_81 : decode cX4_become 81 = .ok (.goto (-26), 3) := by decide +kernel
theorem dX4_become_84 : decode cX4_become 84 = .ok (.return_, 1) := by decide +kernel
theorem dX4_place_0 : decode cX4_place 0 = .ok (.aload_n 0, 1) := by decide +kernel
theorem dX4_place_1 : decode cX4_place 1 = .ok (.getfield 9, 3) := by decide +kernel
theorem dX4_place_4 : decode cX4_place 4 = .ok (.bipush 12, 2) := by decide +kernel
theorem dX4_place_6 : decode cX4_place 6 = .ok (.irem, 1) := by decide +kernel
theorem dX4_place_7 : decode cX4_place 7 = .ok (.ireturn, 1) := by decide +kernel
theorem dX4_windNow_0 : decode cX4_windNow 0 = .ok (.aload_n 0, 1) := by decide +kernel
theorem dX4_windNow_1 : decode cX4_windNow 1 = .ok (.getfield 21, 3) := by decide +kernel
theorem dX4_windNow_4 : decode cX4_windNow 4 = .ok (.aload_n 0, 1) := by decide +kernel
theorem dX4_windNow_5 : decode cX4_windNow 5 = .ok (.invokevirtual 48, 3) := by decide +kernel
theorem dX4_windNow_8 : decode cX4_windNow 8 = .ok (.iaload, 1) := by decide +kernel
theorem dX4_windNow_9 : decode cX4_windNow 9 = .ok (.ireturn, 1) := by decide +kernel
theorem dX4_isUp_0 : decode cX4_isUp 0 = .ok (.aload_n 0, 1) := by decide +kernel
theorem dX4_isUp_1 : decode cX4_isUp 1 = .ok (.getfield 18, 3) := by decide +kernel
theorem dX4_isUp_4 : decode cX4_isUp 4 = .ok (.iload_n 1, 1) := by decide +kernel
theorem dX4_isUp_5 : decode cX4_isUp 5 = .ok (.ishr, 1) := by decide +kernel
theorem dX4_isUp_6 : decode cX4_isUp 6 = .ok (.iconst 1, 1) := by decide +kernel
theorem dX4_isUp_7 : decode cX4_isUp 7 = .ok (.iand, 1) := by decide +kernel
theorem dX4_isUp_8 : decode cX4_isUp 8 = .ok (.iconst 1, 1) := by decide +kernel
theorem dX4_isUp_9 : decode cX4_isUp 9 = .ok (.if_icmp .ne 7, 3) := by decide +kernel
theorem dX4_isUp_12 : decode cX4_isUp 12 = .ok (.iconst 1, 1) := by decide +kernel
theorem dX4_isUp_13 : decode cX4_isUp 13 = .ok (.goto 4, 3) := by decide +kernel
theorem dX4_isUp_16 : decode cX4_isUp 16 = .ok (.iconst 0, 1) := by decide +kernel
theorem dX4_isUp_17 : decode cX4_isUp 17 = .ok (.ireturn, 1) := by decide +kernel
theorem dX4_putUp_0 : decode cX4_putUp 0 = .ok (.iconst 1, 1) := by decide +kernel
theorem dX4_putUp_1 : decode cX4_putUp 1 = .ok (.iload_n 1, 1) := by decide +kernel
theorem dX4_putUp_2 : decode cX4_putUp 2 = .ok (.ishl, 1) := by decide +kernel
theorem dX4_putUp_3 : decode cX4_putUp 3 = .ok (.istore_n 3, 1) := by decide +kernel
theorem dX4_putUp_4 : decode cX4_putUp 4 = .ok (.aload_n 0, 1) := by decide +kernel
theorem dX4_putUp_5 : decode cX4_putUp 5 = .ok (.iload_n 2, 1) := by decide +kernel
theorem dX4_putUp_6 : decode cX4_putUp 6 = .ok (.ifCond .eq 12, 3) := by decide +kernel
theorem dX4_putUp_9 : decode cX4_putUp 9 = .ok (.aload_n 0, 1) := by decide +kernel
theorem dX4_putUp_10 : decode cX4_putUp 10 = .ok (.getfield 18, 3) := by decide +kernel
theorem dX4_putUp_13 : decode cX4_putUp 13 = .ok (.iload_n 3, 1) := by decide +kernel
theorem dX4_putUp_14 : decode cX4_putUp 14 = .ok (.ior, 1) := by decide +kernel
theorem dX4_putUp_15 : decode cX4_putUp 15 = .ok (.goto 11, 3) := by decide +kernel
theorem dX4_putUp_18 : decode cX4_putUp 18 = .ok (.aload_n 0, 1) := by decide +kernel
theorem dX4_putUp_19 : decode cX4_putUp 19 = .ok (.getfield 18, 3) := by decide +kernel
theorem dX4_putUp_22 : decode cX4_putUp 22 = .ok (.iload_n 3, 1) := by decide +kernel
theorem dX4_putUp_23 : decode cX4_putUp 23 = .ok (.iconst (-1), 1) := by decide +kernel
theorem dX4_putUp_24 : decode cX4_putUp 24 = .ok (.ixor, 1) := by decide +kernel
theorem dX4_putUp_25 : decode cX4_putUp 25 = .ok (.iand, 1) := by decide +kernel
theorem dX4_putUp_26 : decode cX4_putUp 26 = .ok (.putfield 18, 3) := by decide +kernel
theorem dX4_putUp_29 : decode cX4_putUp 29 = .ok (.return_, 1) := by decide +kernel
theorem dX4_isFull_0 : decode cX4_isFull 0 = .ok (.aload_n 0, 1) := by decide +kernel
theorem dX4_isFull_1 : decode cX4_isFull 1 = .ok (.getfield 15, 3) := by decide +kernel
theorem dX4_isFull_4 : decode cX4_isFull 4 = .ok (.bipush 10, 2) := by decide +kernel
theorem dX4_isFull_6 : decode cX4_isFull 6 = .ok (.if_icmp .lt 7, 3) := by decide +kernel
theorem dX4_isFull_9 : decode cX4_isFull 9 = .ok (.iconst 1, 1) := by decide +kernel
theorem dX4_isFull_10 : decode cX4_isFull 10 = .ok (.goto 4, 3) := by decide +kernel
theorem dX4_isFull_13 : decode cX4_isFull 13 = .ok (.iconst 0, 1) := by decide +kernel
theorem dX4_isFull_14 : decode cX4_isFull 14 = .ok (.ireturn, 1) := by decide +kernel
theorem dX4_addKnot_0 : decode cX4_addKnot 0 = .ok (.aload_n 0, 1) := by decide +kernel
theorem dX4_addKnot_1 : decode cX4_addKnot 1 = .ok (.getfield 30, 3) := by decide +kernel
theorem dX4_addKnot_4 : decode cX4_addKnot 4 = .ok (.aload_n 0, 1) := by decide +kernel
theorem dX4_addKnot_5 : decode cX4_addKnot 5 = .ok (.getfield 15, 3) := by decide +kernel
theorem dX4_addKnot_8 : decode cX4_addKnot 8 = .ok (.aaload, 1) := by decide +kernel
theorem dX4_addKnot_9 : decode cX4_addKnot 9 = .ok (.iload_n 1, 1) := by decide +kernel
theorem dX4_addKnot_10 : decode cX4_addKnot 10 = .ok (.iload_n 2, 1) := by decide +kernel
theorem dX4_addKnot_11 : decode cX4_addKnot 11 = .ok (.invokevirtual 52, 3) := by decide +kernel
theorem dX4_addKnot_14 : decode cX4_addKnot 14 = .ok (.aload_n 0, 1) := by decide +kernel
theorem dX4_addKnot_15 : decode cX4_addKnot 15 = .ok (.dup, 1) := by decide +kernel
theorem dX4_addKnot_16 : decode cX4_addKnot 16 = .ok (.getfield 15, 3) := by decide +kernel
theorem dX4_addKnot_19 : decode cX4_addKnot 19 = .ok (.iconst 1, 1) := by decide +kernel
theorem dX4_addKnot_20 : decode cX4_addKnot 20 = .ok (.iadd, 1) := by decide +kernel
theorem dX4_addKnot_21 : decode cX4_addKnot 21 = .ok (.putfield 15, 3) := by decide +kernel
theorem dX4_addKnot_24 : decode cX4_addKnot 24 = .ok (.aload_n 0, 1) := by decide +kernel
theorem dX4_addKnot_25 : decode cX4_addKnot 25 = .ok (.getfield 15, 3) := by decide +kernel
theorem dX4_addKnot_28 : decode cX4_addKnot 28 = .ok (.iconst 1, 1) := by decide +kernel
theorem dX4_addKnot_29 : decode cX4_addKnot 29 = .ok (.isub, 1) := by decide +kernel
theorem dX4_addKnot_30 : decode cX4_addKnot 30 = .ok (.ireturn, 1) := by decide +kernel
theorem dX4_knotsOf_0 : decode cX4_knotsOf 0 = .ok (.iconst 0, 1) := by decide +kernel
theorem dX4_knotsOf_1 : decode cX4_knotsOf 1 = .ok (.istore_n 2, 1) := by decide +kernel
theorem dX4_knotsOf_2 : decode cX4_knotsOf 2 = .ok (.iconst 0, 1) := by decide +kernel
theorem dX4_knotsOf_3 : decode cX4_knotsOf 3 = .ok (.istore_n 3, 1) := by decide +kernel
theorem dX4_knotsOf_4 : decode cX4_knotsOf 4 = .ok (.iload_n 3, 1) := by decide +kernel
theorem dX4_knotsOf_5 : decode cX4_knotsOf 5 = .ok (.aload_n 0, 1) := by decide +kernel
theorem dX4_knotsOf_6 : decode cX4_knotsOf 6 = .ok (.getfield 15, 3) := by decide +kernel
theorem dX4_knotsOf_9 : decode cX4_knotsOf 9 = .ok (.if_icmp .ge 32, 3) := by decide +kernel
theorem dX4_knotsOf_12 : decode cX4_knotsOf 12 = .ok (.iload_n 2, 1) := by decide +kernel
theorem dX4_knotsOf_13 : decode cX4_knotsOf 13 = .ok (.aload_n 0, 1) := by decide +kernel
theorem dX4_knotsOf_14 : decode cX4_knotsOf 14 = .ok (.getfield 30, 3) := by decide +kernel
theorem dX4_knotsOf_17 : decode cX4_knotsOf 17 = .ok (.iload_n 3, 1) := by decide +kernel
theorem dX4_knotsOf_18 : decode cX4_knotsOf 18 = .ok (.aaload, 1) := by decide +kernel
theorem dX4_knotsOf_19 : decode cX4_knotsOf 19 = .ok (.getfield 56, 3) := by decide +kernel
theorem dX4_knotsOf_22 : decode cX4_knotsOf 22 = .ok (.iload_n 1, 1) := by decide +kernel
theorem dX4_knotsOf_23 : decode cX4_knotsOf 23 = .ok (.if_icmp .ne 9, 3) := by decide +kernel
theorem dX4_knotsOf_26 : decode cX4_knotsOf 26 = .ok (.iconst 1, 1) := by decide +kernel
theorem dX4_knotsOf_27 : decode cX4_knotsOf 27 = .ok (.iload_n 3, 1) := by decide +kernel
theorem dX4_knotsOf_28 : decode cX4_knotsOf 28 = .ok (.ishl, 1) := by decide +kernel
theorem dX4_knotsOf_29 : decode cX4_knotsOf 29 = .ok (.goto 4, 3) := by decide +kernel
theorem dX4_knotsOf_32 : decode cX4_knotsOf 32 = .ok (.iconst 0, 1) := by decide +kernel
theorem dX4_knotsOf_33 : decode cX4_knotsOf 33 = .ok (.ior, 1) := by decide +kernel
theorem dX4_knotsOf_34 : decode cX4_knotsOf 34 = .ok (.istore_n 2, 1) := by decide +kernel
theorem dX4_knotsOf_35 : decode cX4_knotsOf 35 = .ok (.iinc 3 1, 3) := by decide +kernel
theorem dX4_knotsOf_38 : decode cX4_knotsOf 38 = .ok (.goto (-34), 3) := by decide +kernel
theorem dX4_knotsOf_41 : decode cX4_knotsOf 41 = .ok (.iload_n 2, 1) := by decide +kernel
theorem dX4_knotsOf_42 : decode cX4_knotsOf 42 = .ok (.ireturn, 1) := by decide +kernel
theorem dX4_fastKnots_0 : decode cX4_fastKnots 0 = .ok (.iconst 0, 1) := by decide +kernel
theorem dX4_fastKnots_1 : decode cX4_fastKnots 1 = .ok (.istore_n 1, 1) := by decide +kernel
theorem dX4_fastKnots_2 : decode cX4_fastKnots 2 = .ok (.iconst 0, 1) := by decide +kernel
theorem dX4_fastKnots_3 : decode cX4_fastKnots 3 = .ok (.istore_n 2, 1) := by decide +kernel
theorem dX4_fastKnots_4 : decode cX4_fastKnots 4 = .ok (.iload_n 2, 1) := by decide +kernel
theorem dX4_fastKnots_5 : decode cX4_fastKnots 5 = .ok (.aload_n 0, 1) := by decide +kernel
theorem dX4_fastKnots_6 : decode cX4_fastKnots 6 = .ok (.getfield 15, 3) := by decide +kernel
theorem dX4_fastKnots_9 : decode cX4_fastKnots 9 = .ok (.if_icmp .ge 31, 3) := by decide +kernel
theorem dX4_fastKnots_12 : decode cX4_fastKnots 12 = .ok (.iload_n 1, 1) := by decide +kernel
theorem dX4_fastKnots_13 : decode cX4_fastKnots 13 = .ok (.aload_n 0, 1) := by decide +kernel
theorem dX4_fastKnots_14 : decode cX4_fastKnots 14 = .ok (.getfield 30, 3) := by decide +kernel
theorem dX4_fastKnots_17 : decode cX4_fastKnots 17 = .ok (.iload_n 2, 1) := by decide +kernel
theorem dX4_fastKnots_18 : decode cX4_fastKnots 18 = .ok (.aaload, 1) := by decide +kernel
theorem dX4_fastKnots_19 : decode cX4_fastKnots 19 = .ok (.getfield 59, 3) := by decide +kernel
theorem dX4_fastKnots_22 : decode cX4_fastKnots 22 = .ok (.ifCond .eq 9, 3) := by decide +kernel
theorem dX4_fastKnots_25 : decode cX4_fastKnots 25 = .ok (.iconst 1, 1) := by decide +kernel
theorem dX4_fastKnots_26 : decode cX4_fastKnots 26 = .ok (.iload_n 2, 1) := by decide +kernel
theorem dX4_fastKnots_27 : decode cX4_fastKnots 27 = .ok (.ishl, 1) := by decide +kernel
theorem dX4_fastKnots_28 : decode cX4_fastKnots 28 = .ok (.goto 4, 3) := by decide +kernel
theorem dX4_fastKnots_31 : decode cX4_fastKnots 31 = .ok (.iconst 0, 1) := by decide +kernel
theorem dX4_fastKnots_32 : decode cX4_fastKnots 32 = .ok (.ior, 1) := by decide +kernel
theorem dX4_fastKnots_33 : decode cX4_fastKnots 33 = .ok (.istore_n 1, 1) := by decide +kernel
theorem dX4_fastKnots_34 : decode cX4_fastKnots 34 = .ok (.iinc 2 1, 3) := by decide +kernel
theorem dX4_fastKnots_37 : decode cX4_fastKnots 37 = .ok (.goto (-33), 3) := by decide +kernel
theorem dX4_fastKnots_40 : decode cX4_fastKnots 40 = .ok (.iload_n 1, 1) := by decide +kernel
theorem dX4_fastKnots_41 : decode cX4_fastKnots 41 = .ok (.ireturn, 1) := by decide +kernel
theorem dX4_allOpen_0 : decode cX4_allOpen 0 = .ok (.iconst 0, 1) := by decide +kernel
theorem dX4_allOpen_1 : decode cX4_allOpen 1 = .ok (.istore_n 1, 1) := by decide +kernel
theorem dX4_allOpen_2 : decode cX4_allOpen 2 = .ok (.iconst 0, 1) := by decide +kernel
theorem dX4_allOpen_3 : decode cX4_allOpen 3 = .ok (.istore_n 2, 1) := by decide +kernel
theorem dX4_allOpen_4 : decode cX4_allOpen 4 = .ok (.iload_n 2, 1) := by decide +kernel
theorem dX4_allOpen_5 : decode cX4_allOpen 5 = .ok (.aload_n 0, 1) := by decide +kernel
theorem dX4_allOpen_6 : decode cX4_allOpen 6 = .ok (.getfield 15, 3) := by decide +kernel
theorem dX4_allOpen_9 : decode cX4_allOpen 9 = .ok (.if_icmp .ge 21, 3) := by decide +kernel
theorem dX4_allOpen_12 : decode cX4_allOpen 12 = .ok (.iload_n 1, 1) := by decide +kernel
theorem dX4_allOpen_13 : decode cX4_allOpen 13 = .ok (.aload_n 0, 1) := by decide +kernel
theorem dX4_allOpen_14 : decode cX4_allOpen 14 = .ok (.getfield 30, 3) := by decide +kernel
theorem dX4_allOpen_17 : decode cX4_allOpen 17 = .ok (.iload_n 2, 1) := by decide +kernel
theorem dX4_allOpen_18 : decode cX4_allOpen 18 = .ok (.aaload, 1) := by decide +kernel
theorem dX4_allOpen_19 : decode cX4_allOpen 19 = .ok (.getfield 63, 3) := by decide +kernel
theorem dX4_allOpen_22 : decode cX4_allOpen 22 = .ok (.iadd, 1) := by decide +kernel
theorem dX4_allOpen_23 : decode cX4_allOpen 23 = .ok (.istore_n 1, 1) := by decide +kernel
theorem dX4_allOpen_24 : decode cX4_allOpen 24 = .ok (.iinc 2 1, 3) := by decide +kernel
theorem dX4_allOpen_27 : decode cX4_allOpen 27 = .ok (.goto (-23), 3) := by decide +kernel
theorem dX4_allOpen_30 : decode cX4_allOpen 30 = .ok (.iload_n 1, 1) := by decide +kernel
theorem dX4_allOpen_31 : decode cX4_allOpen 31 = .ok (.ireturn, 1) := by decide +kernel
theorem dX4_allAges_0 : decode cX4_allAges 0 = .ok (.iconst 0, 1) := by decide +kernel
theorem dX4_allAges_1 : decode cX4_allAges 1 = .ok (.istore_n 1, 1) := by decide +kernel
theorem dX4_allAges_2 : decode cX4_allAges 2 = .ok (.iconst 0, 1) := by decide +kernel
theorem dX4_allAges_3 : decode cX4_allAges 3 = .ok (.istore_n 2, 1) := by decide +kernel
theorem dX4_allAges_4 : decode cX4_allAges 4 = .ok (.iload_n 2, 1) := by decide +kernel
theorem dX4_allAges_5 : decode cX4_allAges 5 = .ok (.aload_n 0, 1) := by decide +kernel
theorem dX4_allAges_6 : decode cX4_allAges 6 = .ok (.getfield 15, 3) := by decide +kernel
theorem dX4_allAges_9 : decode cX4_allAges 9 = .ok (.if_icmp .ge 21, 3) := by decide +kernel
theorem dX4_allAges_12 : decode cX4_allAges 12 = .ok (.iload_n 1, 1) := by decide +kernel
theorem dX4_allAges_13 : decode cX4_allAges 13 = .ok (.aload_n 0, 1) := by decide +kernel
theorem dX4_allAges_14 : decode cX4_allAges 14 = .ok (.getfield 30, 3) := by decide +kernel
theorem dX4_allAges_17 : decode cX4_allAges 17 = .ok (.iload_n 2, 1) := by decide +kernel
theorem dX4_allAges_18 : decode cX4_allAges 18 = .ok (.aaload, 1) := by decide +kernel
theorem dX4_allAges_19 : decode cX4_allAges 19 = .ok (.getfield 66, 3) := by decide +kernel
theorem dX4_allAges_22 : decode cX4_allAges 22 = .ok (.iadd, 1) := by decide +kernel
theorem dX4_allAges_23 : decode cX4_allAges 23 = .ok (.istore_n 1, 1) := by decide +kernel
theorem dX4_allAges_24 : decode cX4_allAges 24 = .ok (.iinc 2 1, 3) := by decide +kernel
theorem dX4_allAges_27 : decode cX4_allAges 27 = .ok (.goto (-23), 3) := by decide +kernel
theorem dX4_allAges_30 : decode cX4_allAges 30 = .ok (.iload_n 1, 1) := by decide +kernel
theorem dX4_allAges_31 : decode cX4_allAges 31 = .ok (.ireturn, 1) := by decide +kernel
theorem dX4_allWeights_0 : decode cX4_allWeights 0 = .ok (.iconst 0, 1) := by decide +kernel
theorem dX4_allWeights_1 : decode cX4_allWeights 1 = .ok (.istore_n 1, 1) := by decide +kernel
theorem dX4_allWeights_2 : decode cX4_allWeights 2 = .ok (.iconst 0, 1) := by decide +kernel
theorem dX4_allWeights_3 : decode cX4_allWeights 3 = .ok (.istore_n 2, 1) := by decide +kernel
theorem dX4_allWeights_4 : decode cX4_allWeights 4 = .ok (.iload_n 2, 1) := by decide +kernel
theorem dX4_allWeights_5 : decode cX4_allWeights 5 = .ok (.iconst 4, 1) := by decide +kernel
theorem dX4_allWeights_6 : decode cX4_allWeights 6 = .ok (.if_icmp .ge 18, 3) := by decide +kernel
theorem dX4_allWeights_9 : decode cX4_allWeights 9 = .ok (.iload_n 1, 1) := by decide +kernel
theorem dX4_allWeights_10 : decode cX4_allWeights 10 = .ok (.aload_n 0, 1) := by decide +kernel
theorem dX4_allWeights_11 : decode cX4_allWeights 11 = .ok (.getfield 25, 3) := by decide +kernel
theorem dX4_allWeights_14 : decode cX4_allWeights 14 = .ok (.iload_n 2, 1) := by decide +kernel
theorem dX4_allWeights_15 : decode cX4_allWeights 15 = .ok (.iaload, 1) := by decide +kernel
theorem dX4_allWeights_16 : decode cX4_allWeights 16 = .ok (.iadd, 1) := by decide +kernel
theorem dX4_allWeights_17 : decode cX4_allWeights 17 = .ok (.istore_n 1, 1) := by decide +kernel
theorem dX4_allWeights_18 : decode cX4_allWeights 18 = .ok (.iinc 2 1, 3) := by decide +kernel
theorem dX4_allWeights_21 : decode cX4_allWeights 21 = .ok (.goto (-17), 3) := by decide +kernel
theorem dX4_allWeights_24 : decode cX4_allWeights 24 = .ok (.iload_n 1, 1) := by decide +kernel
theorem dX4_allWeights_25 : decode cX4_allWeights 25 = .ok (.ireturn, 1) := by decide +kernel
theorem dX4_strainOn_0 : decode cX4_strainOn 0 = .ok (.aload_n 0, 1) := by decide +kernel
theorem dX4_strainOn_1 : decode cX4_strainOn 1 = .ok (.invokevirtual 69, 3) := by decide +kernel
theorem dX4_strainOn_4 : decode cX4_strainOn 4 = .ok (.aload_n 0, 1) := by decide +kernel
theorem dX4_strainOn_5 : decode cX4_strainOn 5 = .ok (.iload_n 1, 1) := by decide +kernel
theorem dX4_strainOn_6 : decode cX4_strainOn 6 = .ok (.aload_n 0, 1) := by decide +kernel
theorem dX4_strainOn_7 : decode cX4_strainOn 7 = .ok (.invokevirtual 72, 3) := by decide +kernel
theorem dX4_strainOn_10 : decode cX4_strainOn 10 = .ok (.invokevirtual 75, 3) := by decide +kernel
theorem dX4_strainOn_13 : decode cX4_strainOn 13 = .ok (.ireturn, 1) := by decide +kernel
theorem dX4_holdingOf_0 : decode cX4_holdingOf 0 = .ok (.aload_n 0, 1) := by decide +kernel
theorem dX4_holdingOf_1 : decode cX4_holdingOf 1 = .ok (.invokevirtual 69, 3) := by decide +kernel
theorem dX4_holdingOf_4 : decode cX4_holdingOf 4 = .ok (.aload_n 0, 1) := by decide +kernel
theorem dX4_holdingOf_5 : decode cX4_holdingOf 5 = .ok (.aload_n 1, 1) := by decide +kernel
theorem dX4_holdingOf_6 : decode cX4_holdingOf 6 = .ok (.aload_n 0, 1) := by decide +kernel
theorem dX4_holdingOf_7 : decode cX4_holdingOf 7 = .ok (.invokevirtual 72, 3) := by decide +kernel
theorem dX4_holdingOf_10 : decode cX4_holdingOf 10 = .ok (.invokevirtual 79, 3) := by decide +kernel
theorem dX4_holdingOf_13 : decode cX4_holdingOf 13 = .ok (.ireturn, 1) := by decide +kernel
theorem dX4_allHolding_0 : decode cX4_allHolding 0 = .ok (.iconst 0, 1) := by decide +kernel
theorem dX4_allHolding_1 : decode cX4_allHolding 1 = .ok (.istore_n 2, 1) := by decide +kernel
theorem dX4_allHolding_2 : decode cX4_allHolding 2 = .ok (.iconst 0, 1) := by decide +kernel
theorem dX4_allHolding_3 : decode cX4_allHolding 3 = .ok (.istore_n 3, 1) := by decide +kernel
theorem dX4_allHolding_4 : decode cX4_allHolding 4 = .ok (.iload_n 3, 1) := by decide +kernel
theorem dX4_allHolding_5 : decode cX4_allHolding 5 = .ok (.aload_n 0, 1) := by decide +kernel
theorem dX4_allHolding_6 : decode cX4_allHolding 6 = .ok (.getfield 15, 3) := by decide +kernel
theorem dX4_allHolding_9 : decode cX4_allHolding 9 = .ok (.if_icmp .ge 39, 3) := by decide +kernel
theorem dX4_allHolding_12 : decode cX4_allHolding 12 = .ok (.iload_n 2, 1) := by decide +kernel
theorem dX4_allHolding_13 : decode cX4_allHolding 13 = .ok (.aload_n 0, 1) := by decide +kernel
theorem dX4_allHolding_14 : decode cX4_allHolding 14 = .ok (.getfield 30, 3) := by decide +kernel
theorem dX4_allHolding_17 : decode cX4_allHolding 17 = .ok (.iload_n 3, 1) := by decide +kernel
theorem dX4_allHolding_18 : decode cX4_allHolding 18 = .ok (.aaload, 1) := by decide +kernel
theorem dX4_allHolding_19 : decode cX4_allHolding 19 = .ok (.getfield 56, 3) := by decide +kernel
theorem dX4_allHolding_22 : decode cX4_allHolding 22 = .ok (.iload_n 1, 1) := by decide +kernel
theorem dX4_allHolding_23 : decode cX4_allHolding 23 = .ok (.if_icmp .ne 16, 3) := by decide +kernel
theorem dX4_allHolding_26 : decode cX4_allHolding 26 = .ok (.aload_n 0, 1) := by decide +kernel
theorem dX4_allHolding_27 : decode cX4_allHolding 27 = .ok (.aload_n 0, 1) := by decide +kernel
theorem dX4_allHolding_28 : decode cX4_allHolding 28 = .ok (.getfield 30, 3) := by decide +kernel
theorem dX4_allHolding_31 : decode cX4_allHolding 31 = .ok (.iload_n 3, 1) := by decide +kernel
theorem dX4_allHolding_32 : decode cX4_allHolding 32 = .ok (.aaload, 1) := by decide +kernel
theorem dX4_allHolding_33 : decode cX4_allHolding 33 = .ok (.invokevirtual 83, 3) := by decide +kernel
theorem dX4_allHolding_36 : decode cX4_allHolding 36 = .ok (.goto 4, 3) := by decide +kernel
theorem dX4_allHolding_39 : decode cX4_allHolding 39 = .ok (.iconst 0, 1) := by decide +kernel
theorem dX4_allHolding_40 : decode cX4_allHolding 40 = .ok (.iadd, 1) := by decide +kernel
theorem dX4_allHolding_41 : decode cX4_allHolding 41 = .ok (.istore_n 2, 1) := by decide +kernel
theorem dX4_allHolding_42 : decode cX4_allHolding 42 = .ok (.iinc 3 1, 3) := by decide +kernel
theorem dX4_allHolding_45 : decode cX4_allHolding 45 = .ok (.goto (-41), 3) := by decide +kernel
theorem dX4_allHolding_48 : decode cX4_allHolding 48 = .ok (.iload_n 2, 1) := by decide +kernel
theorem dX4_allHolding_49 : decode cX4_allHolding 49 = .ok (.ireturn, 1) := by decide +kernel
theorem dX4_wouldGive_0 : decode cX4_wouldGive 0 = .ok (.aload_n 0, 1) := by decide +kernel
theorem dX4_wouldGive_1 : decode cX4_wouldGive 1 = .ok (.invokevirtual 72, 3) := by decide +kernel
theorem dX4_wouldGive_4 : decode cX4_wouldGive 4 = .ok (.istore_n 2, 1) := by decide +kernel
theorem dX4_wouldGive_5 : decode cX4_wouldGive 5 = .ok (.aload_n 0, 1) := by decide +kernel
theorem dX4_wouldGive_6 : decode cX4_wouldGive 6 = .ok (.invokevirtual 69, 3) := by decide +kernel
theorem dX4_wouldGive_9 : decode cX4_wouldGive 9 = .ok (.aload_n 1, 1) := by decide +kernel
theorem dX4_wouldGive_10 : decode cX4_wouldGive 10 = .ok (.getfield 59, 3) := by decide +kernel
theorem dX4_wouldGive_13 : decode cX4_wouldGive 13 = .ok (.ifCond .eq 29, 3) := by decide +kernel
theorem dX4_wouldGive_16 : decode cX4_wouldGive 16 = .ok (.aload_n 1, 1) := by decide +kernel
theorem dX4_wouldGive_17 : decode cX4_wouldGive 17 = .ok (.aload_n 0, 1) := by decide +kernel
theorem dX4_wouldGive_18 : decode cX4_wouldGive 18 = .ok (.aload_n 1, 1) := by decide +kernel
theorem dX4_wouldGive_19 : decode cX4_wouldGive 19 = .ok (.getfield 56, 3) := by decide +kernel
theorem dX4_wouldGive_22 : decode cX4_wouldGive 22 = .ok (.iload_n 2, 1) := by decide +kernel
theorem dX4_wouldGive_23 : decode cX4_wouldGive 23 = .ok (.invokevirtual 75, 3) := by decide +kernel
theorem dX4_wouldGive_26 : decode cX4_wouldGive 26 = .ok (.aload_n 0, 1) := by decide +kernel
theorem dX4_wouldGive_27 : decode cX4_wouldGive 27 = .ok (.aload_n 1, 1) := by decide +kernel
theorem dX4_wouldGive_28 : decode cX4_wouldGive 28 = .ok (.iload_n 2, 1) := by decide +kernel
theorem dX4_wouldGive_29 : decode cX4_wouldGive 29 = .ok (.invokevirtual 79, 3) := by decide +kernel
theorem dX4_wouldGive_32 : decode cX4_wouldGive 32 = .ok (.invokevirtual 87, 3) := by decide +kernel
theorem dX4_wouldGive_35 : decode cX4_wouldGive 35 = .ok (.ifCond .eq 7, 3) := by decide +kernel
theorem dX4_wouldGive_38 : decode cX4_wouldGive 38 = .ok (.iconst 1, 1) := by decide +kernel
theorem dX4_wouldGive_39 : decode cX4_wouldGive 39 = .ok (.goto 4, 3) := by decide +kernel
theorem dX4_wouldGive_42 : decode cX4_wouldGive 42 = .ok (.iconst 0, 1) := by decide +kernel
theorem dX4_wouldGive_43 : decode cX4_wouldGive 43 = .ok (.ireturn, 1) := by decide +kernel
theorem dX4_passHours_0 : decode cX4_passHours 0 = .ok (.iconst 0, 1) := by decide +kernel
theorem dX4_passHours_1 : decode cX4_passHours 1 = .ok (.istore_n 2, 1) := by decide +kernel
theorem dX4_passHours_2 : decode cX4_passHours 2 = .ok (.iload_n 2, 1) := by decide +kernel
theorem dX4_passHours_3 : decode cX4_passHours 3 = .ok (.iload_n 1, 1) := by decide +kernel
theorem dX4_passHours_4 : decode cX4_passHours 4 = .ok (.if_icmp .ge 13, 3) := by decide +kernel
theorem dX4_passHours_7 : decode cX4_passHours 7 = .ok (.aload_n 0, 1) := by decide +kernel
theorem dX4_passHours_8 : decode cX4_passHours 8 = .ok (.invokevirtual 91, 3) := by decide +kernel
theorem dX4_passHours_11 : decode cX4_passHours 11 = .ok (.iinc 2 1, 3) := by decide +kernel
theorem dX4_passHours_14 : decode cX4_passHours 14 = .ok (.goto (-12), 3) := by decide +kernel
theorem dX4_passHours_17 : decode cX4_passHours 17 = .ok (.return_, 1) := by decide +kernel
theorem dX4_passHour_0 : decode cX4_passHour 0 = .ok (.aload_n 0, 1) := by decide +kernel
theorem dX4_passHour_1 : decode cX4_passHour 1 = .ok (.invokevirtual 72, 3) := by decide +kernel
theorem dX4_passHour_4 : decode cX4_passHour 4 = .ok (.istore_n 1, 1) := by decide +kernel
theorem dX4_passHour_5 : decode cX4_passHour 5 = .ok (.aload_n 0, 1) := by decide +kernel
theorem dX4_passHour_6 : decode cX4_passHour 6 = .ok (.invokevirtual 69, 3) := by decide +kernel
theorem dX4_passHour_9 : decode cX4_passHour 9 = .ok (.aload_n 0, 1) := by decide +kernel
theorem dX4_passHour_10 : decode cX4_passHour 10 = .ok (.iload_n 1, 1) := by decide +kernel
theorem dX4_passHour_11 : decode cX4_passHour 11 = .ok (.invokevirtual 94, 3) := by decide +kernel
theorem dX4_passHour_14 : decode cX4_passHour 14 = .ok (.aload_n 0, 1) := by decide +kernel
theorem dX4_passHour_15 : decode cX4_passHour 15 = .ok (.invokevirtual 69, 3) := by decide +kernel
theorem dX4_passHour_18 : decode cX4_passHour 18 = .ok (.aload_n 0, 1) := by decide +kernel
theorem dX4_passHour_19 : decode cX4_passHour 19 = .ok (.invokevirtual 98, 3) := by decide +kernel
theorem dX4_passHour_22 : decode cX4_passHour 22 = .ok (.aload_n 0, 1) := by decide +kernel
theorem dX4_passHour_23 : decode cX4_passHour 23 = .ok (.iload_n 1, 1) := by decide +kernel
theorem dX4_passHour_24 : decode cX4_passHour 24 = .ok (.invokevirtual 101, 3) := by decide +kernel
theorem dX4_passHour_27 : decode cX4_passHour 27 = .ok (.aload_n 0, 1) := by decide +kernel
theorem dX4_passHour_28 : decode cX4_passHour 28 = .ok (.dup, 1) := by decide +kernel
theorem dX4_passHour_29 : decode cX4_passHour 29 = .ok (.getfield 9, 3) := by decide +kernel
theorem dX4_passHour_32 : decode cX4_passHour 32 = .ok (.iconst 1, 1) := by decide +kernel
theorem dX4_passHour_33 : decode cX4_passHour 33 = .ok (.iadd, 1) := by decide +kernel
theorem dX4_passHour_34 : decode cX4_passHour 34 = .ok (.putfield 9, 3) := by decide +kernel
theorem dX4_passHour_37 : decode cX4_passHour 37 = .ok (.return_, 1) := by decide +kernel
theorem dX4_staysUp_0 : decode cX4_staysUp 0 = .ok (.iconst 0, 1) := by decide +kernel
theorem dX4_staysUp_1 : decode cX4_staysUp 1 = .ok (.istore_n 3, 1) := by decide +kernel
theorem dX4_staysUp_2 : decode cX4_staysUp 2 = .ok (.iload_n 3, 1) := by decide +kernel
theorem dX4_staysUp_3 : decode cX4_staysUp 3 = .ok (.iload_n 2, 1) := by decide +kernel
theorem dX4_staysUp_4 : decode cX4_staysUp 4 = .ok (.if_icmp .ge 21, 3) := by decide +kernel
theorem dX4_staysUp_7 : decode cX4_staysUp 7 = .ok (.aload_n 0, 1) := by decide +kernel
theorem dX4_staysUp_8 : decode cX4_staysUp 8 = .ok (.iload_n 1, 1) := by decide +kernel
theorem dX4_staysUp_9 : decode cX4_staysUp 9 = .ok (.invokevirtual 104, 3) := by decide +kernel
theorem dX4_staysUp_12 : decode cX4_staysUp 12 = .ok (.ifCond .eq 13, 3) := by decide +kernel
theorem dX4_staysUp_15 : decode cX4_staysUp 15 = .ok (.aload_n 0, 1) := by decide +kernel
theorem dX4_staysUp_16 : decode cX4_staysUp 16 = .ok (.invokevirtual 91, 3) := by decide +kernel
theorem dX4_staysUp_19 : decode cX4_staysUp 19 = .ok (.iinc 3 1, 3) := by decide +kernel
theorem dX4_staysUp_22 : decode cX4_staysUp 22 = .ok (.goto (-20), 3) := by decide +kernel
theorem dX4_staysUp_25 : decode cX4_staysUp 25 = .ok (.aload_n 0, 1) := by decide +kernel
theorem dX4_staysUp_26 : decode cX4_staysUp 26 = .ok (.iload_n 1, 1) := by decide +kernel
theorem dX4_staysUp_27 : decode cX4_staysUp 27 = .ok (.invokevirtual 104, 3) := by decide +kernel
theorem dX4_staysUp_30 : decode cX4_staysUp 30 = .ok (.ireturn, 1) := by decide +kernel
theorem dX4_staysFast_0 : decode cX4_staysFast 0 = .ok (.iconst 0, 1) := by decide +kernel
theorem dX4_staysFast_1 : decode cX4_staysFast 1 = .ok (.istore_n 3, 1) := by decide +kernel
theorem dX4_staysFast_2 : decode cX4_staysFast 2 = .ok (.iload_n 3, 1) := by decide +kernel
theorem dX4_staysFast_3 : decode cX4_staysFast 3 = .ok (.iload_n 2, 1) := by decide +kernel
theorem dX4_staysFast_4 : decode cX4_staysFast 4 = .ok (.if_icmp .ge 20, 3) := by decide +kernel
theorem dX4_staysFast_7 : decode cX4_staysFast 7 = .ok (.aload_n 1, 1) := by decide +kernel
theorem dX4_staysFast_8 : decode cX4_staysFast 8 = .ok (.getfield 59, 3) := by decide +kernel
theorem dX4_staysFast_11 : decode cX4_staysFast 11 = .ok (.ifCond .eq 13, 3) := by decide +kernel
theorem dX4_staysFast_14 : decode cX4_staysFast 14 = .ok (.aload_n 0, 1) := by decide +kernel
theorem dX4_staysFast_15 : decode cX4_staysFast 15 = .ok (.invokevirtual 91, 3) := by decide +kernel
theorem dX4_staysFast_18 : decode cX4_staysFast 18 = .ok (.iinc 3 1, 3) := by decide +kernel
theorem dX4_staysFast_21 : decode cX4_staysFast 21 = .ok (.goto (-19), 3) := by decide +kernel
theorem dX4_staysFast_24 : decode cX4_staysFast 24 = .ok (.aload_n 1, 1) := by decide +kernel
theorem dX4_staysFast_25 : decode cX4_staysFast 25 = .ok (.getfield 59, 3) := by decide +kernel
theorem dX4_staysFast_28 : decode cX4_staysFast 28 = .ok (.ireturn, 1) := by decide +kernel
theorem dX4_hoursTillFallen_0 : decode cX4_hoursTillFallen 0 = .ok (.iconst 0, 1) := by decide +kernel
theorem dX4_hoursTillFallen_1 : decode cX4_hoursTillFallen 1 = .ok (.istore_n 2, 1) := by decide +kernel
theorem dX4_hoursTillFallen_2 : decode cX4_hoursTillFallen 2 = .ok (.iload_n 2, 1) := by decide +kernel
theorem dX4_hoursTillFallen_3 : decode cX4_hoursTillFallen 3 = .ok (.sipush 200, 3) := by decide +kernel
theorem dX4_hoursTillFallen_6 : decode cX4_hoursTillFallen 6 = .ok (.if_icmp .gt 21, 3) := by decide +kernel
theorem dX4_hoursTillFallen_9 : decode cX4_hoursTillFallen 9 = .ok (.aload_n 0, 1) := by decide +kernel
theorem dX4_hoursTillFallen_10 : decode cX4_hoursTillFallen 10 = .ok (.iload_n 1, 1) := by decide +kernel
theorem dX4_hoursTillFallen_11 : decode cX4_hoursTillFallen 11 = .ok (.invokevirtual 104, 3) := by decide +kernel
theorem dX4_hoursTillFallen_14 : decode cX4_hoursTillFallen 14 = .ok (.ifCond .eq 13, 3) := by decide +kernel
theorem dX4_hoursTillFallen_17 : decode cX4_hoursTillFallen 17 = .ok (.aload_n 0, 1) := by decide +kernel
theorem dX4_hoursTillFallen_18 : decode cX4_hoursTillFallen 18 = .ok (.invokevirtual 91, 3) := by decide +kernel
theorem dX4_hoursTillFallen_21 : decode cX4_hoursTillFallen 21 = .ok (.iinc 2 1, 3) := by decide +kernel
theorem dX4_hoursTillFallen_24 : decode cX4_hoursTillFallen 24 = .ok (.goto (-22), 3) := by decide +kernel
theorem dX4_hoursTillFallen_27 : decode cX4_hoursTillFallen 27 = .ok (.iload_n 2, 1) := by decide +kernel
theorem dX4_hoursTillFallen_28 : decode cX4_hoursTillFallen 28 = .ok (.ireturn, 1) := by decide +kernel
theorem dX4_hoursTillLoose_0 : decode cX4_hoursTillLoose 0 = .ok (.iconst 0, 1) := by decide +kernel
theorem dX4_hoursTillLoose_1 : decode cX4_hoursTillLoose 1 = .ok (.istore_n 2, 1) := by decide +kernel
theorem dX4_hoursTillLoose_2 : decode cX4_hoursTillLoose 2 = .ok (.iload_n 2, 1) := by decide +kernel
theorem dX4_hoursTillLoose_3 : decode cX4_hoursTillLoose 3 = .ok (.sipush 200, 3) := by decide +kernel
theorem dX4_hoursTillLoose_6 : decode cX4_hoursTillLoose 6 = .ok (.if_icmp .gt 20, 3) := by decide +kernel
theorem dX4_hoursTillLoose_9 : decode cX4_hoursTillLoose 9 = .ok (.aload_n 1, 1) := by decide +kernel
theorem dX4_hoursTillLoose_10 : decode cX4_hoursTillLoose 10 = .ok (.getfield 59, 3) := by decide +kernel
theorem dX4_hoursTillLoose_13 : decode cX4_hoursTillLoose 13 = .ok (.ifCond .eq 13, 3) := by decide +kernel
theorem dX4_hoursTillLoose_16 : decode cX4_hoursTillLoose 16 = .ok (.aload_n 0, 1) := by decide +kernel
theorem dX4_hoursTillLoose_17 : decode cX4_hoursTillLoose 17 = .ok (.invokevirtual 91, 3) := by decide +kernel
theorem dX4_hoursTillLoose_20 : decode cX4_hoursTillLoose 20 = .ok (.iinc 2 1, 3) := by decide +kernel
theorem dX4_hoursTillLoose_23 : decode cX4_hoursTillLoose 23 = .ok (.goto (-21), 3) := by decide +kernel
theorem dX4_hoursTillLoose_26 : decode cX4_hoursTillLoose 26 = .ok (.iload_n 2, 1) := by decide +kernel
theorem dX4_hoursTillLoose_27 : decode cX4_hoursTillLoose 27 = .ok (.ireturn, 1) := by decide +kernel
theorem dX4_countFast_0 : decode cX4_countFast 0 = .ok (.iconst 0, 1) := by decide +kernel
theorem dX4_countFast_1 : decode cX4_countFast 1 = .ok (.istore_n 1, 1) := by decide +kernel
theorem dX4_countFast_2 : decode cX4_countFast 2 = .ok (.iload_n 1, 1) := by decide +kernel
theorem dX4_countFast_3 : decode cX4_countFast 3 = .ok (.iconst 4, 1) := by decide +kernel
theorem dX4_countFast_4 : decode cX4_countFast 4 = .ok (.if_icmp .ge 16, 3) := by decide +kernel
theorem dX4_countFast_7 : decode cX4_countFast 7 = .ok (.aload_n 0, 1) := by decide +kernel
theorem dX4_countFast_8 : decode cX4_countFast 8 = .ok (.getfield 34, 3) := by decide +kernel
theorem dX4_countFast_11 : decode cX4_countFast 11 = .ok (.iload_n 1, 1) := by decide +kernel
theorem dX4_countFast_12 : decode cX4_countFast 12 = .ok (.iconst 0, 1) := by decide +kernel
theorem dX4_countFast_13 : decode cX4_countFast 13 = .ok (.iastore, 1) := by decide +kernel
theorem dX4_countFast_14 : decode cX4_countFast 14 = .ok (.iinc 1 1, 3) := by decide +kernel
theorem dX4_countFast_17 : decode cX4_countFast 17 = .ok (.goto (-15), 3) := by decide +kernel
theorem dX4_countFast_20 : decode cX4_countFast 20 = .ok (.iconst 0, 1) := by decide +kernel
theorem dX4_countFast_21 : decode cX4_countFast 21 = .ok (.istore_n 1, 1) := by decide +kernel
theorem dX4_countFast_22 : decode cX4_countFast 22 = .ok (.iload_n 1, 1) := by decide +kernel
theorem dX4_countFast_23 : decode cX4_countFast 23 = .ok (.aload_n 0, 1) := by decide +kernel
theorem dX4_countFast_24 : decode cX4_countFast 24 = .ok (.getfield 15, 3) := by decide +kernel
theorem dX4_countFast_27 : decode cX4_countFast 27 = .ok (.if_icmp .ge 39, 3) := by decide +kernel
theorem dX4_countFast_30 : decode cX4_countFast 30 = .ok (.aload_n 0, 1) := by decide +kernel
theorem dX4_countFast_31 : decode cX4_countFast 31 = .ok (.getfield 30, 3) := by decide +kernel
theorem dX4_countFast_34 : decode cX4_countFast 34 = .ok (.iload_n 1, 1) := by decide +kernel
theorem dX4_countFast_35 : decode cX4_countFast 35 = .ok (.aaload, 1) := by decide +kernel
theorem dX4_countFast_36 : decode cX4_countFast 36 = .ok (.getfield 59, 3) := by decide +kernel
theorem dX4_countFast_39 : decode cX4_countFast 39 = .ok (.ifCond .eq 21, 3) := by decide +kernel
theorem dX4_countFast_42 : decode cX4_countFast 42 = .ok (.aload_n 0, 1) := by decide +kernel
theorem dX4_countFast_43 : decode cX4_countFast 43 = .ok (.getfield 34, 3) := by decide +kernel
theorem dX4_countFast_46 : decode cX4_countFast 46 = .ok (.aload_n 0, 1) := by decide +kernel
theorem dX4_countFast_47 : decode cX4_countFast 47 = .ok (.getfield 30, 3) := by decide +kernel
theorem dX4_countFast_50 : decode cX4_countFast 50 = .ok (.iload_n 1, 1) := by decide +kernel
theorem dX4_countFast_51 : decode cX4_countFast 51 = .ok (.aaload, 1) := by decide +kernel
theorem dX4_countFast_52 : decode cX4_countFast 52 = .ok (.getfield 56, 3) := by decide +kernel
theorem dX4_countFast_55 : decode cX4_countFast 55 = .ok (.dup2, 1) := by decide +kernel
theorem dX4_countFast_56 : decode cX4_countFast 56 = .ok (.iaload, 1) := by decide +kernel
theorem dX4_countFast_57 : decode cX4_countFast 57 = .ok (.iconst 1, 1) := by decide +kernel
theorem dX4_countFast_58 : decode cX4_countFast 58 = .ok (.iadd, 1) := by decide +kernel
theorem dX4_countFast_59 : decode cX4_countFast 59 = .ok (.iastore, 1) := by decide +kernel
theorem dX4_countFast_60 : decode cX4_countFast 60 = .ok (.iinc 1 1, 3) := by decide +kernel
theorem dX4_countFast_63 : decode cX4_countFast 63 = .ok (.goto (-41), 3) := by decide +kernel
theorem dX4_countFast_66 : decode cX4_countFast 66 = .ok (.return_, 1) := by decide +kernel
theorem dX4_strain_0 : decode cX4_strain 0 = .ok (.aload_n 0, 1) := by decide +kernel
theorem dX4_strain_1 : decode cX4_strain 1 = .ok (.getfield 34, 3) := by decide +kernel
theorem dX4_strain_4 : decode cX4_strain 4 = .ok (.iload_n 1, 1) := by decide +kernel
theorem dX4_strain_5 : decode cX4_strain 5 = .ok (.iaload, 1) := by decide +kernel
theorem dX4_strain_6 : decode cX4_strain 6 = .ok (.istore_n 3, 1) := by decide +kernel
theorem dX4_strain_7 : decode cX4_strain 7 = .ok (.iload_n 3, 1) := by decide +kernel
theorem dX4_strain_8 : decode cX4_strain 8 = .ok (.ifCond .ne 7, 3) := by decide +kernel
theorem dX4_strain_11 : decode cX4_strain 11 = .ok (.iconst 0, 1) := by decide +kernel
theorem dX4_strain_12 : decode cX4_strain 12 = .ok (.goto 15, 3) := by decide +kernel
theorem dX4_strain_15 : decode cX4_strain 15 = .ok (.aload_n 0, 1) := by decide +kernel
theorem dX4_strain_16 : decode cX4_strain 16 = .ok (.getfield 25, 3) := by decide +kernel
theorem dX4_strain_19 : decode cX4_strain 19 = .ok (.iload_n 1, 1) := by decide +kernel
theorem dX4_strain_20 : decode cX4_strain 20 = .ok (.iaload, 1) := by decide +kernel
theorem dX4_strain_21 : decode cX4_strain 21 = .ok (.iconst 3, 1) := by decide +kernel
theorem dX4_strain_22 : decode cX4_strain 22 = .ok (.iload_n 2, 1) := by decide +kernel
theorem dX4_strain_23 : decode cX4_strain 23 = .ok (.imul, 1) := by decide +kernel
theorem dX4_strain_24 : decode cX4_strain 24 = .ok (.iadd, 1) := by decide +kernel
theorem dX4_strain_25 : decode cX4_strain 25 = .ok (.iload_n 3, 1) := by decide +kernel
theorem dX4_strain_26 : decode cX4_strain 26 = .ok (.idiv, 1) := by decide +kernel
theorem dX4_strain_27 : decode cX4_strain 27 = .ok (.ireturn, 1) := by decide +kernel
theorem dX4_heldBy_0 : decode cX4_heldBy 0 = .ok (.aload_n 1, 1) := by decide +kernel
theorem dX4_heldBy_1 : decode cX4_heldBy 1 = .ok (.iload_n 2, 1) := by decide +kernel
theorem dX4_heldBy_2 : decode cX4_heldBy 2 = .ok (.aload_n 0, 1) := by decide +kernel
theorem dX4_heldBy_3 : decode cX4_heldBy 3 = .ok (.getfield 34, 3) := by decide +kernel
theorem dX4_heldBy_6 : decode cX4_heldBy 6 = .ok (.aload_n 1, 1) := by decide +kernel
theorem dX4_heldBy_7 : decode cX4_heldBy 7 = .ok (.getfield 56, 3) := by decide +kernel
theorem dX4_heldBy_10 : decode cX4_heldBy 10 = .ok (.iaload, 1) := by decide +kernel
theorem dX4_heldBy_11 : decode cX4_heldBy 11 = .ok (.iconst 1, 1) := by decide +kernel
theorem dX4_heldBy_12 : decode cX4_heldBy 12 = .ok (.isub, 1) := by decide +kernel
theorem dX4_heldBy_13 : decode cX4_heldBy 13 = .ok (.invokevirtual 108, 3) := by decide +kernel
theorem dX4_heldBy_16 : decode cX4_heldBy 16 = .ok (.ireturn, 1) := by decide +kernel
theorem dX4_letGo_0 : decode cX4_letGo 0 = .ok (.iconst 0, 1) := by decide +kernel
theorem dX4_letGo_1 : decode cX4_letGo 1 = .ok (.istore_n 2, 1) := by decide +kernel
theorem dX4_letGo_2 : decode cX4_letGo 2 = .ok (.iload_n 2, 1) := by decide +kernel
theorem dX4_letGo_3 : decode cX4_letGo 3 = .ok (.aload_n 0, 1) := by decide +kernel
theorem dX4_letGo_4 : decode cX4_letGo 4 = .ok (.getfield 15, 3) := by decide +kernel
theorem dX4_letGo_7 : decode cX4_letGo 7 = .ok (.if_icmp .ge 61, 3) := by decide +kernel
theorem dX4_letGo_10 : decode cX4_letGo 10 = .ok (.aload_n 0, 1) := by decide +kernel
theorem dX4_letGo_11 : decode cX4_letGo 11 = .ok (.getfield 30, 3) := by decide +kernel
theorem dX4_letGo_14 : decode cX4_letGo 14 = .ok (.iload_n 2, 1) := by decide +kernel
theorem dX4_letGo_15 : decode cX4_letGo 15 = .ok (.aaload, 1) := by decide +kernel
theorem dX4_letGo_16 : decode cX4_letGo 16 = .ok (.astore_n 3, 1) := by decide +kernel
theorem dX4_letGo_17 : decode cX4_letGo 17 = .ok (.aload_n 3, 1) := by decide +kernel
theorem dX4_letGo_18 : decode cX4_letGo 18 = .ok (.getfield 59, 3) := by decide +kernel
theorem dX4_letGo_21 : decode cX4_letGo 21 = .ok (.ifCond .eq 41, 3) := by decide +kernel
theorem dX4_letGo_24 : decode cX4_letGo 24 = .ok (.aload_n 0, 1) := by decide +kernel
theorem dX4_letGo_25 : decode cX4_letGo 25 = .ok (.aload_n 3, 1) := by decide +kernel
theorem dX4_letGo_26 : decode cX4_letGo 26 = .ok (.getfield 56, 3) := by decide +kernel
theorem dX4_letGo_29 : decode cX4_letGo 29 = .ok (.invokevirtual 104, 3) := by decide +kernel
theorem dX4_letGo_32 : decode cX4_letGo 32 = .ok (.ifCond .eq 30, 3) := by decide +kernel
theorem dX4_letGo_35 : decode cX4_letGo 35 = .ok (.aload_n 3, 1) := by decide +kernel
theorem dX4_letGo_36 : decode cX4_letGo 36 = .ok (.aload_n 0, 1) := by decide +kernel
theorem dX4_letGo_37 : decode cX4_letGo 37 = .ok (.aload_n 3, 1) := by decide +kernel
theorem dX4_letGo_38 : decode cX4_letGo 38 = .ok (.getfield 56, 3) := by decide +kernel
theorem dX4_letGo_41 : decode cX4_letGo 41 = .ok (.iload_n 1, 1) := by decide +kernel
theorem dX4_letGo_42 : decode cX4_letGo 42 = .ok (.invokevirtual 75, 3) := by decide +kernel
theorem dX4_letGo_45 : decode cX4_letGo 45 = .ok (.aload_n 0, 1) := by decide +kernel
theorem dX4_letGo_46 : decode cX4_letGo 46 = .ok (.aload_n 3, 1) := by decide +kernel
theorem dX4_letGo_47 : decode cX4_letGo 47 = .ok (.iload_n 1, 1) := by decide +kernel
theorem dX4_letGo_48 : decode cX4_letGo 48 = .ok (.invokevirtual 79, 3) := by decide +kernel
theorem dX4_letGo_51 : decode cX4_letGo 51 = .ok (.invokevirtual 87, 3) := by decide +kernel
theorem dX4_letGo_54 : decode cX4_letGo 54 = .ok (.ifCond .eq 8, 3) := by decide +kernel
theorem dX4_letGo_57 : decode cX4_letGo 57 = .ok (.aload_n 3, 1) := by decide +kernel
theorem dX4_letGo_58 : decode cX4_letGo 58 = .ok (.iconst 0, 1) := by decide +kernel
theorem dX4_letGo_59 : decode cX4_letGo 59 = .ok (.putfield 59, 3) := by decide +kernel
theorem dX4_letGo_62 : decode cX4_letGo 62 = .ok (.iinc 2 1, 3) := by decide +kernel
theorem dX4_letGo_65 : decode cX4_letGo 65 = .ok (.goto (-63), 3) := by decide +kernel
theorem dX4_letGo_68 : decode cX4_letGo 68 = .ok (.return_, 1) := by decide +kernel
theorem dX4_dropMasts_0 : decode cX4_dropMasts 0 = .ok (.iconst 0, 1) := by decide +kernel
theorem dX4_dropMasts_1 : decode cX4_dropMasts 1 = .ok (.istore_n 1, 1) := by decide +kernel
theorem dX4_dropMasts_2 : decode cX4_dropMasts 2 = .ok (.iload_n 1, 1) := by decide +kernel
theorem dX4_dropMasts_3 : decode cX4_dropMasts 3 = .ok (.iconst 4, 1) := by decide +kernel
theorem dX4_dropMasts_4 : decode cX4_dropMasts 4 = .ok (.if_icmp .ge 24, 3) := by decide +kernel
theorem dX4_dropMasts_7 : decode cX4_dropMasts 7 = .ok (.aload_n 0, 1) := by decide +kernel
theorem dX4_dropMasts_8 : decode cX4_dropMasts 8 = .ok (.getfield 34, 3) := by decide +kernel
theorem dX4_dropMasts_11 : decode cX4_dropMasts 11 = .ok (.iload_n 1, 1) := by decide +kernel
theorem dX4_dropMasts_12 : decode cX4_dropMasts 12 = .ok (.iaload, 1) := by decide +kernel
theorem dX4_dropMasts_13 : decode cX4_dropMasts 13 = .ok (.ifCond .ne 9, 3) := by decide +kernel
theorem dX4_dropMasts_16 : decode cX4_dropMasts 16 = .ok (.aload_n 0, 1) := by decide +kernel
theorem dX4_dropMasts_17 : decode cX4_dropMasts 17 = .ok (.iload_n 1, 1) := by decide +kernel
theorem dX4_dropMasts_18 : decode cX4_dropMasts 18 = .ok (.iconst 0, 1) := by decide +kernel
theorem dX4_dropMasts_19 : decode cX4_dropMasts 19 = .ok (.invokevirtual 111, 3) := by decide +kernel
theorem dX4_dropMasts_22 : decode cX4_dropMasts 22 = .ok (.iinc 1 1, 3) := by decide +kernel
theorem dX4_dropMasts_25 : decode cX4_dropMasts 25 = .ok (.goto (-23), 3) := by decide +kernel
theorem dX4_dropMasts_28 : decode cX4_dropMasts 28 = .ok (.return_, 1) := by decide +kernel
theorem dX4_settleKnots_0 : decode cX4_settleKnots 0 = .ok (.iconst 0, 1) := by decide +kernel
theorem dX4_settleKnots_1 : decode cX4_settleKnots 1 = .ok (.istore_n 2, 1) := by decide +kernel
theorem dX4_settleKnots_2 : decode cX4_settleKnots 2 = .ok (.iload_n 2, 1) := by decide +kernel
theorem dX4_settleKnots_3 : decode cX4_settleKnots 3 = .ok (.aload_n 0, 1) := by decide +kernel
theorem dX4_settleKnots_4 : decode cX4_settleKnots 4 = .ok (.getfield 15, 3) := by decide +kernel
theorem dX4_settleKnots_7 : decode cX4_settleKnots 7 = .ok (.if_icmp .ge 31, 3) := by decide +kernel
theorem dX4_settleKnots_10 : decode cX4_settleKnots 10 = .ok (.aload_n 0, 1) := by decide +kernel
theorem dX4_settleKnots_11 : decode cX4_settleKnots 11 = .ok (.getfield 30, 3) := by decide +kernel
theorem dX4_settleKnots_14 : decode cX4_settleKnots 14 = .ok (.iload_n 2, 1) := by decide +kernel
theorem dX4_settleKnots_15 : decode cX4_settleKnots 15 = .ok (.aaload, 1) := by decide +kernel
theorem dX4_settleKnots_16 : decode cX4_settleKnots 16 = .ok (.getfield 59, 3) := by decide +kernel
theorem dX4_settleKnots_19 : decode cX4_settleKnots 19 = .ok (.ifCond .eq 13, 3) := by decide +kernel
theorem dX4_settleKnots_22 : decode cX4_settleKnots 22 = .ok (.aload_n 0, 1) := by decide +kernel
theorem dX4_settleKnots_23 : decode cX4_settleKnots 23 = .ok (.getfield 30, 3) := by decide +kernel
theorem dX4_settleKnots_26 : decode cX4_settleKnots 26 = .ok (.iload_n 2, 1) := by decide +kernel
theorem dX4_settleKnots_27 : decode cX4_settleKnots 27 = .ok (.aaload, 1) := by decide +kernel
theorem dX4_settleKnots_28 : decode cX4_settleKnots 28 = .ok (.iload_n 1, 1) := by decide +kernel
theorem dX4_settleKnots_29 : decode cX4_settleKnots 29 = .ok (.invokevirtual 115, 3) := by decide +kernel
theorem dX4_settleKnots_32 : decode cX4_settleKnots 32 = .ok (.iinc 2 1, 3) := by decide +kernel
theorem dX4_settleKnots_35 : decode cX4_settleKnots 35 = .ok (.goto (-33), 3) := by decide +kernel
theorem dX4_settleKnots_38 : decode cX4_settleKnots 38 = .ok (.return_, 1) := by decide +kernel
theorem dJ6_bitCount_0f7a4_0 : decode cJ6_bitCount_0f7a4 0 = .ok (.iload_n 0, 1) := by decide +kernel
theorem dJ6_bitCount_0f7a4_1 : decode cJ6_bitCount_0f7a4 1 = .ok (.iload_n 0, 1) := by decide +kernel
theorem dJ6_bitCount_0f7a4_2 : decode cJ6_bitCount_0f7a4 2 = .ok (.iconst 1, 1) := by decide +kernel
theorem dJ6_bitCount_0f7a4_3 : decode cJ6_bitCount_0f7a4 3 = .ok (.iushr, 1) := by decide +kernel
theorem dJ6_bitCount_0f7a4_4 : decode cJ6_bitCount_0f7a4 4 = .ok (.ldc_w 265, 3) := by decide +kernel
theorem dJ6_bitCount_0f7a4_7 : decode cJ6_bitCount_0f7a4 7 = .ok (.iand, 1) := by decide +kernel
theorem dJ6_bitCount_0f7a4_8 : decode cJ6_bitCount_0f7a4 8 = .ok (.isub, 1) := by decide +kernel
theorem dJ6_bitCount_0f7a4_9 : decode cJ6_bitCount_0f7a4 9 = .ok (.istore_n 0, 1) := by decide +kernel
theorem dJ6_bitCount_0f7a4_10 : decode cJ6_bitCount_0f7a4 10 = .ok (.iload_n 0, 1) := by decide +kernel
theorem dJ6_bitCount_0f7a4_11 : decode cJ6_bitCount_0f7a4 11 = .ok (.ldc_w 266, 3) := by decide +kernel
theorem dJ6_bitCount_0f7a4_14 : decode cJ6_bitCount_0f7a4 14 = .ok (.iand, 1) := by decide +kernel
theorem dJ6_bitCount_0f7a4_15 : decode cJ6_bitCount_0f7a4 15 = .ok (.iload_n 0, 1) := by decide +kernel
theorem dJ6_bitCount_0f7a4_16 : decode cJ6_bitCount_0f7a4 16 = .ok (.iconst 2, 1) := by decide +kernel
theorem dJ6_bitCount_0f7a4_17 : decode cJ6_bitCount_0f7a4 17 = .ok (.iushr, 1) := by decide +kernel
theorem dJ6_bitCount_0f7a4_18 : decode cJ6_bitCount_0f7a4 18 = .ok (.ldc_w 266, 3) := by decide +kernel
theorem dJ6_bitCount_0f7a4_21 : decode cJ6_bitCount_0f7a4 21 = .ok (.iand, 1) := by decide +kernel
theorem dJ6_bitCount_0f7a4_22 : decode cJ6_bitCount_0f7a4 22 = .ok (.iadd, 1) := by decide +kernel
theorem dJ6_bitCount_0f7a4_23 : decode cJ6_bitCount_0f7a4 23 = .ok (.istore_n 0, 1) := by decide +kernel
theorem dJ6_bitCount_0f7a4_24 : decode cJ6_bitCount_0f7a4 24 = .ok (.iload_n 0, 1) := by decide +kernel
theorem dJ6_bitCount_0f7a4_25 : decode cJ6_bitCount_0f7a4 25 = .ok (.iload_n 0, 1) := by decide +kernel
theorem dJ6_bitCount_0f7a4_26 : decode cJ6_bitCount_0f7a4 26 = .ok (.iconst 4, 1) := by decide +kernel
theorem dJ6_bitCount_0f7a4_27 : decode cJ6_bitCount_0f7a4 27 = .ok (.iushr, 1) := by decide +kernel
theorem dJ6_bitCount_0f7a4_28 : decode cJ6_bitCount_0f7a4 28 = .ok (.iadd, 1) := by decide +kernel
theorem dJ6_bitCount_0f7a4_29 : decode cJ6_bitCount_0f7a4 29 = .ok (.ldc_w 267, 3) := by decide +kernel
theorem dJ6_bitCount_0f7a4_32 : decode cJ6_bitCount_0f7a4 32 = .ok (.iand, 1) := by decide +kernel
theorem dJ6_bitCount_0f7a4_33 : decode cJ6_bitCount_0f7a4 33 = .ok (.istore_n 0, 1) := by decide +kernel
theorem dJ6_bitCount_0f7a4_34 : decode cJ6_bitCount_0f7a4 34 = .ok (.iload_n 0, 1) := by decide +kernel
theorem dJ6_bitCount_0f7a4_35 : decode cJ6_bitCount_0f7a4 35 = .ok (.iload_n 0, 1) := by decide +kernel
theorem dJ6_bitCount_0f7a4_36 : decode cJ6_bitCount_0f7a4 36 = .ok (.bipush 8, 2) := by decide +kernel
theorem dJ6_bitCount_0f7a4_38 : decode cJ6_bitCount_0f7a4 38 = .ok (.iushr, 1) := by decide +kernel
theorem dJ6_bitCount_0f7a4_39 : decode cJ6_bitCount_0f7a4 39 = .ok (.iadd, 1) := by decide +kernel
theorem dJ6_bitCount_0f7a4_40 : decode cJ6_bitCount_0f7a4 40 = .ok (.istore_n 0, 1) := by decide +kernel
theorem dJ6_bitCount_0f7a4_41 : decode cJ6_bitCount_0f7a4 41 = .ok (.iload_n 0, 1) := by decide +kernel
theorem dJ6_bitCount_0f7a4_42 : decode cJ6_bitCount_0f7a4 42 = .ok (.iload_n 0, 1) := by decide +kernel
theorem dJ6_bitCount_0f7a4_43 : decode cJ6_bitCount_0f7a4 43 = .ok (.bipush 16, 2) := by decide +kernel
theorem dJ6_bitCount_0f7a4_45 : decode cJ6_bitCount_0f7a4 45 = .ok (.iushr, 1) := by decide +kernel
theorem dJ6_bitCount_0f7a4_46 : decode cJ6_bitCount_0f7a4 46 = .ok (.iadd, 1) := by decide +kernel
theorem dJ6_bitCount_0f7a4_47 : decode cJ6_bitCount_0f7a4 47 = .ok (.istore_n 0, 1) := by decide +kernel
theorem dJ6_bitCount_0f7a4_48 : decode cJ6_bitCount_0f7a4 48 = .ok (.iload_n 0, 1) := by decide +kernel
theorem dJ6_bitCount_0f7a4_49 : decode cJ6_bitCount_0f7a4 49 = .ok (.bipush 63, 2) := by decide +kernel
theorem dJ6_bitCount_0f7a4_51 : decode cJ6_bitCount_0f7a4 51 = .ok (.iand, 1) := by decide +kernel
theorem dJ6_bitCount_0f7a4_52 : decode cJ6_bitCount_0f7a4 52 = .ok (.ireturn, 1) := by decide +kernel
theorem dJ9_max_7cf53_0 : decode cJ9_max_7cf53 0 = .ok (.iload_n 0, 1) := by decide +kernel
theorem dJ9_max_7cf53_1 : decode cJ9_max_7cf53 1 = .ok (.iload_n 1, 1) := by decide +kernel
theorem dJ9_max_7cf53_2 : decode cJ9_max_7cf53 2 = .ok (.if_icmp .lt 7, 3) := by decide +kernel
theorem dJ9_max_7cf53_5 : decode cJ9_max_7cf53 5 = .ok (.iload_n 0, 1) := by decide +kernel
theorem dJ9_max_7cf53_6 : decode cJ9_max_7cf53 6 = .ok (.goto 4, 3) := by decide +kernel
theorem dJ9_max_7cf53_9 : decode cJ9_max_7cf53 9 = .ok (.iload_n 1, 1) := by decide +kernel
theorem dJ9_max_7cf53_10 : decode cJ9_max_7cf53 10 = .ok (.ireturn, 1) := by decide +kernel
theorem dJ9_min_7cf53_0 : decode cJ9_min_7cf53 0 = .ok (.iload_n 0, 1) := by decide +kernel
theorem dJ9_min_7cf53_1 : decode cJ9_min_7cf53 1 = .ok (.iload_n 1, 1) := by decide +kernel
theorem dJ9_min_7cf53_2 : decode cJ9_min_7cf53 2 = .ok (.if_icmp .gt 7, 3) := by decide +kernel
theorem dJ9_min_7cf53_5 : decode cJ9_min_7cf53 5 = .ok (.iload_n 0, 1) := by decide +kernel
theorem dJ9_min_7cf53_6 : decode cJ9_min_7cf53 6 = .ok (.goto 4, 3) := by decide +kernel
theorem dJ9_min_7cf53_9 : decode cJ9_min_7cf53 9 = .ok (.iload_n 1, 1) := by decide +kernel
theorem dJ9_min_7cf53_10 : decode cJ9_min_7cf53 10 = .ok (.ireturn, 1) := by decide +kernel
theorem dJ0_length_8abf5_0 : decode cJ0_length_8abf5 0 = .ok (.aload_n 0, 1) := by decide +kernel
theorem dJ0_length_8abf5_1 : decode cJ0_length_8abf5 1 = .ok (.getfield 9, 3) := by decide +kernel
theorem dJ0_length_8abf5_4 : decode cJ0_length_8abf5 4 = .ok (.arraylength, 1) := by decide +kernel
theorem dJ0_length_8abf5_5 : decode cJ0_length_8abf5 5 = .ok (.aload_n 0, 1) := by decide +kernel
theorem dJ0_length_8abf5_6 : decode cJ0_length_8abf5 6 = .ok (.invokevirtual 335, 3) := by decide +kernel
theorem dJ0_length_8abf5_9 : decode cJ0_length_8abf5 9 = .ok (.ishr, 1) := by decide +kernel
theorem dJ0_length_8abf5_10 : decode cJ0_length_8abf5 10 = .ok (.ireturn, 1) := by decide +kernel
theorem dJ0_charAt_5068e_0 : decode cJ0_charAt_5068e 0 = .ok (.aload_n 0, 1) := by decide +kernel
theorem dJ0_charAt_5068e_1 : decode cJ0_charAt_5068e 1 = .ok (.invokevirtual 492, 3) := by decide +kernel
theorem dJ0_charAt_5068e_4 : decode cJ0_charAt_5068e 4 = .ok (.ifCond .eq 12, 3) := by decide +kernel
theorem dJ0_charAt_5068e_7 : decode cJ0_charAt_5068e 7 = .ok (.aload_n 0, 1) := by decide +kernel
theorem dJ0_charAt_5068e_8 : decode cJ0_charAt_5068e 8 = .ok (.getfield 9, 3) := by decide +kernel
theorem dJ0_charAt_5068e_11 : decode cJ0_charAt_5068e 11 = .ok (.iload_n 1, 1) := by decide +kernel
theorem dJ0_charAt_5068e_12 : decode cJ0_charAt_5068e 12 = .ok (.invokestatic 495, 3) := by decide +kernel
theorem dJ0_charAt_5068e_15 : decode cJ0_charAt_5068e 15 = .ok (.ireturn, 1) := by decide +kernel
theorem dJ0_charAt_5068e_16 : decode cJ0_charAt_5068e 16 = .ok (.aload_n 0, 1) := by decide +kernel
theorem dJ0_charAt_5068e_17 : decode cJ0_charAt_5068e 17 = .ok (.getfield 9, 3) := by decide +kernel
theorem dJ0_charAt_5068e_20 : decode cJ0_charAt_5068e 20 = .ok (.iload_n 1, 1) := by decide +kernel
theorem dJ0_charAt_5068e_21 : decode cJ0_charAt_5068e 21 = .ok (.invokestatic 498, 3) := by decide +kernel
theorem dJ0_charAt_5068e_24 : decode cJ0_charAt_5068e 24 = .ok (.ireturn, 1) := by decide +kernel
theorem dJ0_coder_7d493_0 : decode cJ0_coder_7d493 0 = .ok (.getstatic 38, 3) := by decide +kernel
theorem dJ0_coder_7d493_3 : decode cJ0_coder_7d493 3 = .ok (.ifCond .eq 10, 3) := by decide +kernel
theorem dJ0_coder_7d493_6 : decode cJ0_coder_7d493 6 = .ok (.aload_n 0, 1) := by decide +kernel
theorem dJ0_coder_7d493_7 : decode cJ0_coder_7d493 7 = .ok (.getfield 15, 3) := by decide +kernel
theorem dJ0_coder_7d493_10 : decode cJ0_coder_7d493 10 = .ok (.goto 4, 3) := by decide +kernel
theorem dJ0_coder_7d493_13 : decode cJ0_coder_7d493 13 = .ok (.iconst 1, 1) := by decide +kernel
theorem dJ0_coder_7d493_14 : decode cJ0_coder_7d493 14 = .ok (.ireturn, 1) := by decide +kernel
theorem dJ0_isLatin1_aae02_0 : decode cJ0_isLatin1_aae02 0 = .ok (.getstatic 38, 3) := by decide +kernel
theorem dJ0_isLatin1_aae02_3 : decode cJ0_isLatin1_aae02 3 = .ok (.ifCond .eq 14, 3) := by decide +kernel
theorem dJ0_isLatin1_aae02_6 : decode cJ0_isLatin1_aae02 6 = .ok (.aload_n 0, 1) := by decide +kernel
theorem dJ0_isLatin1_aae02_7 : decode cJ0_isLatin1_aae02 7 = .ok (.getfield 15, 3) := by decide +kernel
theorem dJ0_isLatin1_aae02_10 : decode cJ0_isLatin1_aae02 10 = .ok (.ifCond .ne 7, 3) := by decide +kernel
theorem dJ0_isLatin1_aae02_13 : decode cJ0_isLatin1_aae02 13 = .ok (.iconst 1, 1) := by decide +kernel
theorem dJ0_isLatin1_aae02_14 : decode cJ0_isLatin1_aae02 14 = .ok (.goto 4, 3) := by decide +kernel
theorem dJ0_isLatin1_aae02_17 : decode cJ0_isLatin1_aae02 17 = .ok (.iconst 0, 1) := by decide +kernel
theorem dJ0_isLatin1_aae02_18 : decode cJ0_isLatin1_aae02 18 = .ok (.ireturn, 1) := by decide +kernel
theorem dJ0_checkIndex_df160_0 : decode cJ0_checkIndex_df160 0 = .ok (.iload_n 0, 1) := by decide +kernel
theorem dJ0_checkIndex_df160_1 : decode cJ0_checkIndex_df160 1 = .ok (.iload_n 1, 1) := by decide +kernel
theorem dJ0_checkIndex_df160_2 : decode cJ0_checkIndex_df160 2 = .ok (.getstatic 1053, 3) := by decide +kernel
theorem dJ0_checkIndex_df160_5 : decode cJ0_checkIndex_df160 5 = .ok (.invokestatic 1059, 3) := by decide +kernel
theorem dJ0_checkIndex_df160_8 : decode cJ0_checkIndex_df160 8 = .ok (.pop, 1) := by decide +kernel
theorem dJ0_checkIndex_df160_9 : decode cJ0_checkIndex_df160 9 = .ok (.return_, 1) := by decide +kernel
theorem dJ1_charAt_3b067_0 : decode cJ1_charAt_3b067 0 = .ok (.iload_n 1, 1) := by decide +kernel
theorem dJ1_charAt_3b067_1 : decode cJ1_charAt_3b067 1 = .ok (.aload_n 0, 1) := by decide +kernel
theorem dJ1_charAt_3b067_2 : decode cJ1_charAt_3b067 2 = .ok (.arraylength, 1) := by decide +kernel
theorem dJ1_charAt_3b067_3 : decode cJ1_charAt_3b067 3 = .ok (.invokestatic 9, 3) := by decide +kernel
theorem dJ1_charAt_3b067_6 : decode cJ1_charAt_3b067 6 = .ok (.aload_n 0, 1) := by decide +kernel
theorem dJ1_charAt_3b067_7 : decode cJ1_charAt_3b067 7 = .ok (.iload_n 1, 1) := by decide +kernel
theorem dJ1_charAt_3b067_8 : decode cJ1_charAt_3b067 8 = .ok (.baload, 1) := by decide +kernel
theorem dJ1_charAt_3b067_9 : decode cJ1_charAt_3b067 9 = .ok (.sipush 255, 3) := by decide +kernel
theorem dJ1_charAt_3b067_12 : decode cJ1_charAt_3b067 12 = .ok (.iand, 1) := by decide +kernel
theorem dJ1_charAt_3b067_13 : decode cJ1_charAt_3b067 13 = .ok (.i2c, 1) := by decide +kernel
theorem dJ1_charAt_3b067_14 : decode cJ1_charAt_3b067 14 = .ok (.ireturn, 1) := by decide +kernel
theorem dJ2_getChar_3b067_0 : decode cJ2_getChar_3b067 0 = .ok (.getstatic 44, 3) := by decide +kernel
theorem dJ2_getChar_3b067_3 : decode cJ2_getChar_3b067 3 = .ok (.ifCond .ne 25, 3) := by decide +kernel
theorem dJ2_getChar_3b067_6 : decode cJ2_getChar_3b067 6 = .ok (.iload_n 1, 1) := by decide +kernel
theorem dJ2_getChar_3b067_7 : decode cJ2_getChar_3b067 7 = .ok (.ifCond .lt 11, 3) := by decide +kernel
theorem dJ2_getChar_3b067_10 : decode cJ2_getChar_3b067 10 = .ok (.iload_n 1, 1) := by decide +kernel
theorem dJ2_getChar_3b067_11 : decode cJ2_getChar_3b067 11 = .ok (.aload_n 0, 1) := by decide +kernel
theorem dJ2_getChar_3b067_12 : decode cJ2_getChar_3b067 12 = .ok (.invokestatic 48, 3) := by decide +kernel
theorem dJ2_getChar_3b067_15 : decode cJ2_getChar_3b067 15 = .ok (.if_icmp .lt 13, 3) := by decide +kernel
theorem dJ2_getChar_3b067_18 : decode cJ2_getChar_3b067 18 = .ok (.new 52, 3) := by decide +kernel
theorem dJ2_getChar_3b067_21 : decode cJ2_getChar_3b067 21 = .ok (.dup, 1) := by decide +kernel
theorem dJ2_getChar_3b067_22 : decode cJ2_getChar_3b067 22 = .ok (.ldc 54, 2) := by decide +kernel
theorem dJ2_getChar_3b067_24 : decode cJ2_getChar_3b067 24 = .ok (.invokespecial 56, 3) := by decide +kernel
theorem dJ2_getChar_3b067_27 : decode cJ2_getChar_3b067 27 = .ok (.athrow, 1) := by decide +kernel
theorem dJ2_getChar_3b067_28 : decode cJ2_getChar_3b067 28 = .ok (.iload_n 1, 1) := by decide +kernel
theorem dJ2_getChar_3b067_29 : decode cJ2_getChar_3b067 29 = .ok (.iconst 1, 1) := by decide +kernel
theorem dJ2_getChar_3b067_30 : decode cJ2_getChar_3b067 30 = .ok (.ishl, 1) := by decide +kernel
theorem dJ2_getChar_3b067_31 : decode cJ2_getChar_3b067 31 = .ok (.istore_n 1, 1) := by decide +kernel
theorem dJ2_getChar_3b067_32 : decode cJ2_getChar_3b067 32 = .ok (.aload_n 0, 1) := by decide +kernel
theorem dJ2_getChar_3b067_33 : decode cJ2_getChar_3b067 33 = .ok (.iload_n 1, 1) := by decide +kernel
theorem dJ2_getChar_3b067_34 : decode cJ2_getChar_3b067 34 = .ok (.iinc 1 1, 3) := by decide +kernel
theorem dJ2_getChar_3b067_37 : decode cJ2_getChar_3b067 37 = .ok (.baload, 1) := by decide +kernel
theorem dJ2_getChar_3b067_38 : decode cJ2_getChar_3b067 38 = .ok (.sipush 255, 3) := by decide +kernel
theorem dJ2_getChar_3b067_41 : decode cJ2_getChar_3b067 41 = .ok (.iand, 1) := by decide +kernel
theorem dJ2_getChar_3b067_42 : decode cJ2_getChar_3b067 42 = .ok (.getstatic 59, 3) := by decide +kernel
theorem dJ2_getChar_3b067_45 : decode cJ2_getChar_3b067 45 = .ok (.ishl, 1) := by decide +kernel
theorem dJ2_getChar_3b067_46 : decode cJ2_getChar_3b067 46 = .ok (.aload_n 0, 1) := by decide +kernel
theorem dJ2_getChar_3b067_47 : decode cJ2_getChar_3b067 47 = .ok (.iload_n 1, 1) := by decide +kernel
theorem dJ2_getChar_3b067_48 : decode cJ2_getChar_3b067 48 = .ok (.baload, 1) := by decide +kernel
theorem dJ2_getChar_3b067_49 : decode cJ2_getChar_3b067 49 = .ok (.sipush 255, 3) := by decide +kernel
theorem dJ2_getChar_3b067_52 : decode cJ2_getChar_3b067 52 = .ok (.iand, 1) := by decide +kernel
theorem dJ2_getChar_3b067_53 : decode cJ2_getChar_3b067 53 = .ok (.getstatic 63, 3) := by decide +kernel
theorem dJ2_getChar_3b067_56 : decode cJ2_getChar_3b067 56 = .ok (.ishl, 1) := by decide +kernel
theorem dJ2_getChar_3b067_57 : decode cJ2_getChar_3b067 57 = .ok (.ior, 1) := by decide +kernel
theorem dJ2_getChar_3b067_58 : decode cJ2_getChar_3b067 58 = .ok (.i2c, 1) := by decide +kernel
theorem dJ2_getChar_3b067_59 : decode cJ2_getChar_3b067 59 = .ok (.ireturn, 1) := by decide +kernel
theorem dJ2_length_9d52b_0 : decode cJ2_length_9d52b 0 = .ok (.aload_n 0, 1) := by decide +kernel
theorem dJ2_length_9d52b_1 : decode cJ2_length_9d52b 1 = .ok (.arraylength, 1) := by decide +kernel
theorem dJ2_length_9d52b_2 : decode cJ2_length_9d52b 2 = .ok (.iconst 1, 1) := by decide +kernel
theorem dJ2_length_9d52b_3 : decode cJ2_length_9d52b 3 = .ok (.ishr, 1) := by decide +kernel
theorem dJ2_length_9d52b_4 : decode cJ2_length_9d52b 4 = .ok (.ireturn, 1) := by decide +kernel
theorem dJ2_charAt_3b067_0 : decode cJ2_charAt_3b067 0 = .ok (.iload_n 1, 1) := by decide +kernel
theorem dJ2_charAt_3b067_1 : decode cJ2_charAt_3b067 1 = .ok (.aload_n 0, 1) := by decide +kernel
theorem dJ2_charAt_3b067_2 : decode cJ2_charAt_3b067 2 = .ok (.invokestatic 67, 3) := by decide +kernel
theorem dJ2_charAt_3b067_5 : decode cJ2_charAt_3b067 5 = .ok (.aload_n 0, 1) := by decide +kernel
theorem dJ2_charAt_3b067_6 : decode cJ2_charAt_3b067 6 = .ok (.iload_n 1, 1) := by decide +kernel
theorem dJ2_charAt_3b067_7 : decode cJ2_charAt_3b067 7 = .ok (.invokestatic 71, 3) := by decide +kernel
theorem dJ2_charAt_3b067_10 : decode cJ2_charAt_3b067 10 = .ok (.ireturn, 1) := by decide +kernel
theorem dJ2_checkIndex_2214a_0 : decode cJ2_checkIndex_2214a 0 = .ok (.iload_n 0, 1) := by decide +kernel
theorem dJ2_checkIndex_2214a_1 : decode cJ2_checkIndex_2214a 1 = .ok (.aload_n 1, 1) := by decide +kernel
theorem dJ2_checkIndex_2214a_2 : decode cJ2_checkIndex_2214a 2 = .ok (.invokestatic 48, 3) := by decide +kernel
theorem dJ2_checkIndex_2214a_5 : decode cJ2_checkIndex_2214a 5 = .ok (.invokestatic 414, 3) := by decide +kernel
theorem dJ2_checkIndex_2214a_8 : decode cJ2_checkIndex_2214a 8 = .ok (.return_, 1) := by decide +kernel
theorem dJ3_checkIndex_8e157_0 : decode cJ3_checkIndex_8e157 0 = .ok (.iload_n 0, 1) := by decide +kernel
theorem dJ3_checkIndex_8e157_1 : decode cJ3_checkIndex_8e157 1 = .ok (.ifCond .lt 8, 3) := by decide +kernel
theorem dJ3_checkIndex_8e157_4 : decode cJ3_checkIndex_8e157 4 = .ok (.iload_n 0, 1) := by decide +kernel
theorem dJ3_checkIndex_8e157_5 : decode cJ3_checkIndex_8e157 5 = .ok (.iload_n 1, 1) := by decide +kernel
theorem dJ3_checkIndex_8e157_6 : decode cJ3_checkIndex_8e157 6 = .ok (.if_icmp .lt 10, 3) := by decide +kernel
theorem dJ3_checkIndex_8e157_9 : decode cJ3_checkIndex_8e157 9 = .ok (.aload_n 2, 1) := by decide +kernel
theorem dJ3_checkIndex_8e157_10 : decode cJ3_checkIndex_8e157 10 = .ok (.iload_n 0, 1) := by decide +kernel
theorem dJ3_checkIndex_8e157_11 : decode cJ3_checkIndex_8e157 11 = .ok (.iload_n 1, 1) := by decide +kernel
theorem dJ3_checkIndex_8e157_12 : decode cJ3_checkIndex_8e157 12 = .ok (.invokestatic 95, 3) := by decide +kernel
theorem dJ3_checkIndex_8e157_15 : decode cJ3_checkIndex_8e157 15 = .ok (.athrow, 1) := by decide +kernel
theorem dJ3_checkIndex_8e157_16 : decode cJ3_checkIndex_8e157 16 = .ok (.iload_n 0, 1) := by decide +kernel
theorem dJ3_checkIndex_8e157_17 : decode cJ3_checkIndex_8e157 17 = .ok (.ireturn, 1) := by decide +kernel
