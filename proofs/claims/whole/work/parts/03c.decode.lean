theorem dX6_init_0 : decode cX6_init 0 = .ok (.aload_n 0, 1) := by decide +kernel
theorem dX6_init_1 : decode cX6_init 1 = .ok (.invokespecial 1, 3) := by decide +kernel
theorem dX6_init_4 : decode cX6_init 4 = .ok (.aload_n 0, 1) := by decide +kernel
theorem dX6_init_5 : decode cX6_init 5 = .ok (.bipush 72, 2) := by decide +kernel
theorem dX6_init_7 : decode cX6_init 7 = .ok (.newarray .int, 2) := by decide +kernel
theorem dX6_init_9 : decode cX6_init 9 = .ok (.putfield 7, 3) := by decide +kernel
theorem dX6_init_12 : decode cX6_init 12 = .ok (.aload_n 0, 1) := by decide +kernel
theorem dX6_init_13 : decode cX6_init 13 = .ok (.bipush 7, 2) := by decide +kernel
theorem dX6_init_15 : decode cX6_init 15 = .ok (.newarray .int, 2) := by decide +kernel
theorem dX6_init_17 : decode cX6_init 17 = .ok (.putfield 13, 3) := by decide +kernel
theorem dX6_init_20 : decode cX6_init 20 = .ok (.aload_n 0, 1) := by decide +kernel
theorem dX6_init_21 : decode cX6_init 21 = .ok (.bipush 72, 2) := by decide +kernel
theorem dX6_init_23 : decode cX6_init 23 = .ok (.newarray .int, 2) := by decide +kernel
theorem dX6_init_25 : decode cX6_init 25 = .ok (.putfield 16, 3) := by decide +kernel
theorem dX6_init_28 : decode cX6_init 28 = .ok (.aload_n 0, 1) := by decide +kernel
theorem dX6_init_29 : decode cX6_init 29 = .ok (.bipush 72, 2) := by decide +kernel
theorem dX6_init_31 : decode cX6_init 31 = .ok (.newarray .int, 2) := by decide +kernel
theorem dX6_init_33 : decode cX6_init 33 = .ok (.putfield 19, 3) := by decide +kernel
theorem dX6_init_36 : decode cX6_init 36 = .ok (.aload_n 0, 1) := by decide +kernel
theorem dX6_init_37 : decode cX6_init 37 = .ok (.bipush 120, 2) := by decide +kernel
theorem dX6_init_39 : decode cX6_init 39 = .ok (.newarray .int, 2) := by decide +kernel
theorem dX6_init_41 : decode cX6_init 41 = .ok (.putfield 22, 3) := by decide +kernel
theorem dX6_init_44 : decode cX6_init 44 = .ok (.aload_n 0, 1) := by decide +kernel
theorem dX6_init_45 : decode cX6_init 45 = .ok (.iconst 4, 1) := by decide +kernel
theorem dX6_init_46 : decode cX6_init 46 = .ok (.newarray .int, 2) := by decide +kernel
theorem dX6_init_48 : decode cX6_init 48 = .ok (.putfield 25, 3) := by decide +kernel
theorem dX6_init_51 : decode cX6_init 51 = .ok (.aload_n 0, 1) := by decide +kernel
theorem dX6_init_52 : decode cX6_init 52 = .ok (.iconst 4, 1) := by decide +kernel
theorem dX6_init_53 : decode cX6_init 53 = .ok (.newarray .int, 2) := by decide +kernel
theorem dX6_init_55 : decode cX6_init 55 = .ok (.putfield 28, 3) := by decide +kernel
theorem dX6_init_58 : decode cX6_init 58 = .ok (.aload_n 0, 1) := by decide +kernel
theorem dX6_init_59 : decode cX6_init 59 = .ok (.sipush 160, 3) := by decide +kernel
theorem dX6_init_62 : decode cX6_init 62 = .ok (.newarray .long, 2) := by decide +kernel
theorem dX6_init_64 : decode cX6_init 64 = .ok (.putfield 31, 3) := by decide +kernel
theorem dX6_init_67 : decode cX6_init 67 = .ok (.aload_n 0, 1) := by decide +kernel
theorem dX6_init_68 : decode cX6_init 68 = .ok (.bipush 40, 2) := by decide +kernel
theorem dX6_init_70 : decode cX6_init 70 = .ok (.newarray .long, 2) := by decide +kernel
theorem dX6_init_72 : decode cX6_init 72 = .ok (.putfield 35, 3) := by decide +kernel
theorem dX6_init_75 : decode cX6_init 75 = .ok (.aload_n 0, 1) := by decide +kernel
theorem dX6_init_76 : decode cX6_init 76 = .ok (.bipush 72, 2) := by decide +kernel
theorem dX6_init_78 : decode cX6_init 78 = .ok (.newarray .int, 2) := by decide +kernel
theorem dX6_init_80 : decode cX6_init 80 = .ok (.putfield 38, 3) := by decide +kernel
theorem dX6_init_83 : decode cX6_init 83 = .ok (.aload_n 0, 1) := by decide +kernel
theorem dX6_init_84 : decode cX6_init 84 = .ok (.bipush 72, 2) := by decide +kernel
theorem dX6_init_86 : decode cX6_init 86 = .ok (.newarray .int, 2) := by decide +kernel
theorem dX6_init_88 : decode cX6_init 88 = .ok (.putfield 41, 3) := by decide +kernel
theorem dX6_init_91 : decode cX6_init 91 = .ok (.iconst 0, 1) := by decide +kernel
theorem dX6_init_92 : decode cX6_init 92 = .ok (.istore_n 1, 1) := by decide +kernel
theorem dX6_init_93 : decode cX6_init 93 = .ok (.iload_n 1, 1) := by decide +kernel
theorem dX6_init_94 : decode cX6_init 94 = .ok (.bipush 12, 2) := by decide +kernel
theorem dX6_init_96 : decode cX6_init 96 = .ok (.if_icmp .ge 24, 3) := by decide +kernel
theorem dX6_init_99 : decode cX6_init 99 = .ok (.aload_n 0, 1) := by decide +kernel
theorem dX6_init_100 : decode cX6_init 100 = .ok (.getfield 7, 3) := by decide +kernel
theorem dX6_init_103 : decode cX6_init 103 = .ok (.iconst 2, 1) := by decide +kernel
theorem dX6_init_104 : decode cX6_init 104 = .ok (.iload_n 1, 1) := by decide +kernel
theorem dX6_init_105 : decode cX6_init 105 = .ok (.iadd, 1) := by decide +kernel
theorem dX6_init_106 : decode cX6_init 106 = .ok (.bipush 7, 2) := by decide +kernel
theorem dX6_init_108 : decode cX6_init 108 = .ok (.iload_n 1, 1) := by decide +kernel
theorem dX6_init_109 : decode cX6_init 109 = .ok (.imul, 1) := by decide +kernel
theorem dX6_init_110 : decode cX6_init 110 = .ok (.bipush 30, 2) := by decide +kernel
theorem dX6_init_112 : decode cX6_init 112 = .ok (.irem, 1) := by decide +kernel
theorem dX6_init_113 : decode cX6_init 113 = .ok (.iastore, 1) := by decide +kernel
theorem dX6_init_114 : decode cX6_init 114 = .ok (.iinc 1 1, 3) := by decide +kernel
theorem dX6_init_117 : decode cX6_init 117 = .ok (.goto (-24), 3) := by decide +kernel
theorem dX6_init_120 : decode cX6_init 120 = .ok (.iconst 0, 1) := by decide +kernel
theorem dX6_init_121 : decode cX6_init 121 = .ok (.istore_n 1, 1) := by decide +kernel
theorem dX6_init_122 : decode cX6_init 122 = .ok (.iload_n 1, 1) := by decide +kernel
theorem dX6_init_123 : decode cX6_init 123 = .ok (.iconst 4, 1) := by decide +kernel
theorem dX6_init_124 : decode cX6_init 124 = .ok (.if_icmp .ge 24, 3) := by decide +kernel
theorem dX6_init_127 : decode cX6_init 127 = .ok (.aload_n 0, 1) := by decide +kernel
theorem dX6_init_128 : decode cX6_init 128 = .ok (.iload_n 1, 1) := by decide +kernel
theorem dX6_init_129 : decode cX6_init 129 = .ok (.iconst 0, 1) := by decide +kernel
theorem dX6_init_130 : decode cX6_init 130 = .ok (.bipush 100, 2) := by decide +kernel
theorem dX6_init_132 : decode cX6_init 132 = .ok (.invokevirtual 44, 3) := by decide +kernel
theorem dX6_init_135 : decode cX6_init 135 = .ok (.aload_n 0, 1) := by decide +kernel
theorem dX6_init_136 : decode cX6_init 136 = .ok (.iload_n 1, 1) := by decide +kernel
theorem dX6_init_137 : decode cX6_init 137 = .ok (.iconst 1, 1) := by decide +kernel
theorem dX6_init_138 : decode cX6_init 138 = .ok (.iconst 1, 1) := by decide +kernel
theorem dX6_init_139 : decode cX6_init 139 = .ok (.invokevirtual 44, 3) := by decide +kernel
theorem dX6_init_142 : decode cX6_init 142 = .ok (.iinc 1 1, 3) := by decide +kernel
theorem dX6_init_145 : decode cX6_init 145 = .ok (.goto (-23), 3) := by decide +kernel
theorem dX6_init_148 : decode cX6_init 148 = .ok (.return_, 1) := by decide +kernel
theorem dX6_in_0 : decode cX6_in 0 = .ok (.iload_n 0, 1) := by decide +kernel
theorem dX6_in_1 : decode cX6_in 1 = .ok (.iload_n 1, 1) := by decide +kernel
theorem dX6_in_2 : decode cX6_in 2 = .ok (.if_icmp .lt 12, 3) := by decide +kernel
theorem dX6_in_5 : decode cX6_in 5 = .ok (.iload_n 0, 1) := by decide +kernel
theorem dX6_in_6 : decode cX6_in 6 = .ok (.iload_n 2, 1) := by decide +kernel
theorem dX6_in_7 : decode cX6_in 7 = .ok (.if_icmp .gt 7, 3) := by decide +kernel
theorem dX6_in_10 : decode cX6_in 10 = .ok (.iconst 1, 1) := by decide +kernel
theorem dX6_in_11 : decode cX6_in 11 = .ok (.goto 4, 3) := by decide +kernel
theorem dX6_in_14 : decode cX6_in 14 = .ok (.iconst 0, 1) := by decide +kernel
theorem dX6_in_15 : decode cX6_in 15 = .ok (.ireturn, 1) := by decide +kernel
theorem dX6_finds_0 : decode cX6_finds 0 = .ok (.aload_n 0, 1) := by decide +kernel
theorem dX6_finds_1 : decode cX6_finds 1 = .ok (.getfield 13, 3) := by decide +kernel
theorem dX6_finds_4 : decode cX6_finds 4 = .ok (.ldc 48, 2) := by decide +kernel
theorem dX6_finds_6 : decode cX6_finds 6 = .ok (.iload_n 1, 1) := by decide +kernel
theorem dX6_finds_7 : decode cX6_finds 7 = .ok (.isub, 1) := by decide +kernel
theorem dX6_finds_8 : decode cX6_finds 8 = .ok (.dup2, 1) := by decide +kernel
theorem dX6_finds_9 : decode cX6_finds 9 = .ok (.iaload, 1) := by decide +kernel
theorem dX6_finds_10 : decode cX6_finds 10 = .ok (.iconst 1, 1) := by decide +kernel
theorem dX6_finds_11 : decode cX6_finds 11 = .ok (.iadd, 1) := by decide +kernel
theorem dX6_finds_12 : decode cX6_finds 12 = .ok (.iastore, 1) := by decide +kernel
theorem dX6_finds_13 : decode cX6_finds 13 = .ok (.iload_n 1, 1) := by decide +kernel
theorem dX6_finds_14 : decode cX6_finds 14 = .ok (.ireturn, 1) := by decide +kernel
theorem dX6_held_0 : decode cX6_held 0 = .ok (.iload_n 0, 1) := by decide +kernel
theorem dX6_held_1 : decode cX6_held 1 = .ok (.iload_n 1, 1) := by decide +kernel
theorem dX6_held_2 : decode cX6_held 2 = .ok (.if_icmp .ge 7, 3) := by decide +kernel
theorem dX6_held_5 : decode cX6_held 5 = .ok (.iload_n 1, 1) := by decide +kernel
theorem dX6_held_6 : decode cX6_held 6 = .ok (.goto 13, 3) := by decide +kernel
theorem dX6_held_9 : decode cX6_held 9 = .ok (.iload_n 0, 1) := by decide +kernel
theorem dX6_held_10 : decode cX6_held 10 = .ok (.iload_n 2, 1) := by decide +kernel
theorem dX6_held_11 : decode cX6_held 11 = .ok (.if_icmp .le 7, 3) := by decide +kernel
theorem dX6_held_14 : decode cX6_held 14 = .ok (.iload_n 2, 1) := by decide +kernel
theorem dX6_held_15 : decode cX6_held 15 = .ok (.goto 4, 3) := by decide +kernel
theorem dX6_held_18 : decode cX6_held 18 = .ok (.iload_n 0, 1) := by decide +kernel
theorem dX6_held_19 : decode cX6_held 19 = .ok (.ireturn, 1) := by decide +kernel
theorem dX6_its_0 : decode cX6_its 0 = .ok (.aload_n 0, 1) := by decide +kernel
theorem dX6_its_1 : decode cX6_its 1 = .ok (.getfield 7, 3) := by decide +kernel
theorem dX6_its_4 : decode cX6_its 4 = .ok (.bipush 22, 2) := by decide +kernel
theorem dX6_its_6 : decode cX6_its 6 = .ok (.iconst 5, 1) := by decide +kernel
theorem dX6_its_7 : decode cX6_its 7 = .ok (.iload_n 1, 1) := by decide +kernel
theorem dX6_its_8 : decode cX6_its 8 = .ok (.imul, 1) := by decide +kernel
theorem dX6_its_9 : decode cX6_its 9 = .ok (.iadd, 1) := by decide +kernel
theorem dX6_its_10 : decode cX6_its 10 = .ok (.iload_n 2, 1) := by decide +kernel
theorem dX6_its_11 : decode cX6_its 11 = .ok (.iadd, 1) := by decide +kernel
theorem dX6_its_12 : decode cX6_its 12 = .ok (.iaload, 1) := by decide +kernel
theorem dX6_its_13 : decode cX6_its 13 = .ok (.ireturn, 1) := by decide +kernel
theorem dX6_puts_0 : decode cX6_puts 0 = .ok (.aload_n 0, 1) := by decide +kernel
theorem dX6_puts_1 : decode cX6_puts 1 = .ok (.getfield 7, 3) := by decide +kernel
theorem dX6_puts_4 : decode cX6_puts 4 = .ok (.bipush 22, 2) := by decide +kernel
theorem dX6_puts_6 : decode cX6_puts 6 = .ok (.iconst 5, 1) := by decide +kernel
theorem dX6_puts_7 : decode cX6_puts 7 = .ok (.iload_n 1, 1) := by decide +kernel
theorem dX6_puts_8 : decode cX6_puts 8 = .ok (.imul, 1) := by decide +kernel
theorem dX6_puts_9 : decode cX6_puts 9 = .ok (.iadd, 1) := by decide +kernel
theorem dX6_puts_10 : decode cX6_puts 10 = .ok (.iload_n 2, 1) := by decide +kernel
theorem dX6_puts_11 : decode cX6_puts 11 = .ok (.iadd, 1) := by decide +kernel
theorem dX6_puts_12 : decode cX6_puts 12 = .ok (.iload_n 3, 1) := by decide +kernel
theorem dX6_puts_13 : decode cX6_puts 13 = .ok (.iastore, 1) := by decide +kernel
theorem dX6_puts_14 : decode cX6_puts 14 = .ok (.return_, 1) := by decide +kernel
theorem dX6_ofMast_0 : decode cX6_ofMast 0 = .ok (.aload_n 0, 1) := by decide +kernel
theorem dX6_ofMast_1 : decode cX6_ofMast 1 = .ok (.getfield 7, 3) := by decide +kernel
theorem dX6_ofMast_4 : decode cX6_ofMast 4 = .ok (.bipush 14, 2) := by decide +kernel
theorem dX6_ofMast_6 : decode cX6_ofMast 6 = .ok (.iconst 2, 1) := by decide +kernel
theorem dX6_ofMast_7 : decode cX6_ofMast 7 = .ok (.iload_n 1, 1) := by decide +kernel
theorem dX6_ofMast_8 : decode cX6_ofMast 8 = .ok (.imul, 1) := by decide +kernel
theorem dX6_ofMast_9 : decode cX6_ofMast 9 = .ok (.iadd, 1) := by decide +kernel
theorem dX6_ofMast_10 : decode cX6_ofMast 10 = .ok (.iload_n 2, 1) := by decide +kernel
theorem dX6_ofMast_11 : decode cX6_ofMast 11 = .ok (.iadd, 1) := by decide +kernel
theorem dX6_ofMast_12 : decode cX6_ofMast 12 = .ok (.iaload, 1) := by decide +kernel
theorem dX6_ofMast_13 : decode cX6_ofMast 13 = .ok (.ireturn, 1) := by decide +kernel
theorem dX6_puts1_0 : decode cX6_puts1 0 = .ok (.aload_n 0, 1) := by decide +kernel
theorem dX6_puts1_1 : decode cX6_puts1 1 = .ok (.getfield 7, 3) := by decide +kernel
theorem dX6_puts1_4 : decode cX6_puts1 4 = .ok (.bipush 14, 2) := by decide +kernel
theorem dX6_puts1_6 : decode cX6_puts1 6 = .ok (.iconst 2, 1) := by decide +kernel
theorem dX6_puts1_7 : decode cX6_puts1 7 = .ok (.iload_n 1, 1) := by decide +kernel
theorem dX6_puts1_8 : decode cX6_puts1 8 = .ok (.imul, 1) := by decide +kernel
theorem dX6_puts1_9 : decode cX6_puts1 9 = .ok (.iadd, 1) := by decide +kernel
theorem dX6_puts1_10 : decode cX6_puts1 10 = .ok (.iload_n 2, 1) := by decide +kernel
theorem dX6_puts1_11 : decode cX6_puts1 11 = .ok (.iadd, 1) := by decide +kernel
theorem dX6_puts1_12 : decode cX6_puts1 12 = .ok (.iload_n 3, 1) := by decide +kernel
theorem dX6_puts1_13 : decode cX6_puts1 13 = .ok (.iastore, 1) := by decide +kernel
theorem dX6_puts1_14 : decode cX6_puts1 14 = .ok (.return_, 1) := by decide +kernel
theorem dX6_becomes_0 : decode cX6_becomes 0 = .ok (.aload_n 0, 1) := by decide +kernel
theorem dX6_becomes_1 : decode cX6_becomes 1 = .ok (.getfield 7, 3) := by decide +kernel
theorem dX6_becomes_4 : decode cX6_becomes 4 = .ok (.iload_n 1, 1) := by decide +kernel
theorem dX6_becomes_5 : decode cX6_becomes 5 = .ok (.iaload, 1) := by decide +kernel
theorem dX6_becomes_6 : decode cX6_becomes 6 = .ok (.istore_n 3, 1) := by decide +kernel
theorem dX6_becomes_7 : decode cX6_becomes 7 = .ok (.aload_n 0, 1) := by decide +kernel
theorem dX6_becomes_8 : decode cX6_becomes 8 = .ok (.getfield 7, 3) := by decide +kernel
theorem dX6_becomes_11 : decode cX6_becomes 11 = .ok (.iload_n 1, 1) := by decide +kernel
theorem dX6_becomes_12 : decode cX6_becomes 12 = .ok (.iload_n 2, 1) := by decide +kernel
theorem dX6_becomes_13 : decode cX6_becomes 13 = .ok (.iastore, 1) := by decide +kernel
theorem dX6_becomes_14 : decode cX6_becomes 14 = .ok (.iload_n 3, 1) := by decide +kernel
theorem dX6_becomes_15 : decode cX6_becomes 15 = .ok (.ireturn, 1) := by decide +kernel
theorem dX6_isOne_0 : decode cX6_isOne 0 = .ok (.iload_n 1, 1) := by decide +kernel
theorem dX6_isOne_1 : decode cX6_isOne 1 = .ok (.iconst 0, 1) := by decide +kernel
theorem dX6_isOne_2 : decode cX6_isOne 2 = .ok (.aload_n 0, 1) := by decide +kernel
theorem dX6_isOne_3 : decode cX6_isOne 3 = .ok (.getfield 7, 3) := by decide +kernel
theorem dX6_isOne_6 : decode cX6_isOne 6 = .ok (.iconst 1, 1) := by decide +kernel
theorem dX6_isOne_7 : decode cX6_isOne 7 = .ok (.iaload, 1) := by decide +kernel
theorem dX6_isOne_8 : decode cX6_isOne 8 = .ok (.iconst 1, 1) := by decide +kernel
theorem dX6_isOne_9 : decode cX6_isOne 9 = .ok (.isub, 1) := by decide +kernel
theorem dX6_isOne_10 : decode cX6_isOne 10 = .ok (.invokestatic 49, 3) := by decide +kernel
theorem dX6_isOne_13 : decode cX6_isOne 13 = .ok (.ireturn, 1) := by decide +kernel
theorem dX6_isKind_0 : decode cX6_isKind 0 = .ok (.iload_n 0, 1) := by decide +kernel
theorem dX6_isKind_1 : decode cX6_isKind 1 = .ok (.iconst 0, 1) := by decide +kernel
theorem dX6_isKind_2 : decode cX6_isKind 2 = .ok (.iconst 5, 1) := by decide +kernel
theorem dX6_isKind_3 : decode cX6_isKind 3 = .ok (.invokestatic 49, 3) := by decide +kernel
theorem dX6_isKind_6 : decode cX6_isKind 6 = .ok (.ireturn, 1) := by decide +kernel
theorem dX6_isMast_0 : decode cX6_isMast 0 = .ok (.iload_n 0, 1) := by decide +kernel
theorem dX6_isMast_1 : decode cX6_isMast 1 = .ok (.iconst 0, 1) := by decide +kernel
theorem dX6_isMast_2 : decode cX6_isMast 2 = .ok (.iconst 3, 1) := by decide +kernel
theorem dX6_isMast_3 : decode cX6_isMast 3 = .ok (.invokestatic 49, 3) := by decide +kernel
theorem dX6_isMast_6 : decode cX6_isMast 6 = .ok (.ireturn, 1) := by decide +kernel
theorem dX6_bits_0 : decode cX6_bits 0 = .ok (.iconst 0, 1) := by decide +kernel
theorem dX6_bits_1 : decode cX6_bits 1 = .ok (.istore_n 1, 1) := by decide +kernel
theorem dX6_bits_2 : decode cX6_bits 2 = .ok (.iload_n 0, 1) := by decide +kernel
theorem dX6_bits_3 : decode cX6_bits 3 = .ok (.istore_n 2, 1) := by decide +kernel
theorem dX6_bits_4 : decode cX6_bits 4 = .ok (.iload_n 2, 1) := by decide +kernel
theorem dX6_bits_5 : decode cX6_bits 5 = .ok (.ifCond .eq 15, 3) := by decide +kernel
theorem dX6_bits_8 : decode cX6_bits 8 = .ok (.iinc 1 1, 3) := by decide +kernel
theorem dX6_bits_11 : decode cX6_bits 11 = .ok (.iload_n 2, 1) := by decide +kernel
theorem dX6_bits_12 : decode cX6_bits 12 = .ok (.iload_n 2, 1) := by decide +kernel
theorem dX6_bits_13 : decode cX6_bits 13 = .ok (.iconst 1, 1) := by decide +kernel
theorem dX6_bits_14 : decode cX6_bits 14 = .ok (.isub, 1) := by decide +kernel
theorem dX6_bits_15 : decode cX6_bits 15 = .ok (.iand, 1) := by decide +kernel
theorem dX6_bits_16 : decode cX6_bits 16 = .ok (.istore_n 2, 1) := by decide +kernel
theorem dX6_bits_17 : decode cX6_bits 17 = .ok (.goto (-13), 3) := by decide +kernel
theorem dX6_bits_20 : decode cX6_bits 20 = .ok (.iload_n 1, 1) := by decide +kernel
theorem dX6_bits_21 : decode cX6_bits 21 = .ok (.ireturn, 1) := by decide +kernel
theorem dX6_blowing_0 : decode cX6_blowing 0 = .ok (.aload_n 0, 1) := by decide +kernel
theorem dX6_blowing_1 : decode cX6_blowing 1 = .ok (.getfield 7, 3) := by decide +kernel
theorem dX6_blowing_4 : decode cX6_blowing 4 = .ok (.iconst 2, 1) := by decide +kernel
theorem dX6_blowing_5 : decode cX6_blowing 5 = .ok (.aload_n 0, 1) := by decide +kernel
theorem dX6_blowing_6 : decode cX6_blowing 6 = .ok (.getfield 7, 3) := by decide +kernel
theorem dX6_blowing_9 : decode cX6_blowing 9 = .ok (.iconst 0, 1) := by decide +kernel
theorem dX6_blowing_10 : decode cX6_blowing 10 = .ok (.iaload, 1) := by decide +kernel
theorem dX6_blowing_11 : decode cX6_blowing 11 = .ok (.bipush 12, 2) := by decide +kernel
theorem dX6_blowing_13 : decode cX6_blowing 13 = .ok (.irem, 1) := by decide +kernel
theorem dX6_blowing_14 : decode cX6_blowing 14 = .ok (.iadd, 1) := by decide +kernel
theorem dX6_blowing_15 : decode cX6_blowing 15 = .ok (.iaload, 1) := by decide +kernel
theorem dX6_blowing_16 : decode cX6_blowing 16 = .ok (.ireturn, 1) := by decide +kernel
theorem dX6_knotsOf_0 : decode cX6_knotsOf 0 = .ok (.iconst 0, 1) := by decide +kernel
theorem dX6_knotsOf_1 : decode cX6_knotsOf 1 = .ok (.istore_n 3, 1) := by decide +kernel
theorem dX6_knotsOf_2 : decode cX6_knotsOf 2 = .ok (.iconst 0, 1) := by decide +kernel
theorem dX6_knotsOf_3 : decode cX6_knotsOf 3 = .ok (.istore 4, 2) := by decide +kernel
theorem dX6_knotsOf_5 : decode cX6_knotsOf 5 = .ok (.iload 4, 2) := by decide +kernel
theorem dX6_knotsOf_7 : decode cX6_knotsOf 7 = .ok (.aload_n 0, 1) := by decide +kernel
theorem dX6_knotsOf_8 : decode cX6_knotsOf 8 = .ok (.getfield 7, 3) := by decide +kernel
theorem dX6_knotsOf_11 : decode cX6_knotsOf 11 = .ok (.iconst 1, 1) := by decide +kernel
theorem dX6_knotsOf_12 : decode cX6_knotsOf 12 = .ok (.iaload, 1) := by decide +kernel
theorem dX6_knotsOf_13 : decode cX6_knotsOf 13 = .ok (.if_icmp .ge 46, 3) := by decide +kernel
theorem dX6_knotsOf_16 : decode cX6_knotsOf 16 = .ok (.iload_n 3, 1) := by decide +kernel
theorem dX6_knotsOf_17 : decode cX6_knotsOf 17 = .ok (.aload_n 0, 1) := by decide +kernel
theorem dX6_knotsOf_18 : decode cX6_knotsOf 18 = .ok (.iload 4, 2) := by decide +kernel
theorem dX6_knotsOf_20 : decode cX6_knotsOf 20 = .ok (.iconst 1, 1) := by decide +kernel
theorem dX6_knotsOf_21 : decode cX6_knotsOf 21 = .ok (.invokevirtual 53, 3) := by decide +kernel
theorem dX6_knotsOf_24 : decode cX6_knotsOf 24 = .ok (.iload_n 1, 1) := by decide +kernel
theorem dX6_knotsOf_25 : decode cX6_knotsOf 25 = .ok (.if_icmp .ne 25, 3) := by decide +kernel
theorem dX6_knotsOf_28 : decode cX6_knotsOf 28 = .ok (.iload_n 2, 1) := by decide +kernel
theorem dX6_knotsOf_29 : decode cX6_knotsOf 29 = .ok (.ifCond .eq 14, 3) := by decide +kernel
theorem dX6_knotsOf_32 : decode cX6_knotsOf 32 = .ok (.aload_n 0, 1) := by decide +kernel
theorem dX6_knotsOf_33 : decode cX6_knotsOf 33 = .ok (.iload 4, 2) := by decide +kernel
theorem dX6_knotsOf_35 : decode cX6_knotsOf 35 = .ok (.iconst 3, 1) := by decide +kernel
theorem dX6_knotsOf_36 : decode cX6_knotsOf 36 = .ok (.invokevirtual 53, 3) := by decide +kernel
theorem dX6_knotsOf_39 : decode cX6_knotsOf 39 = .ok (.iconst 1, 1) := by decide +kernel
theorem dX6_knotsOf_40 : decode cX6_knotsOf 40 = .ok (.if_icmp .ne 10, 3) := by decide +kernel
theorem dX6_knotsOf_43 : decode cX6_knotsOf 43 = .ok (.iconst 1, 1) := by decide +kernel
theorem dX6_knotsOf_44 : decode cX6_knotsOf 44 = .ok (.iload 4, 2) := by decide +kernel
theorem dX6_knotsOf_46 : decode cX6_knotsOf 46 = .ok (.ishl, 1) := by decide +kernel
theorem dX6_knotsOf_47 : decode cX6_knotsOf 47 = .ok (.goto 4, 3) := by decide +kernel
theorem dX6_knotsOf_50 : decode cX6_knotsOf 50 = .ok (.iconst 0, 1) := by decide +kernel
theorem dX6_knotsOf_51 : decode cX6_knotsOf 51 = .ok (.ior, 1) := by decide +kernel
theorem dX6_knotsOf_52 : decode cX6_knotsOf 52 = .ok (.istore_n 3, 1) := by decide +kernel
theorem dX6_knotsOf_53 : decode cX6_knotsOf 53 = .ok (.iinc 4 1, 3) := by decide +kernel
theorem dX6_knotsOf_56 : decode cX6_knotsOf 56 = .ok (.goto (-51), 3) := by decide +kernel
theorem dX6_knotsOf_59 : decode cX6_knotsOf 59 = .ok (.iload_n 3, 1) := by decide +kernel
theorem dX6_knotsOf_60 : decode cX6_knotsOf 60 = .ok (.ireturn, 1) := by decide +kernel
theorem dX6_fastSet_0 : decode cX6_fastSet 0 = .ok (.iconst 0, 1) := by decide +kernel
theorem dX6_fastSet_1 : decode cX6_fastSet 1 = .ok (.istore_n 1, 1) := by decide +kernel
theorem dX6_fastSet_2 : decode cX6_fastSet 2 = .ok (.iconst 0, 1) := by decide +kernel
theorem dX6_fastSet_3 : decode cX6_fastSet 3 = .ok (.istore_n 2, 1) := by decide +kernel
theorem dX6_fastSet_4 : decode cX6_fastSet 4 = .ok (.iload_n 2, 1) := by decide +kernel
theorem dX6_fastSet_5 : decode cX6_fastSet 5 = .ok (.aload_n 0, 1) := by decide +kernel
theorem dX6_fastSet_6 : decode cX6_fastSet 6 = .ok (.getfield 7, 3) := by decide +kernel
theorem dX6_fastSet_9 : decode cX6_fastSet 9 = .ok (.iconst 1, 1) := by decide +kernel
theorem dX6_fastSet_10 : decode cX6_fastSet 10 = .ok (.iaload, 1) := by decide +kernel
theorem dX6_fastSet_11 : decode cX6_fastSet 11 = .ok (.if_icmp .ge 20, 3) := by decide +kernel
theorem dX6_fastSet_14 : decode cX6_fastSet 14 = .ok (.iload_n 1, 1) := by decide +kernel
theorem dX6_fastSet_15 : decode cX6_fastSet 15 = .ok (.aload_n 0, 1) := by decide +kernel
theorem dX6_fastSet_16 : decode cX6_fastSet 16 = .ok (.iload_n 2, 1) := by decide +kernel
theorem dX6_fastSet_17 : decode cX6_fastSet 17 = .ok (.iconst 3, 1) := by decide +kernel
theorem dX6_fastSet_18 : decode cX6_fastSet 18 = .ok (.invokevirtual 53, 3) := by decide +kernel
theorem dX6_fastSet_21 : decode cX6_fastSet 21 = .ok (.iload_n 2, 1) := by decide +kernel
theorem dX6_fastSet_22 : decode cX6_fastSet 22 = .ok (.ishl, 1) := by decide +kernel
theorem dX6_fastSet_23 : decode cX6_fastSet 23 = .ok (.ior, 1) := by decide +kernel
theorem dX6_fastSet_24 : decode cX6_fastSet 24 = .ok (.istore_n 1, 1) := by decide +kernel
theorem dX6_fastSet_25 : decode cX6_fastSet 25 = .ok (.iinc 2 1, 3) := by decide +kernel
theorem dX6_fastSet_28 : decode cX6_fastSet 28 = .ok (.goto (-24), 3) := by decide +kernel
theorem dX6_fastSet_31 : decode cX6_fastSet 31 = .ok (.iload_n 1, 1) := by decide +kernel
theorem dX6_fastSet_32 : decode cX6_fastSet 32 = .ok (.ireturn, 1) := by decide +kernel
theorem dX6_upSet_0 : decode cX6_upSet 0 = .ok (.iconst 0, 1) := by decide +kernel
theorem dX6_upSet_1 : decode cX6_upSet 1 = .ok (.istore_n 1, 1) := by decide +kernel
theorem dX6_upSet_2 : decode cX6_upSet 2 = .ok (.iconst 0, 1) := by decide +kernel
theorem dX6_upSet_3 : decode cX6_upSet 3 = .ok (.istore_n 2, 1) := by decide +kernel
theorem dX6_upSet_4 : decode cX6_upSet 4 = .ok (.iload_n 2, 1) := by decide +kernel
theorem dX6_upSet_5 : decode cX6_upSet 5 = .ok (.iconst 4, 1) := by decide +kernel
theorem dX6_upSet_6 : decode cX6_upSet 6 = .ok (.if_icmp .ge 20, 3) := by decide +kernel
theorem dX6_upSet_9 : decode cX6_upSet 9 = .ok (.iload_n 1, 1) := by decide +kernel
theorem dX6_upSet_10 : decode cX6_upSet 10 = .ok (.aload_n 0, 1) := by decide +kernel
theorem dX6_upSet_11 : decode cX6_upSet 11 = .ok (.iload_n 2, 1) := by decide +kernel
theorem dX6_upSet_12 : decode cX6_upSet 12 = .ok (.iconst 1, 1) := by decide +kernel
theorem dX6_upSet_13 : decode cX6_upSet 13 = .ok (.invokevirtual 57, 3) := by decide +kernel
theorem dX6_upSet_16 : decode cX6_upSet 16 = .ok (.iload_n 2, 1) := by decide +kernel
theorem dX6_upSet_17 : decode cX6_upSet 17 = .ok (.ishl, 1) := by decide +kernel
theorem dX6_upSet_18 : decode cX6_upSet 18 = .ok (.ior, 1) := by decide +kernel
theorem dX6_upSet_19 : decode cX6_upSet 19 = .ok (.istore_n 1, 1) := by decide +kernel
theorem dX6_upSet_20 : decode cX6_upSet 20 = .ok (.iinc 2 1, 3) := by decide +kernel
theorem dX6_upSet_23 : decode cX6_upSet 23 = .ok (.goto (-19), 3) := by decide +kernel
theorem dX6_upSet_26 : decode cX6_upSet 26 = .ok (.iload_n 1, 1) := by decide +kernel
theorem dX6_upSet_27 : decode cX6_upSet 27 = .ok (.ireturn, 1) := by decide +kernel
theorem dX6_strain_0 : decode cX6_strain 0 = .ok (.aload_n 0, 1) := by decide +kernel
theorem dX6_strain_1 : decode cX6_strain 1 = .ok (.iload_n 1, 1) := by decide +kernel
theorem dX6_strain_2 : decode cX6_strain 2 = .ok (.iconst 1, 1) := by decide +kernel
theorem dX6_strain_3 : decode cX6_strain 3 = .ok (.invokevirtual 60, 3) := by decide +kernel
theorem dX6_strain_6 : decode cX6_strain 6 = .ok (.invokestatic 64, 3) := by decide +kernel
theorem dX6_strain_9 : decode cX6_strain 9 = .ok (.istore_n 2, 1) := by decide +kernel
theorem dX6_strain_10 : decode cX6_strain 10 = .ok (.iload_n 2, 1) := by decide +kernel
theorem dX6_strain_11 : decode cX6_strain 11 = .ok (.ifCond .ne 7, 3) := by decide +kernel
theorem dX6_strain_14 : decode cX6_strain 14 = .ok (.iconst 0, 1) := by decide +kernel
theorem dX6_strain_15 : decode cX6_strain 15 = .ok (.goto 18, 3) := by decide +kernel
theorem dX6_strain_18 : decode cX6_strain 18 = .ok (.aload_n 0, 1) := by decide +kernel
theorem dX6_strain_19 : decode cX6_strain 19 = .ok (.iload_n 1, 1) := by decide +kernel
theorem dX6_strain_20 : decode cX6_strain 20 = .ok (.iconst 0, 1) := by decide +kernel
theorem dX6_strain_21 : decode cX6_strain 21 = .ok (.invokevirtual 57, 3) := by decide +kernel
theorem dX6_strain_24 : decode cX6_strain 24 = .ok (.iconst 3, 1) := by decide +kernel
theorem dX6_strain_25 : decode cX6_strain 25 = .ok (.aload_n 0, 1) := by decide +kernel
theorem dX6_strain_26 : decode cX6_strain 26 = .ok (.invokevirtual 68, 3) := by decide +kernel
theorem dX6_strain_29 : decode cX6_strain 29 = .ok (.imul, 1) := by decide +kernel
theorem dX6_strain_30 : decode cX6_strain 30 = .ok (.iadd, 1) := by decide +kernel
theorem dX6_strain_31 : decode cX6_strain 31 = .ok (.iload_n 2, 1) := by decide +kernel
theorem dX6_strain_32 : decode cX6_strain 32 = .ok (.idiv, 1) := by decide +kernel
theorem dX6_strain_33 : decode cX6_strain 33 = .ok (.ireturn, 1) := by decide +kernel
theorem dX6_holding_0 : decode cX6_holding 0 = .ok (.aload_n 0, 1) := by decide +kernel
theorem dX6_holding_1 : decode cX6_holding 1 = .ok (.iload_n 1, 1) := by decide +kernel
theorem dX6_holding_2 : decode cX6_holding 2 = .ok (.iconst 3, 1) := by decide +kernel
theorem dX6_holding_3 : decode cX6_holding 3 = .ok (.invokevirtual 53, 3) := by decide +kernel
theorem dX6_holding_6 : decode cX6_holding 6 = .ok (.ifCond .ne 5, 3) := by decide +kernel
theorem dX6_holding_9 : decode cX6_holding 9 = .ok (.iconst 0, 1) := by decide +kernel
theorem dX6_holding_10 : decode cX6_holding 10 = .ok (.ireturn, 1) := by decide +kernel
theorem dX6_holding_11 : decode cX6_holding 11 = .ok (.aload_n 0, 1) := by decide +kernel
theorem dX6_holding_12 : decode cX6_holding 12 = .ok (.iload_n 1, 1) := by decide +kernel
theorem dX6_holding_13 : decode cX6_holding 13 = .ok (.iconst 2, 1) := by decide +kernel
theorem dX6_holding_14 : decode cX6_holding 14 = .ok (.invokevirtual 53, 3) := by decide +kernel
theorem dX6_holding_17 : decode cX6_holding 17 = .ok (.istore_n 2, 1) := by decide +kernel
theorem dX6_holding_18 : decode cX6_holding 18 = .ok (.iload_n 2, 1) := by decide +kernel
theorem dX6_holding_19 : decode cX6_holding 19 = .ok (.bipush 60, 2) := by decide +kernel
theorem dX6_holding_21 : decode cX6_holding 21 = .ok (.if_icmp .lt 9, 3) := by decide +kernel
theorem dX6_holding_24 : decode cX6_holding 24 = .ok (.iconst 3, 1) := by decide +kernel
theorem dX6_holding_25 : decode cX6_holding 25 = .ok (.iload_n 2, 1) := by decide +kernel
theorem dX6_holding_26 : decode cX6_holding 26 = .ok (.imul, 1) := by decide +kernel
theorem dX6_holding_27 : decode cX6_holding 27 = .ok (.goto 6, 3) := by decide +kernel
theorem dX6_holding_30 : decode cX6_holding 30 = .ok (.iconst 2, 1) := by decide +kernel
theorem dX6_holding_31 : decode cX6_holding 31 = .ok (.iload_n 2, 1) := by decide +kernel
theorem dX6_holding_32 : decode cX6_holding 32 = .ok (.imul, 1) := by decide +kernel
theorem dX6_holding_33 : decode cX6_holding 33 = .ok (.istore_n 3, 1) := by decide +kernel
theorem dX6_holding_34 : decode cX6_holding 34 = .ok (.iconst 2, 1) := by decide +kernel
theorem dX6_holding_35 : decode cX6_holding 35 = .ok (.iload_n 2, 1) := by decide +kernel
theorem dX6_holding_36 : decode cX6_holding 36 = .ok (.imul, 1) := by decide +kernel
theorem dX6_holding_37 : decode cX6_holding 37 = .ok (.aload_n 0, 1) := by decide +kernel
theorem dX6_holding_38 : decode cX6_holding 38 = .ok (.invokevirtual 68, 3) := by decide +kernel
theorem dX6_holding_41 : decode cX6_holding 41 = .ok (.isub, 1) := by decide +kernel
theorem dX6_holding_42 : decode cX6_holding 42 = .ok (.iconst 0, 1) := by decide +kernel
theorem dX6_holding_43 : decode cX6_holding 43 = .ok (.iconst 2, 1) := by decide +kernel
theorem dX6_holding_44 : decode cX6_holding 44 = .ok (.iload_n 2, 1) := by decide +kernel
theorem dX6_holding_45 : decode cX6_holding 45 = .ok (.imul, 1) := by decide +kernel
theorem dX6_holding_46 : decode cX6_holding 46 = .ok (.invokestatic 72, 3) := by decide +kernel
theorem dX6_holding_49 : decode cX6_holding 49 = .ok (.istore 4, 2) := by decide +kernel
theorem dX6_holding_51 : decode cX6_holding 51 = .ok (.aload_n 0, 1) := by decide +kernel
theorem dX6_holding_52 : decode cX6_holding 52 = .ok (.iload_n 1, 1) := by decide +kernel
theorem dX6_holding_53 : decode cX6_holding 53 = .ok (.iconst 0, 1) := by decide +kernel
theorem dX6_holding_54 : decode cX6_holding 54 = .ok (.invokevirtual 53, 3) := by decide +kernel
theorem dX6_holding_57 : decode cX6_holding 57 = .ok (.tableswitch 82 1 5 #[35, 59, 77, 37, 62], 35) := by decide +kernel
theorem dX6_holding_92 : decode cX6_holding 92 = .ok (.iload_n 3, 1) := by decide +kernel
theorem dX6_holding_93 : decode cX6_holding 93 = .ok (.ireturn, 1) := by decide +kernel
theorem dX6_holding_94 : decode cX6_holding 94 = .ok (.iload_n 3, 1) := by decide +kernel
theorem dX6_holding_95 : decode cX6_holding 95 = .ok (.bipush 10, 2) := by decide +kernel
theorem dX6_holding_97 : decode cX6_holding 97 = .ok (.aload_n 0, 1) := by decide +kernel
theorem dX6_holding_98 : decode cX6_holding 98 = .ok (.aload_n 0, 1) := by decide +kernel
theorem dX6_holding_99 : decode cX6_holding 99 = .ok (.iload_n 1, 1) := by decide +kernel
theorem dX6_holding_100 : decode cX6_holding 100 = .ok (.iconst 1, 1) := by decide +kernel
theorem dX6_holding_101 : decode cX6_holding 101 = .ok (.invokevirtual 53, 3) := by decide +kernel
theorem dX6_holding_104 : decode cX6_holding 104 = .ok (.iconst 1, 1) := by decide +kernel
theorem dX6_holding_105 : decode cX6_holding 105 = .ok (.invokevirtual 60, 3) := by decide +kernel
theorem dX6_holding_108 : decode cX6_holding 108 = .ok (.invokestatic 64, 3) := by decide +kernel
theorem dX6_holding_111 : decode cX6_holding 111 = .ok (.iconst 1, 1) := by decide +kernel
theorem dX6_holding_112 : decode cX6_holding 112 = .ok (.isub, 1) := by decide +kernel
theorem dX6_holding_113 : decode cX6_holding 113 = .ok (.imul, 1) := by decide +kernel
theorem dX6_holding_114 : decode cX6_holding 114 = .ok (.iadd, 1) := by decide +kernel
theorem dX6_holding_115 : decode cX6_holding 115 = .ok (.ireturn, 1) := by decide +kernel
theorem dX6_holding_116 : decode cX6_holding 116 = .ok (.iload 4, 2) := by decide +kernel
theorem dX6_holding_118 : decode cX6_holding 118 = .ok (.ireturn, 1) := by decide +kernel
theorem dX6_holding_119 : decode cX6_holding 119 = .ok (.iload 4, 2) := by decide +kernel
theorem dX6_holding_121 : decode cX6_holding 121 = .ok (.bipush 60, 2) := by decide +kernel
theorem dX6_holding_123 : decode cX6_holding 123 = .ok (.if_icmp .ge 8, 3) := by decide +kernel
theorem dX6_holding_126 : decode cX6_holding 126 = .ok (.bipush 60, 2) := by decide +kernel
theorem dX6_holding_128 : decode cX6_holding 128 = .ok (.goto 5, 3) := by decide +kernel
theorem dX6_holding_131 : decode cX6_holding 131 = .ok (.iload 4, 2) := by decide +kernel
theorem dX6_holding_133 : decode cX6_holding 133 = .ok (.ireturn, 1) := by decide +kernel
theorem dX6_holding_134 : decode cX6_holding 134 = .ok (.bipush 99, 2) := by decide +kernel
theorem dX6_holding_136 : decode cX6_holding 136 = .ok (.iload_n 2, 1) := by decide +kernel
theorem dX6_holding_137 : decode cX6_holding 137 = .ok (.isub, 1) := by decide +kernel
theorem dX6_holding_138 : decode cX6_holding 138 = .ok (.ireturn, 1) := by decide +kernel
theorem dX6_holding_139 : decode cX6_holding 139 = .ok (.iconst 2, 1) := by decide +kernel
theorem dX6_holding_140 : decode cX6_holding 140 = .ok (.iload_n 2, 1) := by decide +kernel
theorem dX6_holding_141 : decode cX6_holding 141 = .ok (.imul, 1) := by decide +kernel
theorem dX6_holding_142 : decode cX6_holding 142 = .ok (.ireturn, 1) := by decide +kernel
theorem dX6_settling_0 : decode cX6_settling 0 = .ok (.aload_n 0, 1) := by decide +kernel
theorem dX6_settling_1 : decode cX6_settling 1 = .ok (.iload_n 1, 1) := by decide +kernel
theorem dX6_settling_2 : decode cX6_settling 2 = .ok (.iconst 2, 1) := by decide +kernel
theorem dX6_settling_3 : decode cX6_settling 3 = .ok (.invokevirtual 53, 3) := by decide +kernel
theorem dX6_settling_6 : decode cX6_settling 6 = .ok (.bipush 60, 2) := by decide +kernel
theorem dX6_settling_8 : decode cX6_settling 8 = .ok (.if_icmp .lt 7, 3) := by decide +kernel
theorem dX6_settling_11 : decode cX6_settling 11 = .ok (.iconst 0, 1) := by decide +kernel
theorem dX6_settling_12 : decode cX6_settling 12 = .ok (.goto 4, 3) := by decide +kernel
theorem dX6_settling_15 : decode cX6_settling 15 = .ok (.iconst 2, 1) := by decide +kernel
theorem dX6_settling_16 : decode cX6_settling 16 = .ok (.istore_n 2, 1) := by decide +kernel
theorem dX6_settling_17 : decode cX6_settling 17 = .ok (.iconst 2, 1) := by decide +kernel
theorem dX6_settling_18 : decode cX6_settling 18 = .ok (.aload_n 0, 1) := by decide +kernel
theorem dX6_settling_19 : decode cX6_settling 19 = .ok (.invokevirtual 68, 3) := by decide +kernel
theorem dX6_settling_22 : decode cX6_settling 22 = .ok (.bipush 10, 2) := by decide +kernel
theorem dX6_settling_24 : decode cX6_settling 24 = .ok (.idiv, 1) := by decide +kernel
theorem dX6_settling_25 : decode cX6_settling 25 = .ok (.iadd, 1) := by decide +kernel
theorem dX6_settling_26 : decode cX6_settling 26 = .ok (.istore_n 3, 1) := by decide +kernel
theorem dX6_settling_27 : decode cX6_settling 27 = .ok (.aload_n 0, 1) := by decide +kernel
theorem dX6_settling_28 : decode cX6_settling 28 = .ok (.iload_n 1, 1) := by decide +kernel
theorem dX6_settling_29 : decode cX6_settling 29 = .ok (.iconst 0, 1) := by decide +kernel
theorem dX6_settling_30 : decode cX6_settling 30 = .ok (.invokevirtual 53, 3) := by decide +kernel
theorem dX6_settling_33 : decode cX6_settling 33 = .ok (.tableswitch 70 1 5 #[35, 49, 68, 37, 51], 35) := by decide +kernel
theorem dX6_settling_68 : decode cX6_settling 68 = .ok (.iload_n 2, 1) := by decide +kernel
theorem dX6_settling_69 : decode cX6_settling 69 = .ok (.ireturn, 1) := by decide +kernel
theorem dX6_settling_70 : decode cX6_settling 70 = .ok (.iload_n 2, 1) := by decide +kernel
theorem dX6_settling_71 : decode cX6_settling 71 = .ok (.ifCond .ne 7, 3) := by decide +kernel
theorem dX6_settling_74 : decode cX6_settling 74 = .ok (.iconst 0, 1) := by decide +kernel
theorem dX6_settling_75 : decode cX6_settling 75 = .ok (.goto 6, 3) := by decide +kernel
theorem dX6_settling_78 : decode cX6_settling 78 = .ok (.iload_n 2, 1) := by decide +kernel
theorem dX6_settling_79 : decode cX6_settling 79 = .ok (.iconst 1, 1) := by decide +kernel
theorem dX6_settling_80 : decode cX6_settling 80 = .ok (.isub, 1) := by decide +kernel
theorem dX6_settling_81 : decode cX6_settling 81 = .ok (.ireturn, 1) := by decide +kernel
theorem dX6_settling_82 : decode cX6_settling 82 = .ok (.iload_n 3, 1) := by decide +kernel
theorem dX6_settling_83 : decode cX6_settling 83 = .ok (.ireturn, 1) := by decide +kernel
theorem dX6_settling_84 : decode cX6_settling 84 = .ok (.aload_n 0, 1) := by decide +kernel
theorem dX6_settling_85 : decode cX6_settling 85 = .ok (.iload_n 1, 1) := by decide +kernel
theorem dX6_settling_86 : decode cX6_settling 86 = .ok (.iconst 4, 1) := by decide +kernel
theorem dX6_settling_87 : decode cX6_settling 87 = .ok (.invokevirtual 53, 3) := by decide +kernel
theorem dX6_settling_90 : decode cX6_settling 90 = .ok (.bipush 6, 2) := by decide +kernel
theorem dX6_settling_92 : decode cX6_settling 92 = .ok (.if_icmp .ge 7, 3) := by decide +kernel
theorem dX6_settling_95 : decode cX6_settling 95 = .ok (.iconst 0, 1) := by decide +kernel
theorem dX6_settling_96 : decode cX6_settling 96 = .ok (.goto 4, 3) := by decide +kernel
theorem dX6_settling_99 : decode cX6_settling 99 = .ok (.iload_n 3, 1) := by decide +kernel
theorem dX6_settling_100 : decode cX6_settling 100 = .ok (.ireturn, 1) := by decide +kernel
theorem dX6_settling_101 : decode cX6_settling 101 = .ok (.iconst (-1), 1) := by decide +kernel
theorem dX6_settling_102 : decode cX6_settling 102 = .ok (.ireturn, 1) := by decide +kernel
theorem dX6_settling_103 : decode cX6_settling 103 = .ok (.iconst 2, 1) := by decide +kernel
theorem dX6_settling_104 : decode cX6_settling 104 = .ok (.ireturn, 1) := by decide +kernel
theorem dX6_teasing_0 : decode cX6_teasing 0 = .ok (.aload_n 0, 1) := by decide +kernel
theorem dX6_teasing_1 : decode cX6_teasing 1 = .ok (.iload_n 1, 1) := by decide +kernel
theorem dX6_teasing_2 : decode cX6_teasing 2 = .ok (.iconst 0, 1) := by decide +kernel
theorem dX6_teasing_3 : decode cX6_teasing 3 = .ok (.invokevirtual 53, 3) := by decide +kernel
theorem dX6_teasing_6 : decode cX6_teasing 6 = .ok (.tableswitch 61 1 5 #[34, 37, 58, 34, 40], 34) := by decide +kernel
theorem dX6_teasing_40 : decode cX6_teasing 40 = .ok (.bipush 30, 2) := by decide +kernel
theorem dX6_teasing_42 : decode cX6_teasing 42 = .ok (.ireturn, 1) := by decide +kernel
theorem dX6_teasing_43 : decode cX6_teasing 43 = .ok (.bipush 10, 2) := by decide +kernel
theorem dX6_teasing_45 : decode cX6_teasing 45 = .ok (.ireturn, 1) := by decide +kernel
theorem dX6_teasing_46 : decode cX6_teasing 46 = .ok (.aload_n 0, 1) := by decide +kernel
theorem dX6_teasing_47 : decode cX6_teasing 47 = .ok (.iload_n 1, 1) := by decide +kernel
theorem dX6_teasing_48 : decode cX6_teasing 48 = .ok (.iconst 2, 1) := by decide +kernel
theorem dX6_teasing_49 : decode cX6_teasing 49 = .ok (.invokevirtual 53, 3) := by decide +kernel
theorem dX6_teasing_52 : decode cX6_teasing 52 = .ok (.bipush 90, 2) := by decide +kernel
theorem dX6_teasing_54 : decode cX6_teasing 54 = .ok (.if_icmp .lt 7, 3) := by decide +kernel
theorem dX6_teasing_57 : decode cX6_teasing 57 = .ok (.iconst 0, 1) := by decide +kernel
theorem dX6_teasing_58 : decode cX6_teasing 58 = .ok (.goto 5, 3) := by decide +kernel
theorem dX6_teasing_61 : decode cX6_teasing 61 = .ok (.bipush 10, 2) := by decide +kernel
theorem dX6_teasing_63 : decode cX6_teasing 63 = .ok (.ireturn, 1) := by decide +kernel
theorem dX6_teasing_64 : decode cX6_teasing 64 = .ok (.bipush (-20), 2) := by decide +kernel
theorem dX6_teasing_66 : decode cX6_teasing 66 = .ok (.ireturn, 1) := by decide +kernel
theorem dX6_teasing_67 : decode cX6_teasing 67 = .ok (.bipush 15, 2) := by decide +kernel
theorem dX6_teasing_69 : decode cX6_teasing 69 = .ok (.ireturn, 1) := by decide +kernel
theorem dX6_isGiving_0 : decode cX6_isGiving 0 = .ok (.iload_n 2, 1) := by decide +kernel
theorem dX6_isGiving_1 : decode cX6_isGiving 1 = .ok (.aload_n 0, 1) := by decide +kernel
theorem dX6_isGiving_2 : decode cX6_isGiving 2 = .ok (.iload_n 1, 1) := by decide +kernel
theorem dX6_isGiving_3 : decode cX6_isGiving 3 = .ok (.invokevirtual 76, 3) := by decide +kernel
theorem dX6_isGiving_6 : decode cX6_isGiving 6 = .ok (.if_icmp .le 7, 3) := by decide +kernel
theorem dX6_isGiving_9 : decode cX6_isGiving 9 = .ok (.iconst 1, 1) := by decide +kernel
theorem dX6_isGiving_10 : decode cX6_isGiving 10 = .ok (.goto 4, 3) := by decide +kernel
theorem dX6_isGiving_13 : decode cX6_isGiving 13 = .ok (.iconst 0, 1) := by decide +kernel
theorem dX6_isGiving_14 : decode cX6_isGiving 14 = .ok (.istore_n 3, 1) := by decide +kernel
theorem dX6_isGiving_15 : decode cX6_isGiving 15 = .ok (.aload_n 0, 1) := by decide +kernel
theorem dX6_isGiving_16 : decode cX6_isGiving 16 = .ok (.iload_n 1, 1) := by decide +kernel
theorem dX6_isGiving_17 : decode cX6_isGiving 17 = .ok (.iconst 0, 1) := by decide +kernel
theorem dX6_isGiving_18 : decode cX6_isGiving 18 = .ok (.invokevirtual 53, 3) := by decide +kernel
theorem dX6_isGiving_21 : decode cX6_isGiving 21 = .ok (.tableswitch 97 1 5 #[35, 97, 76, 35, 56], 35) := by decide +kernel
theorem dX6_isGiving_56 : decode cX6_isGiving 56 = .ok (.iload_n 3, 1) := by decide +kernel
theorem dX6_isGiving_57 : decode cX6_isGiving 57 = .ok (.ifCond .eq 18, 3) := by decide +kernel
theorem dX6_isGiving_60 : decode cX6_isGiving 60 = .ok (.aload_n 0, 1) := by decide +kernel
theorem dX6_isGiving_61 : decode cX6_isGiving 61 = .ok (.iload_n 1, 1) := by decide +kernel
theorem dX6_isGiving_62 : decode cX6_isGiving 62 = .ok (.iconst 2, 1) := by decide +kernel
theorem dX6_isGiving_63 : decode cX6_isGiving 63 = .ok (.invokevirtual 53, 3) := by decide +kernel
theorem dX6_isGiving_66 : decode cX6_isGiving 66 = .ok (.bipush 90, 2) := by decide +kernel
theorem dX6_isGiving_68 : decode cX6_isGiving 68 = .ok (.if_icmp .ge 7, 3) := by decide +kernel
theorem dX6_isGiving_71 : decode cX6_isGiving 71 = .ok (.iconst 1, 1) := by decide +kernel
theorem dX6_isGiving_72 : decode cX6_isGiving 72 = .ok (.goto 4, 3) := by decide +kernel
theorem dX6_isGiving_75 : decode cX6_isGiving 75 = .ok (.iconst 0, 1) := by decide +kernel
theorem dX6_isGiving_76 : decode cX6_isGiving 76 = .ok (.ireturn, 1) := by decide +kernel
theorem dX6_isGiving_77 : decode cX6_isGiving 77 = .ok (.iload_n 3, 1) := by decide +kernel
theorem dX6_isGiving_78 : decode cX6_isGiving 78 = .ok (.ifCond .eq 17, 3) := by decide +kernel
theorem dX6_isGiving_81 : decode cX6_isGiving 81 = .ok (.aload_n 0, 1) := by decide +kernel
theorem dX6_isGiving_82 : decode cX6_isGiving 82 = .ok (.iload_n 1, 1) := by decide +kernel
theorem dX6_isGiving_83 : decode cX6_isGiving 83 = .ok (.iconst 4, 1) := by decide +kernel
theorem dX6_isGiving_84 : decode cX6_isGiving 84 = .ok (.invokevirtual 53, 3) := by decide +kernel
theorem dX6_isGiving_87 : decode cX6_isGiving 87 = .ok (.iconst 3, 1) := by decide +kernel
theorem dX6_isGiving_88 : decode cX6_isGiving 88 = .ok (.if_icmp .lt 7, 3) := by decide +kernel
theorem dX6_isGiving_91 : decode cX6_isGiving 91 = .ok (.iconst 1, 1) := by decide +kernel
theorem dX6_isGiving_92 : decode cX6_isGiving 92 = .ok (.goto 4, 3) := by decide +kernel
theorem dX6_isGiving_95 : decode cX6_isGiving 95 = .ok (.iconst 0, 1) := by decide +kernel
theorem dX6_isGiving_96 : decode cX6_isGiving 96 = .ok (.ireturn, 1) := by decide +kernel
theorem dX6_isGiving_97 : decode cX6_isGiving 97 = .ok (.iload_n 3, 1) := by decide +kernel
theorem dX6_isGiving_98 : decode cX6_isGiving 98 = .ok (.ifCond .ne 14, 3) := by decide +kernel
theorem dX6_isGiving_101 : decode cX6_isGiving 101 = .ok (.aload_n 0, 1) := by decide +kernel
theorem dX6_isGiving_102 : decode cX6_isGiving 102 = .ok (.iload_n 1, 1) := by decide +kernel
theorem dX6_isGiving_103 : decode cX6_isGiving 103 = .ok (.iconst 2, 1) := by decide +kernel
theorem dX6_isGiving_104 : decode cX6_isGiving 104 = .ok (.invokevirtual 53, 3) := by decide +kernel
theorem dX6_isGiving_107 : decode cX6_isGiving 107 = .ok (.bipush 99, 2) := by decide +kernel
theorem dX6_isGiving_109 : decode cX6_isGiving 109 = .ok (.if_icmp .ne 7, 3) := by decide +kernel
theorem dX6_isGiving_112 : decode cX6_isGiving 112 = .ok (.iconst 1, 1) := by decide +kernel
theorem dX6_isGiving_113 : decode cX6_isGiving 113 = .ok (.goto 4, 3) := by decide +kernel
theorem dX6_isGiving_116 : decode cX6_isGiving 116 = .ok (.iconst 0, 1) := by decide +kernel
theorem dX6_isGiving_117 : decode cX6_isGiving 117 = .ok (.ireturn, 1) := by decide +kernel
theorem dX6_isGiving_118 : decode cX6_isGiving 118 = .ok (.iload_n 3, 1) := by decide +kernel
theorem dX6_isGiving_119 : decode cX6_isGiving 119 = .ok (.ireturn, 1) := by decide +kernel
theorem dX6_wind_0 : decode cX6_wind 0 = .ok (.iload_n 1, 1) := by decide +kernel
theorem dX6_wind_1 : decode cX6_wind 1 = .ok (.iconst 0, 1) := by decide +kernel
theorem dX6_wind_2 : decode cX6_wind 2 = .ok (.bipush 11, 2) := by decide +kernel
theorem dX6_wind_4 : decode cX6_wind 4 = .ok (.invokestatic 49, 3) := by decide +kernel
theorem dX6_wind_7 : decode cX6_wind 7 = .ok (.ifCond .eq 24, 3) := by decide +kernel
theorem dX6_wind_10 : decode cX6_wind 10 = .ok (.iload_n 2, 1) := by decide +kernel
theorem dX6_wind_11 : decode cX6_wind 11 = .ok (.iconst 0, 1) := by decide +kernel
theorem dX6_wind_12 : decode cX6_wind 12 = .ok (.bipush 99, 2) := by decide +kernel
theorem dX6_wind_14 : decode cX6_wind 14 = .ok (.invokestatic 49, 3) := by decide +kernel
theorem dX6_wind_17 : decode cX6_wind 17 = .ok (.ifCond .eq 14, 3) := by decide +kernel
theorem dX6_wind_20 : decode cX6_wind 20 = .ok (.aload_n 0, 1) := by decide +kernel
theorem dX6_wind_21 : decode cX6_wind 21 = .ok (.iconst 2, 1) := by decide +kernel
theorem dX6_wind_22 : decode cX6_wind 22 = .ok (.iload_n 1, 1) := by decide +kernel
theorem dX6_wind_23 : decode cX6_wind 23 = .ok (.iadd, 1) := by decide +kernel
theorem dX6_wind_24 : decode cX6_wind 24 = .ok (.iload_n 2, 1) := by decide +kernel
theorem dX6_wind_25 : decode cX6_wind 25 = .ok (.invokevirtual 79, 3) := by decide +kernel
theorem dX6_wind_28 : decode cX6_wind 28 = .ok (.goto 9, 3) := by decide +kernel
theorem dX6_wind_31 : decode cX6_wind 31 = .ok (.aload_n 0, 1) := by decide +kernel
theorem dX6_wind_32 : decode cX6_wind 32 = .ok (.ldc 48, 2) := by decide +kernel
theorem dX6_wind_34 : decode cX6_wind 34 = .ok (.invokevirtual 82, 3) := by decide +kernel
theorem dX6_wind_37 : decode cX6_wind 37 = .ok (.ireturn, 1) := by decide +kernel
theorem dX6_weight_0 : decode cX6_weight 0 = .ok (.iload_n 1, 1) := by decide +kernel
theorem dX6_weight_1 : decode cX6_weight 1 = .ok (.invokestatic 85, 3) := by decide +kernel
theorem dX6_weight_4 : decode cX6_weight 4 = .ok (.ifCond .eq 28, 3) := by decide +kernel
theorem dX6_weight_7 : decode cX6_weight 7 = .ok (.iload_n 2, 1) := by decide +kernel
theorem dX6_weight_8 : decode cX6_weight 8 = .ok (.iconst 0, 1) := by decide +kernel
theorem dX6_weight_9 : decode cX6_weight 9 = .ok (.sipush 999, 3) := by decide +kernel
theorem dX6_weight_12 : decode cX6_weight 12 = .ok (.invokestatic 49, 3) := by decide +kernel
theorem dX6_weight_15 : decode cX6_weight 15 = .ok (.ifCond .eq 17, 3) := by decide +kernel
theorem dX6_weight_18 : decode cX6_weight 18 = .ok (.aload_n 0, 1) := by decide +kernel
theorem dX6_weight_19 : decode cX6_weight 19 = .ok (.bipush 14, 2) := by decide +kernel
theorem dX6_weight_21 : decode cX6_weight 21 = .ok (.iconst 2, 1) := by decide +kernel
theorem dX6_weight_22 : decode cX6_weight 22 = .ok (.iload_n 1, 1) := by decide +kernel
theorem dX6_weight_23 : decode cX6_weight 23 = .ok (.imul, 1) := by decide +kernel
theorem dX6_weight_24 : decode cX6_weight 24 = .ok (.iadd, 1) := by decide +kernel
theorem dX6_weight_25 : decode cX6_weight 25 = .ok (.iload_n 2, 1) := by decide +kernel
theorem dX6_weight_26 : decode cX6_weight 26 = .ok (.invokevirtual 79, 3) := by decide +kernel
theorem dX6_weight_29 : decode cX6_weight 29 = .ok (.goto 9, 3) := by decide +kernel
theorem dX6_weight_32 : decode cX6_weight 32 = .ok (.aload_n 0, 1) := by decide +kernel
theorem dX6_weight_33 : decode cX6_weight 33 = .ok (.ldc 48, 2) := by decide +kernel
theorem dX6_weight_35 : decode cX6_weight 35 = .ok (.invokevirtual 82, 3) := by decide +kernel
theorem dX6_weight_38 : decode cX6_weight 38 = .ok (.ireturn, 1) := by decide +kernel
theorem dX6_raise_0 : decode cX6_raise 0 = .ok (.iload_n 1, 1) := by decide +kernel
theorem dX6_raise_1 : decode cX6_raise 1 = .ok (.invokestatic 85, 3) := by decide +kernel
theorem dX6_raise_4 : decode cX6_raise 4 = .ok (.ifCond .eq 21, 3) := by decide +kernel
theorem dX6_raise_7 : decode cX6_raise 7 = .ok (.iconst 1, 1) := by decide +kernel
theorem dX6_raise_8 : decode cX6_raise 8 = .ok (.aload_n 0, 1) := by decide +kernel
theorem dX6_raise_9 : decode cX6_raise 9 = .ok (.bipush 14, 2) := by decide +kernel
theorem dX6_raise_11 : decode cX6_raise 11 = .ok (.iconst 2, 1) := by decide +kernel
theorem dX6_raise_12 : decode cX6_raise 12 = .ok (.iload_n 1, 1) := by decide +kernel
theorem dX6_raise_13 : decode cX6_raise 13 = .ok (.imul, 1) := by decide +kernel
theorem dX6_raise_14 : decode cX6_raise 14 = .ok (.iadd, 1) := by decide +kernel
theorem dX6_raise_15 : decode cX6_raise 15 = .ok (.iconst 1, 1) := by decide +kernel
theorem dX6_raise_16 : decode cX6_raise 16 = .ok (.iadd, 1) := by decide +kernel
theorem dX6_raise_17 : decode cX6_raise 17 = .ok (.iconst 1, 1) := by decide +kernel
theorem dX6_raise_18 : decode cX6_raise 18 = .ok (.invokevirtual 79, 3) := by decide +kernel
theorem dX6_raise_21 : decode cX6_raise 21 = .ok (.isub, 1) := by decide +kernel
theorem dX6_raise_22 : decode cX6_raise 22 = .ok (.goto 9, 3) := by decide +kernel
theorem dX6_raise_25 : decode cX6_raise 25 = .ok (.aload_n 0, 1) := by decide +kernel
theorem dX6_raise_26 : decode cX6_raise 26 = .ok (.ldc 48, 2) := by decide +kernel
theorem dX6_raise_28 : decode cX6_raise 28 = .ok (.invokevirtual 82, 3) := by decide +kernel
theorem dX6_raise_31 : decode cX6_raise 31 = .ok (.ireturn, 1) := by decide +kernel
theorem dX6_heldOf_0 : decode cX6_heldOf 0 = .ok (.iconst 0, 1) := by decide +kernel
theorem dX6_heldOf_1 : decode cX6_heldOf 1 = .ok (.istore_n 2, 1) := by decide +kernel
theorem dX6_heldOf_2 : decode cX6_heldOf 2 = .ok (.iconst 0, 1) := by decide +kernel
theorem dX6_heldOf_3 : decode cX6_heldOf 3 = .ok (.istore_n 3, 1) := by decide +kernel
theorem dX6_heldOf_4 : decode cX6_heldOf 4 = .ok (.iload_n 3, 1) := by decide +kernel
theorem dX6_heldOf_5 : decode cX6_heldOf 5 = .ok (.aload_n 0, 1) := by decide +kernel
theorem dX6_heldOf_6 : decode cX6_heldOf 6 = .ok (.getfield 7, 3) := by decide +kernel
theorem dX6_heldOf_9 : decode cX6_heldOf 9 = .ok (.iconst 1, 1) := by decide +kernel
theorem dX6_heldOf_10 : decode cX6_heldOf 10 = .ok (.iaload, 1) := by decide +kernel
theorem dX6_heldOf_11 : decode cX6_heldOf 11 = .ok (.if_icmp .ge 31, 3) := by decide +kernel
theorem dX6_heldOf_14 : decode cX6_heldOf 14 = .ok (.iload_n 2, 1) := by decide +kernel
theorem dX6_heldOf_15 : decode cX6_heldOf 15 = .ok (.aload_n 0, 1) := by decide +kernel
theorem dX6_heldOf_16 : decode cX6_heldOf 16 = .ok (.iload_n 3, 1) := by decide +kernel
theorem dX6_heldOf_17 : decode cX6_heldOf 17 = .ok (.iconst 1, 1) := by decide +kernel
theorem dX6_heldOf_18 : decode cX6_heldOf 18 = .ok (.invokevirtual 53, 3) := by decide +kernel
theorem dX6_heldOf_21 : decode cX6_heldOf 21 = .ok (.iload_n 1, 1) := by decide +kernel
theorem dX6_heldOf_22 : decode cX6_heldOf 22 = .ok (.if_icmp .ne 11, 3) := by decide +kernel
theorem dX6_heldOf_25 : decode cX6_heldOf 25 = .ok (.aload_n 0, 1) := by decide +kernel
theorem dX6_heldOf_26 : decode cX6_heldOf 26 = .ok (.iload_n 3, 1) := by decide +kernel
theorem dX6_heldOf_27 : decode cX6_heldOf 27 = .ok (.invokevirtual 76, 3) := by decide +kernel
theorem dX6_heldOf_30 : decode cX6_heldOf 30 = .ok (.goto 4, 3) := by decide +kernel
theorem dX6_heldOf_33 : decode cX6_heldOf 33 = .ok (.iconst 0, 1) := by decide +kernel
theorem dX6_heldOf_34 : decode cX6_heldOf 34 = .ok (.iadd, 1) := by decide +kernel
theorem dX6_heldOf_35 : decode cX6_heldOf 35 = .ok (.istore_n 2, 1) := by decide +kernel
theorem dX6_heldOf_36 : decode cX6_heldOf 36 = .ok (.iinc 3 1, 3) := by decide +kernel
theorem dX6_heldOf_39 : decode cX6_heldOf 39 = .ok (.goto (-35), 3) := by decide +kernel
theorem dX6_heldOf_42 : decode cX6_heldOf 42 = .ok (.iload_n 2, 1) := by decide +kernel
theorem dX6_heldOf_43 : decode cX6_heldOf 43 = .ok (.ireturn, 1) := by decide +kernel
theorem dX6_mastOf_0 : decode cX6_mastOf 0 = .ok (.iload_n 1, 1) := by decide +kernel
theorem dX6_mastOf_1 : decode cX6_mastOf 1 = .ok (.invokestatic 85, 3) := by decide +kernel
theorem dX6_mastOf_4 : decode cX6_mastOf 4 = .ok (.ifCond .ne 10, 3) := by decide +kernel
theorem dX6_mastOf_7 : decode cX6_mastOf 7 = .ok (.aload_n 0, 1) := by decide +kernel
theorem dX6_mastOf_8 : decode cX6_mastOf 8 = .ok (.ldc 48, 2) := by decide +kernel
theorem dX6_mastOf_10 : decode cX6_mastOf 10 = .ok (.invokevirtual 82, 3) := by decide +kernel
theorem dX6_mastOf_13 : decode cX6_mastOf 13 = .ok (.ireturn, 1) := by decide +kernel
theorem dX6_mastOf_14 : decode cX6_mastOf 14 = .ok (.iload_n 2, 1) := by decide +kernel
theorem dX6_mastOf_15 : decode cX6_mastOf 15 = .ok (.tableswitch 70 0 5 #[37, 37, 44, 51, 58, 64], 37) := by decide +kernel
theorem dX6_mastOf_52 : decode cX6_mastOf 52 = .ok (.aload_n 0, 1) := by decide +kernel
theorem dX6_mastOf_53 : decode cX6_mastOf 53 = .ok (.iload_n 1, 1) := by decide +kernel
theorem dX6_mastOf_54 : decode cX6_mastOf 54 = .ok (.iload_n 2, 1) := by decide +kernel
theorem dX6_mastOf_55 : decode cX6_mastOf 55 = .ok (.invokevirtual 57, 3) := by decide +kernel
theorem dX6_mastOf_58 : decode cX6_mastOf 58 = .ok (.ireturn, 1) := by decide +kernel
theorem dX6_mastOf_59 : decode cX6_mastOf 59 = .ok (.aload_n 0, 1) := by decide +kernel
theorem dX6_mastOf_60 : decode cX6_mastOf 60 = .ok (.iload_n 1, 1) := by decide +kernel
theorem dX6_mastOf_61 : decode cX6_mastOf 61 = .ok (.iconst 0, 1) := by decide +kernel
theorem dX6_mastOf_62 : decode cX6_mastOf 62 = .ok (.invokevirtual 60, 3) := by decide +kernel
theorem dX6_mastOf_65 : decode cX6_mastOf 65 = .ok (.ireturn, 1) := by decide +kernel
theorem dX6_mastOf_66 : decode cX6_mastOf 66 = .ok (.aload_n 0, 1) := by decide +kernel
theorem dX6_mastOf_67 : decode cX6_mastOf 67 = .ok (.iload_n 1, 1) := by decide +kernel
theorem dX6_mastOf_68 : decode cX6_mastOf 68 = .ok (.iconst 1, 1) := by decide +kernel
theorem dX6_mastOf_69 : decode cX6_mastOf 69 = .ok (.invokevirtual 60, 3) := by decide +kernel
theorem dX6_mastOf_72 : decode cX6_mastOf 72 = .ok (.ireturn, 1) := by decide +kernel
theorem dX6_mastOf_73 : decode cX6_mastOf 73 = .ok (.aload_n 0, 1) := by decide +kernel
theorem dX6_mastOf_74 : decode cX6_mastOf 74 = .ok (.iload_n 1, 1) := by decide +kernel
theorem dX6_mastOf_75 : decode cX6_mastOf 75 = .ok (.invokevirtual 89, 3) := by decide +kernel
theorem dX6_mastOf_78 : decode cX6_mastOf 78 = .ok (.ireturn, 1) := by decide +kernel
theorem dX6_mastOf_79 : decode cX6_mastOf 79 = .ok (.aload_n 0, 1) := by decide +kernel
theorem dX6_mastOf_80 : decode cX6_mastOf 80 = .ok (.iload_n 1, 1) := by decide +kernel
theorem dX6_mastOf_81 : decode cX6_mastOf 81 = .ok (.invokevirtual 92, 3) := by decide +kernel
theorem dX6_mastOf_84 : decode cX6_mastOf 84 = .ok (.ireturn, 1) := by decide +kernel
theorem dX6_mastOf_85 : decode cX6_mastOf 85 = .ok (.aload_n 0, 1) := by decide +kernel
theorem dX6_mastOf_86 : decode cX6_mastOf 86 = .ok (.ldc 48, 2) := by decide +kernel
theorem dX6_mastOf_88 : decode cX6_mastOf 88 = .ok (.invokevirtual 82, 3) := by decide +kernel
theorem dX6_mastOf_91 : decode cX6_mastOf 91 = .ok (.ireturn, 1) := by decide +kernel
theorem dX6_sumOf_0 : decode cX6_sumOf 0 = .ok (.iconst 0, 1) := by decide +kernel
theorem dX6_sumOf_1 : decode cX6_sumOf 1 = .ok (.istore_n 2, 1) := by decide +kernel
theorem dX6_sumOf_2 : decode cX6_sumOf 2 = .ok (.iconst 0, 1) := by decide +kernel
theorem dX6_sumOf_3 : decode cX6_sumOf 3 = .ok (.istore_n 3, 1) := by decide +kernel
theorem dX6_sumOf_4 : decode cX6_sumOf 4 = .ok (.iload_n 3, 1) := by decide +kernel
theorem dX6_sumOf_5 : decode cX6_sumOf 5 = .ok (.aload_n 0, 1) := by decide +kernel
theorem dX6_sumOf_6 : decode cX6_sumOf 6 = .ok (.getfield 7, 3) := by decide +kernel
theorem dX6_sumOf_9 : decode cX6_sumOf 9 = .ok (.iconst 1, 1) := by decide +kernel
theorem dX6_sumOf_10 : decode cX6_sumOf 10 = .ok (.iaload, 1) := by decide +kernel
theorem dX6_sumOf_11 : decode cX6_sumOf 11 = .ok (.if_icmp .ge 18, 3) := by decide +kernel
theorem dX6_sumOf_14 : decode cX6_sumOf 14 = .ok (.iload_n 2, 1) := by decide +kernel
theorem dX6_sumOf_15 : decode cX6_sumOf 15 = .ok (.aload_n 0, 1) := by decide +kernel
theorem dX6_sumOf_16 : decode cX6_sumOf 16 = .ok (.iload_n 3, 1) := by decide +kernel
theorem dX6_sumOf_17 : decode cX6_sumOf 17 = .ok (.iload_n 1, 1) := by decide +kernel
theorem dX6_sumOf_18 : decode cX6_sumOf 18 = .ok (.invokevirtual 53, 3) := by decide +kernel
theorem dX6_sumOf_21 : decode cX6_sumOf 21 = .ok (.iadd, 1) := by decide +kernel
theorem dX6_sumOf_22 : decode cX6_sumOf 22 = .ok (.istore_n 2, 1) := by decide +kernel
theorem dX6_sumOf_23 : decode cX6_sumOf 23 = .ok (.iinc 3 1, 3) := by decide +kernel
theorem dX6_sumOf_26 : decode cX6_sumOf 26 = .ok (.goto (-22), 3) := by decide +kernel
theorem dX6_sumOf_29 : decode cX6_sumOf 29 = .ok (.iload_n 2, 1) := by decide +kernel
theorem dX6_sumOf_30 : decode cX6_sumOf 30 = .ok (.ireturn, 1) := by decide +kernel
theorem dX6_now_0 : decode cX6_now 0 = .ok (.iload_n 1, 1) := by decide +kernel
theorem dX6_now_1 : decode cX6_now 1 = .ok (.tableswitch 77 0 5 #[39, 46, 56, 61, 66, 71], 39) := by decide +kernel
theorem dX6_now_40 : decode cX6_now 40 = .ok (.aload_n 0, 1) := by decide +kernel
theorem dX6_now_41 : decode cX6_now 41 = .ok (.getfield 7, 3) := by decide +kernel
theorem dX6_now_44 : decode cX6_now 44 = .ok (.iconst 0, 1) := by decide +kernel
theorem dX6_now_45 : decode cX6_now 45 = .ok (.iaload, 1) := by decide +kernel
theorem dX6_now_46 : decode cX6_now 46 = .ok (.ireturn, 1) := by decide +kernel
theorem dX6_now_47 : decode cX6_now 47 = .ok (.aload_n 0, 1) := by decide +kernel
theorem dX6_now_48 : decode cX6_now 48 = .ok (.getfield 7, 3) := by decide +kernel
theorem dX6_now_51 : decode cX6_now 51 = .ok (.iconst 0, 1) := by decide +kernel
theorem dX6_now_52 : decode cX6_now 52 = .ok (.iaload, 1) := by decide +kernel
theorem dX6_now_53 : decode cX6_now 53 = .ok (.bipush 12, 2) := by decide +kernel
theorem dX6_now_55 : decode cX6_now 55 = .ok (.irem, 1) := by decide +kernel
theorem dX6_now_56 : decode cX6_now 56 = .ok (.ireturn, 1) := by decide +kernel
theorem dX6_now_57 : decode cX6_now 57 = .ok (.aload_n 0, 1) := by decide +kernel
theorem dX6_now_58 : decode cX6_now 58 = .ok (.invokevirtual 68, 3) := by decide +kernel
theorem dX6_now_61 : decode cX6_now 61 = .ok (.ireturn, 1) := by decide +kernel
theorem dX6_now_62 : decode cX6_now 62 = .ok (.aload_n 0, 1) := by decide +kernel
theorem dX6_now_63 : decode cX6_now 63 = .ok (.invokevirtual 95, 3) := by decide +kernel
theorem dX6_now_66 : decode cX6_now 66 = .ok (.ireturn, 1) := by decide +kernel
theorem dX6_now_67 : decode cX6_now 67 = .ok (.aload_n 0, 1) := by decide +kernel
theorem dX6_now_68 : decode cX6_now 68 = .ok (.invokevirtual 98, 3) := by decide +kernel
theorem dX6_now_71 : decode cX6_now 71 = .ok (.ireturn, 1) := by decide +kernel
theorem dX6_now_72 : decode cX6_now 72 = .ok (.aload_n 0, 1) := by decide +kernel
theorem dX6_now_73 : decode cX6_now 73 = .ok (.iconst 2, 1) := by decide +kernel
theorem dX6_now_74 : decode cX6_now 74 = .ok (.invokevirtual 101, 3) := by decide +kernel
theorem dX6_now_77 : decode cX6_now 77 = .ok (.ireturn, 1) := by decide +kernel
theorem dX6_now_78 : decode cX6_now 78 = .ok (.aload_n 0, 1) := by decide +kernel
theorem dX6_now_79 : decode cX6_now 79 = .ok (.ldc 48, 2) := by decide +kernel
theorem dX6_now_81 : decode cX6_now 81 = .ok (.invokevirtual 82, 3) := by decide +kernel
theorem dX6_now_84 : decode cX6_now 84 = .ok (.ireturn, 1) := by decide +kernel
theorem dX6_adds_0 : decode cX6_adds 0 = .ok (.aload_n 0, 1) := by decide +kernel
theorem dX6_adds_1 : decode cX6_adds 1 = .ok (.getfield 7, 3) := by decide +kernel
theorem dX6_adds_4 : decode cX6_adds 4 = .ok (.iconst 1, 1) := by decide +kernel
theorem dX6_adds_5 : decode cX6_adds 5 = .ok (.iaload, 1) := by decide +kernel
theorem dX6_adds_6 : decode cX6_adds 6 = .ok (.istore 5, 2) := by decide +kernel
theorem dX6_adds_8 : decode cX6_adds 8 = .ok (.aload_n 0, 1) := by decide +kernel
theorem dX6_adds_9 : decode cX6_adds 9 = .ok (.iload 5, 2) := by decide +kernel
theorem dX6_adds_11 : decode cX6_adds 11 = .ok (.iconst 0, 1) := by decide +kernel
theorem dX6_adds_12 : decode cX6_adds 12 = .ok (.iload_n 1, 1) := by decide +kernel
theorem dX6_adds_13 : decode cX6_adds 13 = .ok (.invokevirtual 104, 3) := by decide +kernel
theorem dX6_adds_16 : decode cX6_adds 16 = .ok (.aload_n 0, 1) := by decide +kernel
theorem dX6_adds_17 : decode cX6_adds 17 = .ok (.iload 5, 2) := by decide +kernel
theorem dX6_adds_19 : decode cX6_adds 19 = .ok (.iconst 1, 1) := by decide +kernel
theorem dX6_adds_20 : decode cX6_adds 20 = .ok (.iload_n 2, 1) := by decide +kernel
theorem dX6_adds_21 : decode cX6_adds 21 = .ok (.invokevirtual 104, 3) := by decide +kernel
theorem dX6_adds_24 : decode cX6_adds 24 = .ok (.aload_n 0, 1) := by decide +kernel
theorem dX6_adds_25 : decode cX6_adds 25 = .ok (.iload 5, 2) := by decide +kernel
theorem dX6_adds_27 : decode cX6_adds 27 = .ok (.iconst 2, 1) := by decide +kernel
theorem dX6_adds_28 : decode cX6_adds 28 = .ok (.iload_n 3, 1) := by decide +kernel
theorem dX6_adds_29 : decode cX6_adds 29 = .ok (.invokevirtual 104, 3) := by decide +kernel
theorem dX6_adds_32 : decode cX6_adds 32 = .ok (.aload_n 0, 1) := by decide +kernel
theorem dX6_adds_33 : decode cX6_adds 33 = .ok (.iload 5, 2) := by decide +kernel
theorem dX6_adds_35 : decode cX6_adds 35 = .ok (.iconst 3, 1) := by decide +kernel
theorem dX6_adds_36 : decode cX6_adds 36 = .ok (.iload 4, 2) := by decide +kernel
theorem dX6_adds_38 : decode cX6_adds 38 = .ok (.invokevirtual 104, 3) := by decide +kernel
theorem dX6_adds_41 : decode cX6_adds 41 = .ok (.aload_n 0, 1) := by decide +kernel
theorem dX6_adds_42 : decode cX6_adds 42 = .ok (.iload 5, 2) := by decide +kernel
theorem dX6_adds_44 : decode cX6_adds 44 = .ok (.iconst 4, 1) := by decide +kernel
theorem dX6_adds_45 : decode cX6_adds 45 = .ok (.iconst 0, 1) := by decide +kernel
theorem dX6_adds_46 : decode cX6_adds 46 = .ok (.invokevirtual 104, 3) := by decide +kernel
theorem dX6_adds_49 : decode cX6_adds 49 = .ok (.aload_n 0, 1) := by decide +kernel
theorem dX6_adds_50 : decode cX6_adds 50 = .ok (.getfield 7, 3) := by decide +kernel
theorem dX6_adds_53 : decode cX6_adds 53 = .ok (.iconst 1, 1) := by decide +kernel
theorem dX6_adds_54 : decode cX6_adds 54 = .ok (.dup2, 1) := by decide +kernel
theorem dX6_adds_55 : decode cX6_adds 55 = .ok (.iaload, 1) := by decide +kernel
theorem dX6_adds_56 : decode cX6_adds 56 = .ok (.iconst 1, 1) := by decide +kernel
theorem dX6_adds_57 : decode cX6_adds 57 = .ok (.iadd, 1) := by decide +kernel
theorem dX6_adds_58 : decode cX6_adds 58 = .ok (.iastore, 1) := by decide +kernel
theorem dX6_adds_59 : decode cX6_adds 59 = .ok (.return_, 1) := by decide +kernel
theorem dX6_knot_0 : decode cX6_knot 0 = .ok (.iload_n 1, 1) := by decide +kernel
theorem dX6_knot_1 : decode cX6_knot 1 = .ok (.invokestatic 107, 3) := by decide +kernel
theorem dX6_knot_4 : decode cX6_knot 4 = .ok (.ifCond .eq 10, 3) := by decide +kernel
theorem dX6_knot_7 : decode cX6_knot 7 = .ok (.iload_n 2, 1) := by decide +kernel
theorem dX6_knot_8 : decode cX6_knot 8 = .ok (.invokestatic 85, 3) := by decide +kernel
theorem dX6_knot_11 : decode cX6_knot 11 = .ok (.ifCond .ne 10, 3) := by decide +kernel
theorem dX6_knot_14 : decode cX6_knot 14 = .ok (.aload_n 0, 1) := by decide +kernel
theorem dX6_knot_15 : decode cX6_knot 15 = .ok (.ldc 48, 2) := by decide +kernel
theorem dX6_knot_17 : decode cX6_knot 17 = .ok (.invokevirtual 82, 3) := by decide +kernel
theorem dX6_knot_20 : decode cX6_knot 20 = .ok (.ireturn, 1) := by decide +kernel
theorem dX6_knot_21 : decode cX6_knot 21 = .ok (.aload_n 0, 1) := by decide +kernel
theorem dX6_knot_22 : decode cX6_knot 22 = .ok (.getfield 7, 3) := by decide +kernel
theorem dX6_knot_25 : decode cX6_knot 25 = .ok (.iconst 1, 1) := by decide +kernel
theorem dX6_knot_26 : decode cX6_knot 26 = .ok (.iaload, 1) := by decide +kernel
theorem dX6_knot_27 : decode cX6_knot 27 = .ok (.bipush 10, 2) := by decide +kernel
theorem dX6_knot_29 : decode cX6_knot 29 = .ok (.if_icmp .ne 10, 3) := by decide +kernel
theorem dX6_knot_32 : decode cX6_knot 32 = .ok (.aload_n 0, 1) := by decide +kernel
theorem dX6_knot_33 : decode cX6_knot 33 = .ok (.ldc 110, 2) := by decide +kernel
theorem dX6_knot_35 : decode cX6_knot 35 = .ok (.invokevirtual 82, 3) := by decide +kernel
theorem dX6_knot_38 : decode cX6_knot 38 = .ok (.ireturn, 1) := by decide +kernel
theorem dX6_knot_39 : decode cX6_knot 39 = .ok (.aload_n 0, 1) := by decide +kernel
theorem dX6_knot_40 : decode cX6_knot 40 = .ok (.iload_n 1, 1) := by decide +kernel
theorem dX6_knot_41 : decode cX6_knot 41 = .ok (.iload_n 2, 1) := by decide +kernel
theorem dX6_knot_42 : decode cX6_knot 42 = .ok (.bipush 50, 2) := by decide +kernel
theorem dX6_knot_44 : decode cX6_knot 44 = .ok (.iconst 1, 1) := by decide +kernel
theorem dX6_knot_45 : decode cX6_knot 45 = .ok (.invokevirtual 111, 3) := by decide +kernel
theorem dX6_knot_48 : decode cX6_knot 48 = .ok (.aload_n 0, 1) := by decide +kernel
theorem dX6_knot_49 : decode cX6_knot 49 = .ok (.getfield 7, 3) := by decide +kernel
theorem dX6_knot_52 : decode cX6_knot 52 = .ok (.iconst 1, 1) := by decide +kernel
theorem dX6_knot_53 : decode cX6_knot 53 = .ok (.iaload, 1) := by decide +kernel
theorem dX6_knot_54 : decode cX6_knot 54 = .ok (.iconst 1, 1) := by decide +kernel
theorem dX6_knot_55 : decode cX6_knot 55 = .ok (.isub, 1) := by decide +kernel
theorem dX6_knot_56 : decode cX6_knot 56 = .ok (.ireturn, 1) := by decide +kernel
theorem dX6_of_0 : decode cX6_of 0 = .ok (.aload_n 0, 1) := by decide +kernel
theorem dX6_of_1 : decode cX6_of 1 = .ok (.iload_n 1, 1) := by decide +kernel
theorem dX6_of_2 : decode cX6_of 2 = .ok (.invokevirtual 115, 3) := by decide +kernel
theorem dX6_of_5 : decode cX6_of 5 = .ok (.ifCond .eq 13, 3) := by decide +kernel
theorem dX6_of_8 : decode cX6_of 8 = .ok (.iload_n 2, 1) := by decide +kernel
theorem dX6_of_9 : decode cX6_of 9 = .ok (.iconst 0, 1) := by decide +kernel
theorem dX6_of_10 : decode cX6_of 10 = .ok (.bipush 8, 2) := by decide +kernel
theorem dX6_of_12 : decode cX6_of 12 = .ok (.invokestatic 49, 3) := by decide +kernel
theorem dX6_of_15 : decode cX6_of 15 = .ok (.ifCond .ne 10, 3) := by decide +kernel
theorem dX6_of_18 : decode cX6_of 18 = .ok (.aload_n 0, 1) := by decide +kernel
theorem dX6_of_19 : decode cX6_of 19 = .ok (.ldc 48, 2) := by decide +kernel
theorem dX6_of_21 : decode cX6_of 21 = .ok (.invokevirtual 82, 3) := by decide +kernel
theorem dX6_of_24 : decode cX6_of 24 = .ok (.ireturn, 1) := by decide +kernel
theorem dX6_of_25 : decode cX6_of 25 = .ok (.iload_n 2, 1) := by decide +kernel
theorem dX6_of_26 : decode cX6_of 26 = .ok (.tableswitch 88 5 8 #[30, 36, 45, 54], 30) := by decide +kernel
theorem dX6_of_56 : decode cX6_of 56 = .ok (.aload_n 0, 1) := by decide +kernel
theorem dX6_of_57 : decode cX6_of 57 = .ok (.iload_n 1, 1) := by decide +kernel
theorem dX6_of_58 : decode cX6_of 58 = .ok (.invokevirtual 76, 3) := by decide +kernel
theorem dX6_of_61 : decode cX6_of 61 = .ok (.ireturn, 1) := by decide +kernel
theorem dX6_of_62 : decode cX6_of 62 = .ok (.bipush 100, 2) := by decide +kernel
theorem dX6_of_64 : decode cX6_of 64 = .ok (.aload_n 0, 1) := by decide +kernel
theorem dX6_of_65 : decode cX6_of 65 = .ok (.iload_n 1, 1) := by decide +kernel
theorem dX6_of_66 : decode cX6_of 66 = .ok (.invokevirtual 118, 3) := by decide +kernel
theorem dX6_of_69 : decode cX6_of 69 = .ok (.iadd, 1) := by decide +kernel
theorem dX6_of_70 : decode cX6_of 70 = .ok (.ireturn, 1) := by decide +kernel
theorem dX6_of_71 : decode cX6_of 71 = .ok (.bipush 100, 2) := by decide +kernel
theorem dX6_of_73 : decode cX6_of 73 = .ok (.aload_n 0, 1) := by decide +kernel
theorem dX6_of_74 : decode cX6_of 74 = .ok (.iload_n 1, 1) := by decide +kernel
theorem dX6_of_75 : decode cX6_of 75 = .ok (.invokevirtual 121, 3) := by decide +kernel
theorem dX6_of_78 : decode cX6_of 78 = .ok (.iadd, 1) := by decide +kernel
theorem dX6_of_79 : decode cX6_of 79 = .ok (.ireturn, 1) := by decide +kernel
theorem dX6_of_80 : decode cX6_of 80 = .ok (.aload_n 0, 1) := by decide +kernel
theorem dX6_of_81 : decode cX6_of 81 = .ok (.iload_n 1, 1) := by decide +kernel
theorem dX6_of_82 : decode cX6_of 82 = .ok (.iconst 3, 1) := by decide +kernel
theorem dX6_of_83 : decode cX6_of 83 = .ok (.invokevirtual 53, 3) := by decide +kernel
theorem dX6_of_86 : decode cX6_of 86 = .ok (.iconst 1, 1) := by decide +kernel
theorem dX6_of_87 : decode cX6_of 87 = .ok (.if_icmp .ne 25, 3) := by decide +kernel
theorem dX6_of_90 : decode cX6_of 90 = .ok (.aload_n 0, 1) := by decide +kernel
theorem dX6_of_91 : decode cX6_of 91 = .ok (.iload_n 1, 1) := by decide +kernel
theorem dX6_of_92 : decode cX6_of 92 = .ok (.aload_n 0, 1) := by decide +kernel
theorem dX6_of_93 : decode cX6_of 93 = .ok (.aload_n 0, 1) := by decide +kernel
theorem dX6_of_94 : decode cX6_of 94 = .ok (.iload_n 1, 1) := by decide +kernel
theorem dX6_of_95 : decode cX6_of 95 = .ok (.iconst 1, 1) := by decide +kernel
theorem dX6_of_96 : decode cX6_of 96 = .ok (.invokevirtual 53, 3) := by decide +kernel
theorem dX6_of_99 : decode cX6_of 99 = .ok (.invokevirtual 89, 3) := by decide +kernel
theorem dX6_of_102 : decode cX6_of 102 = .ok (.invokevirtual 124, 3) := by decide +kernel
theorem dX6_of_105 : decode cX6_of 105 = .ok (.ifCond .eq 7, 3) := by decide +kernel
theorem dX6_of_108 : decode cX6_of 108 = .ok (.iconst 1, 1) := by decide +kernel
theorem dX6_of_109 : decode cX6_of 109 = .ok (.goto 4, 3) := by decide +kernel
theorem dX6_of_112 : decode cX6_of 112 = .ok (.iconst 0, 1) := by decide +kernel
theorem dX6_of_113 : decode cX6_of 113 = .ok (.ireturn, 1) := by decide +kernel
theorem dX6_of_114 : decode cX6_of 114 = .ok (.aload_n 0, 1) := by decide +kernel
theorem dX6_of_115 : decode cX6_of 115 = .ok (.iload_n 1, 1) := by decide +kernel
theorem dX6_of_116 : decode cX6_of 116 = .ok (.iload_n 2, 1) := by decide +kernel
theorem dX6_of_117 : decode cX6_of 117 = .ok (.invokevirtual 53, 3) := by decide +kernel
theorem dX6_of_120 : decode cX6_of 120 = .ok (.ireturn, 1) := by decide +kernel
theorem dX6_isPart_0 : decode cX6_isPart 0 = .ok (.iload_n 0, 1) := by decide +kernel
theorem dX6_isPart_1 : decode cX6_isPart 1 = .ok (.lookupswitch 40 #[(1, 27), (2, 32)], 27) := by decide +kernel
theorem dX6_isPart_28 : decode cX6_isPart 28 = .ok (.iload_n 1, 1) := by decide +kernel
theorem dX6_isPart_29 : decode cX6_isPart 29 = .ok (.invokestatic 85, 3) := by decide +kernel
theorem dX6_isPart_32 : decode cX6_isPart 32 = .ok (.ireturn, 1) := by decide +kernel
theorem dX6_isPart_33 : decode cX6_isPart 33 = .ok (.iload_n 1, 1) := by decide +kernel
theorem dX6_isPart_34 : decode cX6_isPart 34 = .ok (.iconst 0, 1) := by decide +kernel
theorem dX6_isPart_35 : decode cX6_isPart 35 = .ok (.bipush 99, 2) := by decide +kernel
theorem dX6_isPart_37 : decode cX6_isPart 37 = .ok (.invokestatic 49, 3) := by decide +kernel
theorem dX6_isPart_40 : decode cX6_isPart 40 = .ok (.ireturn, 1) := by decide +kernel
theorem dX6_isPart_41 : decode cX6_isPart 41 = .ok (.iload_n 0, 1) := by decide +kernel
theorem dX6_isPart_42 : decode cX6_isPart 42 = .ok (.iconst 4, 1) := by decide +kernel
theorem dX6_isPart_43 : decode cX6_isPart 43 = .ok (.if_icmp .ne 18, 3) := by decide +kernel
theorem dX6_isPart_46 : decode cX6_isPart 46 = .ok (.iload_n 1, 1) := by decide +kernel
theorem dX6_isPart_47 : decode cX6_isPart 47 = .ok (.iconst 0, 1) := by decide +kernel
theorem dX6_isPart_48 : decode cX6_isPart 48 = .ok (.sipush 9999, 3) := by decide +kernel
theorem dX6_isPart_51 : decode cX6_isPart 51 = .ok (.invokestatic 49, 3) := by decide +kernel
theorem dX6_isPart_54 : decode cX6_isPart 54 = .ok (.ifCond .eq 7, 3) := by decide +kernel
theorem dX6_isPart_57 : decode cX6_isPart 57 = .ok (.iconst 1, 1) := by decide +kernel
theorem dX6_isPart_58 : decode cX6_isPart 58 = .ok (.goto 4, 3) := by decide +kernel
theorem dX6_isPart_61 : decode cX6_isPart 61 = .ok (.iconst 0, 1) := by decide +kernel
theorem dX6_isPart_62 : decode cX6_isPart 62 = .ok (.ireturn, 1) := by decide +kernel
theorem dX6_set_0 : decode cX6_set 0 = .ok (.aload_n 0, 1) := by decide +kernel
theorem dX6_set_1 : decode cX6_set 1 = .ok (.iload_n 1, 1) := by decide +kernel
theorem dX6_set_2 : decode cX6_set 2 = .ok (.invokevirtual 115, 3) := by decide +kernel
theorem dX6_set_5 : decode cX6_set 5 = .ok (.ifCond .eq 27, 3) := by decide +kernel
theorem dX6_set_8 : decode cX6_set 8 = .ok (.iload_n 2, 1) := by decide +kernel
theorem dX6_set_9 : decode cX6_set 9 = .ok (.iload_n 3, 1) := by decide +kernel
theorem dX6_set_10 : decode cX6_set 10 = .ok (.invokestatic 128, 3) := by decide +kernel
theorem dX6_set_13 : decode cX6_set 13 = .ok (.ifCond .eq 19, 3) := by decide +kernel
theorem dX6_set_16 : decode cX6_set 16 = .ok (.aload_n 0, 1) := by decide +kernel
theorem dX6_set_17 : decode cX6_set 17 = .ok (.bipush 22, 2) := by decide +kernel
theorem dX6_set_19 : decode cX6_set 19 = .ok (.iconst 5, 1) := by decide +kernel
theorem dX6_set_20 : decode cX6_set 20 = .ok (.iload_n 1, 1) := by decide +kernel
theorem dX6_set_21 : decode cX6_set 21 = .ok (.imul, 1) := by decide +kernel
theorem dX6_set_22 : decode cX6_set 22 = .ok (.iadd, 1) := by decide +kernel
theorem dX6_set_23 : decode cX6_set 23 = .ok (.iload_n 2, 1) := by decide +kernel
theorem dX6_set_24 : decode cX6_set 24 = .ok (.iadd, 1) := by decide +kernel
theorem dX6_set_25 : decode cX6_set 25 = .ok (.iload_n 3, 1) := by decide +kernel
theorem dX6_set_26 : decode cX6_set 26 = .ok (.invokevirtual 79, 3) := by decide +kernel
theorem dX6_set_29 : decode cX6_set 29 = .ok (.goto 9, 3) := by decide +kernel
theorem dX6_set_32 : decode cX6_set 32 = .ok (.aload_n 0, 1) := by decide +kernel
theorem dX6_set_33 : decode cX6_set 33 = .ok (.ldc 48, 2) := by decide +kernel
theorem dX6_set_35 : decode cX6_set 35 = .ok (.invokevirtual 82, 3) := by decide +kernel
theorem dX6_set_38 : decode cX6_set 38 = .ok (.ireturn, 1) := by decide +kernel
theorem dX6_turn_0 : decode cX6_turn 0 = .ok (.aload_n 0, 1) := by decide +kernel
theorem dX6_turn_1 : decode cX6_turn 1 = .ok (.iload_n 1, 1) := by decide +kernel
theorem dX6_turn_2 : decode cX6_turn 2 = .ok (.invokevirtual 115, 3) := by decide +kernel
theorem dX6_turn_5 : decode cX6_turn 5 = .ok (.ifCond .eq 24, 3) := by decide +kernel
theorem dX6_turn_8 : decode cX6_turn 8 = .ok (.iload_n 2, 1) := by decide +kernel
theorem dX6_turn_9 : decode cX6_turn 9 = .ok (.invokestatic 107, 3) := by decide +kernel
theorem dX6_turn_12 : decode cX6_turn 12 = .ok (.ifCond .eq 17, 3) := by decide +kernel
theorem dX6_turn_15 : decode cX6_turn 15 = .ok (.aload_n 0, 1) := by decide +kernel
theorem dX6_turn_16 : decode cX6_turn 16 = .ok (.bipush 22, 2) := by decide +kernel
theorem dX6_turn_18 : decode cX6_turn 18 = .ok (.iconst 5, 1) := by decide +kernel
theorem dX6_turn_19 : decode cX6_turn 19 = .ok (.iload_n 1, 1) := by decide +kernel
theorem dX6_turn_20 : decode cX6_turn 20 = .ok (.imul, 1) := by decide +kernel
theorem dX6_turn_21 : decode cX6_turn 21 = .ok (.iadd, 1) := by decide +kernel
theorem dX6_turn_22 : decode cX6_turn 22 = .ok (.iload_n 2, 1) := by decide +kernel
theorem dX6_turn_23 : decode cX6_turn 23 = .ok (.invokevirtual 79, 3) := by decide +kernel
theorem dX6_turn_26 : decode cX6_turn 26 = .ok (.goto 9, 3) := by decide +kernel
theorem dX6_turn_29 : decode cX6_turn 29 = .ok (.aload_n 0, 1) := by decide +kernel
theorem dX6_turn_30 : decode cX6_turn 30 = .ok (.ldc 48, 2) := by decide +kernel
theorem dX6_turn_32 : decode cX6_turn 32 = .ok (.invokevirtual 82, 3) := by decide +kernel
theorem dX6_turn_35 : decode cX6_turn 35 = .ok (.ireturn, 1) := by decide +kernel
theorem dX6_as_0 : decode cX6_as 0 = .ok (.aload_n 0, 1) := by decide +kernel
theorem dX6_as_1 : decode cX6_as 1 = .ok (.iload_n 1, 1) := by decide +kernel
theorem dX6_as_2 : decode cX6_as 2 = .ok (.invokevirtual 115, 3) := by decide +kernel
theorem dX6_as_5 : decode cX6_as 5 = .ok (.ifCond .eq 10, 3) := by decide +kernel
theorem dX6_as_8 : decode cX6_as 8 = .ok (.iload_n 2, 1) := by decide +kernel
theorem dX6_as_9 : decode cX6_as 9 = .ok (.invokestatic 107, 3) := by decide +kernel
theorem dX6_as_12 : decode cX6_as 12 = .ok (.ifCond .ne 10, 3) := by decide +kernel
theorem dX6_as_15 : decode cX6_as 15 = .ok (.aload_n 0, 1) := by decide +kernel
theorem dX6_as_16 : decode cX6_as 16 = .ok (.ldc 48, 2) := by decide +kernel
theorem dX6_as_18 : decode cX6_as 18 = .ok (.invokevirtual 82, 3) := by decide +kernel
theorem dX6_as_21 : decode cX6_as 21 = .ok (.ireturn, 1) := by decide +kernel
theorem dX6_as_22 : decode cX6_as 22 = .ok (.aload_n 0, 1) := by decide +kernel
theorem dX6_as_23 : decode cX6_as 23 = .ok (.iload_n 1, 1) := by decide +kernel
theorem dX6_as_24 : decode cX6_as 24 = .ok (.iconst 0, 1) := by decide +kernel
theorem dX6_as_25 : decode cX6_as 25 = .ok (.invokevirtual 53, 3) := by decide +kernel
theorem dX6_as_28 : decode cX6_as 28 = .ok (.istore_n 3, 1) := by decide +kernel
theorem dX6_as_29 : decode cX6_as 29 = .ok (.iload_n 2, 1) := by decide +kernel
theorem dX6_as_30 : decode cX6_as 30 = .ok (.ifCond .eq 28, 3) := by decide +kernel
theorem dX6_as_33 : decode cX6_as 33 = .ok (.iload_n 2, 1) := by decide +kernel
theorem dX6_as_34 : decode cX6_as 34 = .ok (.iload_n 3, 1) := by decide +kernel
theorem dX6_as_35 : decode cX6_as 35 = .ok (.if_icmp .eq 23, 3) := by decide +kernel
theorem dX6_as_38 : decode cX6_as 38 = .ok (.iload_n 2, 1) := by decide +kernel
theorem dX6_as_39 : decode cX6_as 39 = .ok (.iconst 1, 1) := by decide +kernel
theorem dX6_as_40 : decode cX6_as 40 = .ok (.if_icmp .ne 8, 3) := by decide +kernel
theorem dX6_as_43 : decode cX6_as 43 = .ok (.iload_n 3, 1) := by decide +kernel
theorem dX6_as_44 : decode cX6_as 44 = .ok (.iconst 4, 1) := by decide +kernel
theorem dX6_as_45 : decode cX6_as 45 = .ok (.if_icmp .eq 13, 3) := by decide +kernel
theorem dX6_as_48 : decode cX6_as 48 = .ok (.iload_n 2, 1) := by decide +kernel
theorem dX6_as_49 : decode cX6_as 49 = .ok (.iconst 2, 1) := by decide +kernel
theorem dX6_as_50 : decode cX6_as 50 = .ok (.if_icmp .ne 12, 3) := by decide +kernel
theorem dX6_as_53 : decode cX6_as 53 = .ok (.iload_n 3, 1) := by decide +kernel
theorem dX6_as_54 : decode cX6_as 54 = .ok (.iconst 5, 1) := by decide +kernel
theorem dX6_as_55 : decode cX6_as 55 = .ok (.if_icmp .ne 7, 3) := by decide +kernel
theorem dX6_as_58 : decode cX6_as 58 = .ok (.iconst 1, 1) := by decide +kernel
theorem dX6_as_59 : decode cX6_as 59 = .ok (.goto 4, 3) := by decide +kernel
theorem dX6_as_62 : decode cX6_as 62 = .ok (.iconst 0, 1) := by decide +kernel
theorem dX6_as_63 : decode cX6_as 63 = .ok (.istore 4, 2) := by decide +kernel
theorem dX6_as_65 : decode cX6_as 65 = .ok (.iload 4, 2) := by decide +kernel
theorem dX6_as_67 : decode cX6_as 67 = .ok (.ifCond .eq 12, 3) := by decide +kernel
theorem dX6_as_70 : decode cX6_as 70 = .ok (.aload_n 0, 1) := by decide +kernel
theorem dX6_as_71 : decode cX6_as 71 = .ok (.iload_n 1, 1) := by decide +kernel
theorem dX6_as_72 : decode cX6_as 72 = .ok (.iconst 2, 1) := by decide +kernel
theorem dX6_as_73 : decode cX6_as 73 = .ok (.invokevirtual 53, 3) := by decide +kernel
theorem dX6_as_76 : decode cX6_as 76 = .ok (.goto 9, 3) := by decide +kernel
theorem dX6_as_79 : decode cX6_as 79 = .ok (.aload_n 0, 1) := by decide +kernel
theorem dX6_as_80 : decode cX6_as 80 = .ok (.ldc 131, 2) := by decide +kernel
theorem dX6_as_82 : decode cX6_as 82 = .ok (.invokevirtual 82, 3) := by decide +kernel
theorem dX6_as_85 : decode cX6_as 85 = .ok (.ireturn, 1) := by decide +kernel
theorem dX6_teases_0 : decode cX6_teases 0 = .ok (.aload_n 0, 1) := by decide +kernel
theorem dX6_teases_1 : decode cX6_teases 1 = .ok (.iload_n 1, 1) := by decide +kernel
theorem dX6_teases_2 : decode cX6_teases 2 = .ok (.iconst 2, 1) := by decide +kernel
theorem dX6_teases_3 : decode cX6_teases 3 = .ok (.aload_n 0, 1) := by decide +kernel
theorem dX6_teases_4 : decode cX6_teases 4 = .ok (.iload_n 1, 1) := by decide +kernel
theorem dX6_teases_5 : decode cX6_teases 5 = .ok (.iconst 2, 1) := by decide +kernel
theorem dX6_teases_6 : decode cX6_teases 6 = .ok (.invokevirtual 53, 3) := by decide +kernel
theorem dX6_teases_9 : decode cX6_teases 9 = .ok (.aload_n 0, 1) := by decide +kernel
theorem dX6_teases_10 : decode cX6_teases 10 = .ok (.iload_n 1, 1) := by decide +kernel
theorem dX6_teases_11 : decode cX6_teases 11 = .ok (.invokevirtual 121, 3) := by decide +kernel
theorem dX6_teases_14 : decode cX6_teases 14 = .ok (.iadd, 1) := by decide +kernel
theorem dX6_teases_15 : decode cX6_teases 15 = .ok (.iconst 0, 1) := by decide +kernel
theorem dX6_teases_16 : decode cX6_teases 16 = .ok (.bipush 99, 2) := by decide +kernel
theorem dX6_teases_18 : decode cX6_teases 18 = .ok (.invokestatic 72, 3) := by decide +kernel
theorem dX6_teases_21 : decode cX6_teases 21 = .ok (.invokevirtual 104, 3) := by decide +kernel
theorem dX6_teases_24 : decode cX6_teases 24 = .ok (.return_, 1) := by decide +kernel
theorem dX6_tease_0 : decode cX6_tease 0 = .ok (.aload_n 0, 1) := by decide +kernel
theorem dX6_tease_1 : decode cX6_tease 1 = .ok (.iload_n 1, 1) := by decide +kernel
theorem dX6_tease_2 : decode cX6_tease 2 = .ok (.invokevirtual 115, 3) := by decide +kernel
theorem dX6_tease_5 : decode cX6_tease 5 = .ok (.ifCond .ne 10, 3) := by decide +kernel
theorem dX6_tease_8 : decode cX6_tease 8 = .ok (.aload_n 0, 1) := by decide +kernel
theorem dX6_tease_9 : decode cX6_tease 9 = .ok (.ldc 48, 2) := by decide +kernel
theorem dX6_tease_11 : decode cX6_tease 11 = .ok (.invokevirtual 82, 3) := by decide +kernel
theorem dX6_tease_14 : decode cX6_tease 14 = .ok (.ireturn, 1) := by decide +kernel
theorem dX6_tease_15 : decode cX6_tease 15 = .ok (.aload_n 0, 1) := by decide +kernel
theorem dX6_tease_16 : decode cX6_tease 16 = .ok (.iload_n 1, 1) := by decide +kernel
theorem dX6_tease_17 : decode cX6_tease 17 = .ok (.invokevirtual 132, 3) := by decide +kernel
theorem dX6_tease_20 : decode cX6_tease 20 = .ok (.aload_n 0, 1) := by decide +kernel
theorem dX6_tease_21 : decode cX6_tease 21 = .ok (.iload_n 1, 1) := by decide +kernel
theorem dX6_tease_22 : decode cX6_tease 22 = .ok (.iconst 2, 1) := by decide +kernel
theorem dX6_tease_23 : decode cX6_tease 23 = .ok (.invokevirtual 53, 3) := by decide +kernel
theorem dX6_tease_26 : decode cX6_tease 26 = .ok (.ireturn, 1) := by decide +kernel
theorem dX6_tie_0 : decode cX6_tie 0 = .ok (.aload_n 0, 1) := by decide +kernel
theorem dX6_tie_1 : decode cX6_tie 1 = .ok (.iload_n 1, 1) := by decide +kernel
theorem dX6_tie_2 : decode cX6_tie 2 = .ok (.invokevirtual 115, 3) := by decide +kernel
theorem dX6_tie_5 : decode cX6_tie 5 = .ok (.ifCond .ne 10, 3) := by decide +kernel
theorem dX6_tie_8 : decode cX6_tie 8 = .ok (.aload_n 0, 1) := by decide +kernel
theorem dX6_tie_9 : decode cX6_tie 9 = .ok (.ldc 48, 2) := by decide +kernel
theorem dX6_tie_11 : decode cX6_tie 11 = .ok (.invokevirtual 82, 3) := by decide +kernel
theorem dX6_tie_14 : decode cX6_tie 14 = .ok (.ireturn, 1) := by decide +kernel
theorem dX6_tie_15 : decode cX6_tie 15 = .ok (.aload_n 0, 1) := by decide +kernel
theorem dX6_tie_16 : decode cX6_tie 16 = .ok (.iload_n 1, 1) := by decide +kernel
theorem dX6_tie_17 : decode cX6_tie 17 = .ok (.iconst 3, 1) := by decide +kernel
theorem dX6_tie_18 : decode cX6_tie 18 = .ok (.invokevirtual 53, 3) := by decide +kernel
theorem dX6_tie_21 : decode cX6_tie 21 = .ok (.iconst 1, 1) := by decide +kernel
theorem dX6_tie_22 : decode cX6_tie 22 = .ok (.if_icmp .ne 10, 3) := by decide +kernel
theorem dX6_tie_25 : decode cX6_tie 25 = .ok (.aload_n 0, 1) := by decide +kernel
theorem dX6_tie_26 : decode cX6_tie 26 = .ok (.ldc 136, 2) := by decide +kernel
theorem dX6_tie_28 : decode cX6_tie 28 = .ok (.invokevirtual 82, 3) := by decide +kernel
theorem dX6_tie_31 : decode cX6_tie 31 = .ok (.ireturn, 1) := by decide +kernel
theorem dX6_tie_32 : decode cX6_tie 32 = .ok (.aload_n 0, 1) := by decide +kernel
theorem dX6_tie_33 : decode cX6_tie 33 = .ok (.iload_n 1, 1) := by decide +kernel
theorem dX6_tie_34 : decode cX6_tie 34 = .ok (.iconst 3, 1) := by decide +kernel
theorem dX6_tie_35 : decode cX6_tie 35 = .ok (.iconst 1, 1) := by decide +kernel
theorem dX6_tie_36 : decode cX6_tie 36 = .ok (.invokevirtual 104, 3) := by decide +kernel
theorem dX6_tie_39 : decode cX6_tie 39 = .ok (.aload_n 0, 1) := by decide +kernel
theorem dX6_tie_40 : decode cX6_tie 40 = .ok (.iload_n 1, 1) := by decide +kernel
theorem dX6_tie_41 : decode cX6_tie 41 = .ok (.iconst 4, 1) := by decide +kernel
theorem dX6_tie_42 : decode cX6_tie 42 = .ok (.iconst 0, 1) := by decide +kernel
theorem dX6_tie_43 : decode cX6_tie 43 = .ok (.invokevirtual 104, 3) := by decide +kernel
theorem dX6_tie_46 : decode cX6_tie 46 = .ok (.iconst 1, 1) := by decide +kernel
theorem dX6_tie_47 : decode cX6_tie 47 = .ok (.ireturn, 1) := by decide +kernel
theorem dX6_cast_0 : decode cX6_cast 0 = .ok (.aload_n 0, 1) := by decide +kernel
theorem dX6_cast_1 : decode cX6_cast 1 = .ok (.iload_n 1, 1) := by decide +kernel
theorem dX6_cast_2 : decode cX6_cast 2 = .ok (.invokevirtual 115, 3) := by decide +kernel
theorem dX6_cast_5 : decode cX6_cast 5 = .ok (.ifCond .ne 10, 3) := by decide +kernel
theorem dX6_cast_8 : decode cX6_cast 8 = .ok (.aload_n 0, 1) := by decide +kernel
theorem dX6_cast_9 : decode cX6_cast 9 = .ok (.ldc 48, 2) := by decide +kernel
theorem dX6_cast_11 : decode cX6_cast 11 = .ok (.invokevirtual 82, 3) := by decide +kernel
theorem dX6_cast_14 : decode cX6_cast 14 = .ok (.ireturn, 1) := by decide +kernel
theorem dX6_cast_15 : decode cX6_cast 15 = .ok (.aload_n 0, 1) := by decide +kernel
theorem dX6_cast_16 : decode cX6_cast 16 = .ok (.iload_n 1, 1) := by decide +kernel
theorem dX6_cast_17 : decode cX6_cast 17 = .ok (.iconst 3, 1) := by decide +kernel
theorem dX6_cast_18 : decode cX6_cast 18 = .ok (.invokevirtual 53, 3) := by decide +kernel
theorem dX6_cast_21 : decode cX6_cast 21 = .ok (.ifCond .ne 10, 3) := by decide +kernel
theorem dX6_cast_24 : decode cX6_cast 24 = .ok (.aload_n 0, 1) := by decide +kernel
theorem dX6_cast_25 : decode cX6_cast 25 = .ok (.ldc 136, 2) := by decide +kernel
theorem dX6_cast_27 : decode cX6_cast 27 = .ok (.invokevirtual 82, 3) := by decide +kernel
theorem dX6_cast_30 : decode cX6_cast 30 = .ok (.ireturn, 1) := by decide +kernel
theorem dX6_cast_31 : decode cX6_cast 31 = .ok (.aload_n 0, 1) := by decide +kernel
theorem dX6_cast_32 : decode cX6_cast 32 = .ok (.iload_n 1, 1) := by decide +kernel
theorem dX6_cast_33 : decode cX6_cast 33 = .ok (.iconst 3, 1) := by decide +kernel
theorem dX6_cast_34 : decode cX6_cast 34 = .ok (.iconst 0, 1) := by decide +kernel
theorem dX6_cast_35 : decode cX6_cast 35 = .ok (.invokevirtual 104, 3) := by decide +kernel
theorem dX6_cast_38 : decode cX6_cast 38 = .ok (.aload_n 0, 1) := by decide +kernel
theorem dX6_cast_39 : decode cX6_cast 39 = .ok (.iload_n 1, 1) := by decide +kernel
theorem dX6_cast_40 : decode cX6_cast 40 = .ok (.iconst 4, 1) := by decide +kernel
theorem dX6_cast_41 : decode cX6_cast 41 = .ok (.invokevirtual 53, 3) := by decide +kernel
theorem dX6_cast_44 : decode cX6_cast 44 = .ok (.ireturn, 1) := by decide +kernel
theorem dX6_pulls_0 : decode cX6_pulls 0 = .ok (.aload_n 0, 1) := by decide +kernel
theorem dX6_pulls_1 : decode cX6_pulls 1 = .ok (.iload_n 1, 1) := by decide +kernel
theorem dX6_pulls_2 : decode cX6_pulls 2 = .ok (.invokevirtual 89, 3) := by decide +kernel
theorem dX6_pulls_5 : decode cX6_pulls 5 = .ok (.istore_n 2, 1) := by decide +kernel
theorem dX6_pulls_6 : decode cX6_pulls 6 = .ok (.iconst 0, 1) := by decide +kernel
theorem dX6_pulls_7 : decode cX6_pulls 7 = .ok (.istore_n 3, 1) := by decide +kernel
theorem dX6_pulls_8 : decode cX6_pulls 8 = .ok (.iconst 0, 1) := by decide +kernel
theorem dX6_pulls_9 : decode cX6_pulls 9 = .ok (.istore 4, 2) := by decide +kernel
theorem dX6_pulls_11 : decode cX6_pulls 11 = .ok (.iload 4, 2) := by decide +kernel
theorem dX6_pulls_13 : decode cX6_pulls 13 = .ok (.aload_n 0, 1) := by decide +kernel
theorem dX6_pulls_14 : decode cX6_pulls 14 = .ok (.getfield 7, 3) := by decide +kernel
theorem dX6_pulls_17 : decode cX6_pulls 17 = .ok (.iconst 1, 1) := by decide +kernel
theorem dX6_pulls_18 : decode cX6_pulls 18 = .ok (.iaload, 1) := by decide +kernel
theorem dX6_pulls_19 : decode cX6_pulls 19 = .ok (.if_icmp .ge 52, 3) := by decide +kernel
theorem dX6_pulls_22 : decode cX6_pulls 22 = .ok (.iload_n 3, 1) := by decide +kernel
theorem dX6_pulls_23 : decode cX6_pulls 23 = .ok (.aload_n 0, 1) := by decide +kernel
theorem dX6_pulls_24 : decode cX6_pulls 24 = .ok (.iload 4, 2) := by decide +kernel
theorem dX6_pulls_26 : decode cX6_pulls 26 = .ok (.iconst 1, 1) := by decide +kernel
theorem dX6_pulls_27 : decode cX6_pulls 27 = .ok (.invokevirtual 53, 3) := by decide +kernel
theorem dX6_pulls_30 : decode cX6_pulls 30 = .ok (.iload_n 1, 1) := by decide +kernel
theorem dX6_pulls_31 : decode cX6_pulls 31 = .ok (.if_icmp .ne 31, 3) := by decide +kernel
theorem dX6_pulls_34 : decode cX6_pulls 34 = .ok (.aload_n 0, 1) := by decide +kernel
theorem dX6_pulls_35 : decode cX6_pulls 35 = .ok (.iload 4, 2) := by decide +kernel
theorem dX6_pulls_37 : decode cX6_pulls 37 = .ok (.iconst 3, 1) := by decide +kernel
theorem dX6_pulls_38 : decode cX6_pulls 38 = .ok (.invokevirtual 53, 3) := by decide +kernel
theorem dX6_pulls_41 : decode cX6_pulls 41 = .ok (.iconst 1, 1) := by decide +kernel
theorem dX6_pulls_42 : decode cX6_pulls 42 = .ok (.if_icmp .ne 20, 3) := by decide +kernel
theorem dX6_pulls_45 : decode cX6_pulls 45 = .ok (.aload_n 0, 1) := by decide +kernel
theorem dX6_pulls_46 : decode cX6_pulls 46 = .ok (.iload 4, 2) := by decide +kernel
theorem dX6_pulls_48 : decode cX6_pulls 48 = .ok (.iload_n 2, 1) := by decide +kernel
theorem dX6_pulls_49 : decode cX6_pulls 49 = .ok (.invokevirtual 124, 3) := by decide +kernel
theorem dX6_pulls_52 : decode cX6_pulls 52 = .ok (.ifCond .eq 10, 3) := by decide +kernel
theorem dX6_pulls_55 : decode cX6_pulls 55 = .ok (.iconst 1, 1) := by decide +kernel
theorem dX6_pulls_56 : decode cX6_pulls 56 = .ok (.iload 4, 2) := by decide +kernel
theorem dX6_pulls_58 : decode cX6_pulls 58 = .ok (.ishl, 1) := by decide +kernel
theorem dX6_pulls_59 : decode cX6_pulls 59 = .ok (.goto 4, 3) := by decide +kernel
theorem dX6_pulls_62 : decode cX6_pulls 62 = .ok (.iconst 0, 1) := by decide +kernel
theorem dX6_pulls_63 : decode cX6_pulls 63 = .ok (.ior, 1) := by decide +kernel
theorem dX6_pulls_64 : decode cX6_pulls 64 = .ok (.istore_n 3, 1) := by decide +kernel
theorem dX6_pulls_65 : decode cX6_pulls 65 = .ok (.iinc 4 1, 3) := by decide +kernel
theorem dX6_pulls_68 : decode cX6_pulls 68 = .ok (.goto (-57), 3) := by decide +kernel
theorem dX6_pulls_71 : decode cX6_pulls 71 = .ok (.iconst 0, 1) := by decide +kernel
theorem dX6_pulls_72 : decode cX6_pulls 72 = .ok (.istore 4, 2) := by decide +kernel
theorem dX6_pulls_74 : decode cX6_pulls 74 = .ok (.iload 4, 2) := by decide +kernel
theorem dX6_pulls_76 : decode cX6_pulls 76 = .ok (.aload_n 0, 1) := by decide +kernel
theorem dX6_pulls_77 : decode cX6_pulls 77 = .ok (.getfield 7, 3) := by decide +kernel
theorem dX6_pulls_80 : decode cX6_pulls 80 = .ok (.iconst 1, 1) := by decide +kernel
theorem dX6_pulls_81 : decode cX6_pulls 81 = .ok (.iaload, 1) := by decide +kernel
theorem dX6_pulls_82 : decode cX6_pulls 82 = .ok (.if_icmp .ge 37, 3) := by decide +kernel
theorem dX6_pulls_85 : decode cX6_pulls 85 = .ok (.aload_n 0, 1) := by decide +kernel
theorem dX6_pulls_86 : decode cX6_pulls 86 = .ok (.iload 4, 2) := by decide +kernel
theorem dX6_pulls_88 : decode cX6_pulls 88 = .ok (.iconst 3, 1) := by decide +kernel
theorem dX6_pulls_89 : decode cX6_pulls 89 = .ok (.iload_n 3, 1) := by decide +kernel
theorem dX6_pulls_90 : decode cX6_pulls 90 = .ok (.iload 4, 2) := by decide +kernel
theorem dX6_pulls_92 : decode cX6_pulls 92 = .ok (.ishr, 1) := by decide +kernel
theorem dX6_pulls_93 : decode cX6_pulls 93 = .ok (.iconst 1, 1) := by decide +kernel
theorem dX6_pulls_94 : decode cX6_pulls 94 = .ok (.iand, 1) := by decide +kernel
theorem dX6_pulls_95 : decode cX6_pulls 95 = .ok (.iconst 1, 1) := by decide +kernel
theorem dX6_pulls_96 : decode cX6_pulls 96 = .ok (.if_icmp .ne 7, 3) := by decide +kernel
theorem dX6_pulls_99 : decode cX6_pulls 99 = .ok (.iconst 0, 1) := by decide +kernel
theorem dX6_pulls_100 : decode cX6_pulls 100 = .ok (.goto 10, 3) := by decide +kernel
theorem dX6_pulls_103 : decode cX6_pulls 103 = .ok (.aload_n 0, 1) := by decide +kernel
theorem dX6_pulls_104 : decode cX6_pulls 104 = .ok (.iload 4, 2) := by decide +kernel
theorem dX6_pulls_106 : decode cX6_pulls 106 = .ok (.iconst 3, 1) := by decide +kernel
theorem dX6_pulls_107 : decode cX6_pulls 107 = .ok (.invokevirtual 53, 3) := by decide +kernel
theorem dX6_pulls_110 : decode cX6_pulls 110 = .ok (.invokevirtual 104, 3) := by decide +kernel
theorem dX6_pulls_113 : decode cX6_pulls 113 = .ok (.iinc 4 1, 3) := by decide +kernel
theorem dX6_pulls_116 : decode cX6_pulls 116 = .ok (.goto (-42), 3) := by decide +kernel
theorem dX6_pulls_119 : decode cX6_pulls 119 = .ok (.aload_n 0, 1) := by decide +kernel
theorem dX6_pulls_120 : decode cX6_pulls 120 = .ok (.iload_n 1, 1) := by decide +kernel
theorem dX6_pulls_121 : decode cX6_pulls 121 = .ok (.iconst 1, 1) := by decide +kernel
theorem dX6_pulls_122 : decode cX6_pulls 122 = .ok (.invokevirtual 60, 3) := by decide +kernel
theorem dX6_pulls_125 : decode cX6_pulls 125 = .ok (.ifCond .ne 10, 3) := by decide +kernel
theorem dX6_pulls_128 : decode cX6_pulls 128 = .ok (.aload_n 0, 1) := by decide +kernel
theorem dX6_pulls_129 : decode cX6_pulls 129 = .ok (.iload_n 1, 1) := by decide +kernel
theorem dX6_pulls_130 : decode cX6_pulls 130 = .ok (.iconst 1, 1) := by decide +kernel
theorem dX6_pulls_131 : decode cX6_pulls 131 = .ok (.iconst 0, 1) := by decide +kernel
theorem dX6_pulls_132 : decode cX6_pulls 132 = .ok (.invokevirtual 44, 3) := by decide +kernel
theorem dX6_pulls_135 : decode cX6_pulls 135 = .ok (.return_, 1) := by decide +kernel
theorem dX6_oneHour_0 : decode cX6_oneHour 0 = .ok (.iconst 0, 1) := by decide +kernel
theorem dX6_oneHour_1 : decode cX6_oneHour 1 = .ok (.istore_n 1, 1) := by decide +kernel
theorem dX6_oneHour_2 : decode cX6_oneHour 2 = .ok (.iload_n 1, 1) := by decide +kernel
theorem dX6_oneHour_3 : decode cX6_oneHour 3 = .ok (.iconst 4, 1) := by decide +kernel
theorem dX6_oneHour_4 : decode cX6_oneHour 4 = .ok (.if_icmp .ge 24, 3) := by decide +kernel
theorem dX6_oneHour_7 : decode cX6_oneHour 7 = .ok (.aload_n 0, 1) := by decide +kernel
theorem dX6_oneHour_8 : decode cX6_oneHour 8 = .ok (.iload_n 1, 1) := by decide +kernel
theorem dX6_oneHour_9 : decode cX6_oneHour 9 = .ok (.iconst 1, 1) := by decide +kernel
theorem dX6_oneHour_10 : decode cX6_oneHour 10 = .ok (.invokevirtual 57, 3) := by decide +kernel
theorem dX6_oneHour_13 : decode cX6_oneHour 13 = .ok (.iconst 1, 1) := by decide +kernel
theorem dX6_oneHour_14 : decode cX6_oneHour 14 = .ok (.if_icmp .ne 8, 3) := by decide +kernel
theorem dX6_oneHour_17 : decode cX6_oneHour 17 = .ok (.aload_n 0, 1) := by decide +kernel
theorem dX6_oneHour_18 : decode cX6_oneHour 18 = .ok (.iload_n 1, 1) := by decide +kernel
theorem dX6_oneHour_19 : decode cX6_oneHour 19 = .ok (.invokevirtual 137, 3) := by decide +kernel
theorem dX6_oneHour_22 : decode cX6_oneHour 22 = .ok (.iinc 1 1, 3) := by decide +kernel
theorem dX6_oneHour_25 : decode cX6_oneHour 25 = .ok (.goto (-23), 3) := by decide +kernel
theorem dX6_oneHour_28 : decode cX6_oneHour 28 = .ok (.iconst 0, 1) := by decide +kernel
theorem dX6_oneHour_29 : decode cX6_oneHour 29 = .ok (.istore_n 1, 1) := by decide +kernel
theorem dX6_oneHour_30 : decode cX6_oneHour 30 = .ok (.iload_n 1, 1) := by decide +kernel
theorem dX6_oneHour_31 : decode cX6_oneHour 31 = .ok (.aload_n 0, 1) := by decide +kernel
theorem dX6_oneHour_32 : decode cX6_oneHour 32 = .ok (.getfield 7, 3) := by decide +kernel
theorem dX6_oneHour_35 : decode cX6_oneHour 35 = .ok (.iconst 1, 1) := by decide +kernel
theorem dX6_oneHour_36 : decode cX6_oneHour 36 = .ok (.iaload, 1) := by decide +kernel
theorem dX6_oneHour_37 : decode cX6_oneHour 37 = .ok (.if_icmp .ge 64, 3) := by decide +kernel
theorem dX6_oneHour_40 : decode cX6_oneHour 40 = .ok (.aload_n 0, 1) := by decide +kernel
theorem dX6_oneHour_41 : decode cX6_oneHour 41 = .ok (.iload_n 1, 1) := by decide +kernel
theorem dX6_oneHour_42 : decode cX6_oneHour 42 = .ok (.iconst 3, 1) := by decide +kernel
theorem dX6_oneHour_43 : decode cX6_oneHour 43 = .ok (.invokevirtual 53, 3) := by decide +kernel
theorem dX6_oneHour_46 : decode cX6_oneHour 46 = .ok (.iconst 1, 1) := by decide +kernel
theorem dX6_oneHour_47 : decode cX6_oneHour 47 = .ok (.if_icmp .ne 48, 3) := by decide +kernel
theorem dX6_oneHour_50 : decode cX6_oneHour 50 = .ok (.aload_n 0, 1) := by decide +kernel
theorem dX6_oneHour_51 : decode cX6_oneHour 51 = .ok (.iload_n 1, 1) := by decide +kernel
theorem dX6_oneHour_52 : decode cX6_oneHour 52 = .ok (.iconst 2, 1) := by decide +kernel
theorem dX6_oneHour_53 : decode cX6_oneHour 53 = .ok (.aload_n 0, 1) := by decide +kernel
theorem dX6_oneHour_54 : decode cX6_oneHour 54 = .ok (.iload_n 1, 1) := by decide +kernel
theorem dX6_oneHour_55 : decode cX6_oneHour 55 = .ok (.iconst 2, 1) := by decide +kernel
theorem dX6_oneHour_56 : decode cX6_oneHour 56 = .ok (.invokevirtual 53, 3) := by decide +kernel
theorem dX6_oneHour_59 : decode cX6_oneHour 59 = .ok (.aload_n 0, 1) := by decide +kernel
theorem dX6_oneHour_60 : decode cX6_oneHour 60 = .ok (.iload_n 1, 1) := by decide +kernel
theorem dX6_oneHour_61 : decode cX6_oneHour 61 = .ok (.invokevirtual 118, 3) := by decide +kernel
theorem dX6_oneHour_64 : decode cX6_oneHour 64 = .ok (.isub, 1) := by decide +kernel
theorem dX6_oneHour_65 : decode cX6_oneHour 65 = .ok (.iconst 0, 1) := by decide +kernel
theorem dX6_oneHour_66 : decode cX6_oneHour 66 = .ok (.bipush 99, 2) := by decide +kernel
theorem dX6_oneHour_68 : decode cX6_oneHour 68 = .ok (.invokestatic 72, 3) := by decide +kernel
theorem dX6_oneHour_71 : decode cX6_oneHour 71 = .ok (.invokevirtual 104, 3) := by decide +kernel
theorem dX6_oneHour_74 : decode cX6_oneHour 74 = .ok (.aload_n 0, 1) := by decide +kernel
theorem dX6_oneHour_75 : decode cX6_oneHour 75 = .ok (.iload_n 1, 1) := by decide +kernel
theorem dX6_oneHour_76 : decode cX6_oneHour 76 = .ok (.iconst 4, 1) := by decide +kernel
theorem dX6_oneHour_77 : decode cX6_oneHour 77 = .ok (.aload_n 0, 1) := by decide +kernel
theorem dX6_oneHour_78 : decode cX6_oneHour 78 = .ok (.iload_n 1, 1) := by decide +kernel
theorem dX6_oneHour_79 : decode cX6_oneHour 79 = .ok (.iconst 4, 1) := by decide +kernel
theorem dX6_oneHour_80 : decode cX6_oneHour 80 = .ok (.invokevirtual 53, 3) := by decide +kernel
theorem dX6_oneHour_83 : decode cX6_oneHour 83 = .ok (.iconst 1, 1) := by decide +kernel
theorem dX6_oneHour_84 : decode cX6_oneHour 84 = .ok (.iadd, 1) := by decide +kernel
theorem dX6_oneHour_85 : decode cX6_oneHour 85 = .ok (.iconst 0, 1) := by decide +kernel
theorem dX6_oneHour_86 : decode cX6_oneHour 86 = .ok (.sipush 9999, 3) := by decide +kernel
theorem dX6_oneHour_89 : decode cX6_oneHour 89 = .ok (.invokestatic 72, 3) := by decide +kernel
theorem dX6_oneHour_92 : decode cX6_oneHour 92 = .ok (.invokevirtual 104, 3) := by decide +kernel
theorem dX6_oneHour_95 : decode cX6_oneHour 95 = .ok (.iinc 1 1, 3) := by decide +kernel
theorem dX6_oneHour_98 : decode cX6_oneHour 98 = .ok (.goto (-68), 3) := by decide +kernel
theorem dX6_oneHour_101 : decode cX6_oneHour 101 = .ok (.aload_n 0, 1) := by decide +kernel
theorem dX6_oneHour_102 : decode cX6_oneHour 102 = .ok (.getfield 7, 3) := by decide +kernel
theorem dX6_oneHour_105 : decode cX6_oneHour 105 = .ok (.iconst 0, 1) := by decide +kernel
theorem dX6_oneHour_106 : decode cX6_oneHour 106 = .ok (.dup2, 1) := by decide +kernel
theorem dX6_oneHour_107 : decode cX6_oneHour 107 = .ok (.iaload, 1) := by decide +kernel
theorem dX6_oneHour_108 : decode cX6_oneHour 108 = .ok (.iconst 1, 1) := by decide +kernel
theorem dX6_oneHour_109 : decode cX6_oneHour 109 = .ok (.iadd, 1) := by decide +kernel
theorem dX6_oneHour_110 : decode cX6_oneHour 110 = .ok (.iastore, 1) := by decide +kernel
theorem dX6_oneHour_111 : decode cX6_oneHour 111 = .ok (.return_, 1) := by decide +kernel
theorem dX6_passes_0 : decode cX6_passes 0 = .ok (.iconst 0, 1) := by decide +kernel
theorem dX6_passes_1 : decode cX6_passes 1 = .ok (.istore_n 2, 1) := by decide +kernel
theorem dX6_passes_2 : decode cX6_passes 2 = .ok (.iload_n 2, 1) := by decide +kernel
theorem dX6_passes_3 : decode cX6_passes 3 = .ok (.iload_n 1, 1) := by decide +kernel
theorem dX6_passes_4 : decode cX6_passes 4 = .ok (.if_icmp .ge 13, 3) := by decide +kernel
theorem dX6_passes_7 : decode cX6_passes 7 = .ok (.aload_n 0, 1) := by decide +kernel
theorem dX6_passes_8 : decode cX6_passes 8 = .ok (.invokevirtual 140, 3) := by decide +kernel
theorem dX6_passes_11 : decode cX6_passes 11 = .ok (.iinc 2 1, 3) := by decide +kernel
theorem dX6_passes_14 : decode cX6_passes 14 = .ok (.goto (-12), 3) := by decide +kernel
theorem dX6_passes_17 : decode cX6_passes 17 = .ok (.return_, 1) := by decide +kernel
theorem dX6_hours_0 : decode cX6_hours 0 = .ok (.iload_n 1, 1) := by decide +kernel
theorem dX6_hours_1 : decode cX6_hours 1 = .ok (.iconst 1, 1) := by decide +kernel
theorem dX6_hours_2 : decode cX6_hours 2 = .ok (.bipush 100, 2) := by decide +kernel
theorem dX6_hours_4 : decode cX6_hours 4 = .ok (.invokestatic 49, 3) := by decide +kernel
theorem dX6_hours_7 : decode cX6_hours 7 = .ok (.ifCond .ne 10, 3) := by decide +kernel
theorem dX6_hours_10 : decode cX6_hours 10 = .ok (.aload_n 0, 1) := by decide +kernel
theorem dX6_hours_11 : decode cX6_hours 11 = .ok (.ldc 48, 2) := by decide +kernel
theorem dX6_hours_13 : decode cX6_hours 13 = .ok (.invokevirtual 82, 3) := by decide +kernel
theorem dX6_hours_16 : decode cX6_hours 16 = .ok (.ireturn, 1) := by decide +kernel
theorem dX6_hours_17 : decode cX6_hours 17 = .ok (.aload_n 0, 1) := by decide +kernel
theorem dX6_hours_18 : decode cX6_hours 18 = .ok (.getfield 7, 3) := by decide +kernel
theorem dX6_hours_21 : decode cX6_hours 21 = .ok (.iconst 0, 1) := by decide +kernel
theorem dX6_hours_22 : decode cX6_hours 22 = .ok (.iaload, 1) := by decide +kernel
theorem dX6_hours_23 : decode cX6_hours 23 = .ok (.iload_n 1, 1) := by decide +kernel
theorem dX6_hours_24 : decode cX6_hours 24 = .ok (.iadd, 1) := by decide +kernel
theorem dX6_hours_25 : decode cX6_hours 25 = .ok (.ldc 143, 2) := by decide +kernel
theorem dX6_hours_27 : decode cX6_hours 27 = .ok (.if_icmp .le 10, 3) := by decide +kernel
theorem dX6_hours_30 : decode cX6_hours 30 = .ok (.aload_n 0, 1) := by decide +kernel
theorem dX6_hours_31 : decode cX6_hours 31 = .ok (.ldc 136, 2) := by decide +kernel
theorem dX6_hours_33 : decode cX6_hours 33 = .ok (.invokevirtual 82, 3) := by decide +kernel
theorem dX6_hours_36 : decode cX6_hours 36 = .ok (.ireturn, 1) := by decide +kernel
theorem dX6_hours_37 : decode cX6_hours 37 = .ok (.aload_n 0, 1) := by decide +kernel
theorem dX6_hours_38 : decode cX6_hours 38 = .ok (.iload_n 1, 1) := by decide +kernel
theorem dX6_hours_39 : decode cX6_hours 39 = .ok (.invokevirtual 144, 3) := by decide +kernel
theorem dX6_hours_42 : decode cX6_hours 42 = .ok (.aload_n 0, 1) := by decide +kernel
theorem dX6_hours_43 : decode cX6_hours 43 = .ok (.invokevirtual 95, 3) := by decide +kernel
theorem dX6_hours_46 : decode cX6_hours 46 = .ok (.ireturn, 1) := by decide +kernel
theorem dX6_on_0 : decode cX6_on 0 = .ok (.aload_n 0, 1) := by decide +kernel
theorem dX6_on_1 : decode cX6_on 1 = .ok (.iload_n 1, 1) := by decide +kernel
theorem dX6_on_2 : decode cX6_on 2 = .ok (.invokevirtual 115, 3) := by decide +kernel
theorem dX6_on_5 : decode cX6_on 5 = .ok (.ifCond .eq 23, 3) := by decide +kernel
theorem dX6_on_8 : decode cX6_on 8 = .ok (.iload_n 2, 1) := by decide +kernel
theorem dX6_on_9 : decode cX6_on 9 = .ok (.iconst 0, 1) := by decide +kernel
theorem dX6_on_10 : decode cX6_on 10 = .ok (.sipush 200, 3) := by decide +kernel
theorem dX6_on_13 : decode cX6_on 13 = .ok (.invokestatic 49, 3) := by decide +kernel
theorem dX6_on_16 : decode cX6_on 16 = .ok (.ifCond .eq 12, 3) := by decide +kernel
theorem dX6_on_19 : decode cX6_on 19 = .ok (.iload_n 3, 1) := by decide +kernel
theorem dX6_on_20 : decode cX6_on 20 = .ok (.iconst 0, 1) := by decide +kernel
theorem dX6_on_21 : decode cX6_on 21 = .ok (.iconst 2, 1) := by decide +kernel
theorem dX6_on_22 : decode cX6_on 22 = .ok (.invokestatic 49, 3) := by decide +kernel
theorem dX6_on_25 : decode cX6_on 25 = .ok (.ifCond .ne 10, 3) := by decide +kernel
theorem dX6_on_28 : decode cX6_on 28 = .ok (.aload_n 0, 1) := by decide +kernel
theorem dX6_on_29 : decode cX6_on 29 = .ok (.ldc 48, 2) := by decide +kernel
theorem dX6_on_31 : decode cX6_on 31 = .ok (.invokevirtual 82, 3) := by decide +kernel
theorem dX6_on_34 : decode cX6_on 34 = .ok (.ireturn, 1) := by decide +kernel
theorem dX6_on_35 : decode cX6_on 35 = .ok (.aload_n 0, 1) := by decide +kernel
theorem dX6_on_36 : decode cX6_on 36 = .ok (.iconst 1, 1) := by decide +kernel
theorem dX6_on_37 : decode cX6_on 37 = .ok (.aload_n 0, 1) := by decide +kernel
theorem dX6_on_38 : decode cX6_on 38 = .ok (.getfield 16, 3) := by decide +kernel
theorem dX6_on_41 : decode cX6_on 41 = .ok (.invokevirtual 147, 3) := by decide +kernel
theorem dX6_on_44 : decode cX6_on 44 = .ok (.aload_n 0, 1) := by decide +kernel
theorem dX6_on_45 : decode cX6_on 45 = .ok (.iload_n 2, 1) := by decide +kernel
theorem dX6_on_46 : decode cX6_on 46 = .ok (.invokevirtual 144, 3) := by decide +kernel
theorem dX6_on_49 : decode cX6_on 49 = .ok (.aload_n 0, 1) := by decide +kernel
theorem dX6_on_50 : decode cX6_on 50 = .ok (.iload_n 1, 1) := by decide +kernel
theorem dX6_on_51 : decode cX6_on 51 = .ok (.iconst 2, 1) := by decide +kernel
theorem dX6_on_52 : decode cX6_on 52 = .ok (.iload_n 3, 1) := by decide +kernel
theorem dX6_on_53 : decode cX6_on 53 = .ok (.iadd, 1) := by decide +kernel
theorem dX6_on_54 : decode cX6_on 54 = .ok (.invokevirtual 53, 3) := by decide +kernel
theorem dX6_on_57 : decode cX6_on 57 = .ok (.istore 4, 2) := by decide +kernel
theorem dX6_on_59 : decode cX6_on 59 = .ok (.aload_n 0, 1) := by decide +kernel
theorem dX6_on_60 : decode cX6_on 60 = .ok (.iconst 0, 1) := by decide +kernel
theorem dX6_on_61 : decode cX6_on 61 = .ok (.aload_n 0, 1) := by decide +kernel
theorem dX6_on_62 : decode cX6_on 62 = .ok (.getfield 16, 3) := by decide +kernel
theorem dX6_on_65 : decode cX6_on 65 = .ok (.invokevirtual 147, 3) := by decide +kernel
theorem dX6_on_68 : decode cX6_on 68 = .ok (.iload 4, 2) := by decide +kernel
theorem dX6_on_70 : decode cX6_on 70 = .ok (.ireturn, 1) := by decide +kernel
theorem dX6_then_0 : decode cX6_then 0 = .ok (.iload_n 1, 1) := by decide +kernel
theorem dX6_then_1 : decode cX6_then 1 = .ok (.iconst 0, 1) := by decide +kernel
theorem dX6_then_2 : decode cX6_then 2 = .ok (.sipush 200, 3) := by decide +kernel
theorem dX6_then_5 : decode cX6_then 5 = .ok (.invokestatic 49, 3) := by decide +kernel
theorem dX6_then_8 : decode cX6_then 8 = .ok (.ifCond .eq 12, 3) := by decide +kernel
theorem dX6_then_11 : decode cX6_then 11 = .ok (.iload_n 2, 1) := by decide +kernel
theorem dX6_then_12 : decode cX6_then 12 = .ok (.iconst 0, 1) := by decide +kernel
theorem dX6_then_13 : decode cX6_then 13 = .ok (.iconst 1, 1) := by decide +kernel
theorem dX6_then_14 : decode cX6_then 14 = .ok (.invokestatic 49, 3) := by decide +kernel
theorem dX6_then_17 : decode cX6_then 17 = .ok (.ifCond .ne 10, 3) := by decide +kernel
theorem dX6_then_20 : decode cX6_then 20 = .ok (.aload_n 0, 1) := by decide +kernel
theorem dX6_then_21 : decode cX6_then 21 = .ok (.ldc 48, 2) := by decide +kernel
theorem dX6_then_23 : decode cX6_then 23 = .ok (.invokevirtual 82, 3) := by decide +kernel
theorem dX6_then_26 : decode cX6_then 26 = .ok (.ireturn, 1) := by decide +kernel
theorem dX6_then_27 : decode cX6_then 27 = .ok (.aload_n 0, 1) := by decide +kernel
theorem dX6_then_28 : decode cX6_then 28 = .ok (.iconst 1, 1) := by decide +kernel
theorem dX6_then_29 : decode cX6_then 29 = .ok (.aload_n 0, 1) := by decide +kernel
theorem dX6_then_30 : decode cX6_then 30 = .ok (.getfield 16, 3) := by decide +kernel
theorem dX6_then_33 : decode cX6_then 33 = .ok (.invokevirtual 147, 3) := by decide +kernel
theorem dX6_then_36 : decode cX6_then 36 = .ok (.aload_n 0, 1) := by decide +kernel
theorem dX6_then_37 : decode cX6_then 37 = .ok (.iload_n 1, 1) := by decide +kernel
theorem dX6_then_38 : decode cX6_then 38 = .ok (.invokevirtual 144, 3) := by decide +kernel
theorem dX6_then_41 : decode cX6_then 41 = .ok (.iload_n 2, 1) := by decide +kernel
theorem dX6_then_42 : decode cX6_then 42 = .ok (.ifCond .ne 10, 3) := by decide +kernel
theorem dX6_then_45 : decode cX6_then 45 = .ok (.aload_n 0, 1) := by decide +kernel
theorem dX6_then_46 : decode cX6_then 46 = .ok (.invokevirtual 95, 3) := by decide +kernel
theorem dX6_then_49 : decode cX6_then 49 = .ok (.goto 7, 3) := by decide +kernel
theorem dX6_then_52 : decode cX6_then 52 = .ok (.aload_n 0, 1) := by decide +kernel
theorem dX6_then_53 : decode cX6_then 53 = .ok (.invokevirtual 98, 3) := by decide +kernel
theorem dX6_then_56 : decode cX6_then 56 = .ok (.istore_n 3, 1) := by decide +kernel
theorem dX6_then_57 : decode cX6_then 57 = .ok (.aload_n 0, 1) := by decide +kernel
theorem dX6_then_58 : decode cX6_then 58 = .ok (.iconst 0, 1) := by decide +kernel
theorem dX6_then_59 : decode cX6_then 59 = .ok (.aload_n 0, 1) := by decide +kernel
theorem dX6_then_60 : decode cX6_then 60 = .ok (.getfield 16, 3) := by decide +kernel
theorem dX6_then_63 : decode cX6_then 63 = .ok (.invokevirtual 147, 3) := by decide +kernel
theorem dX6_then_66 : decode cX6_then 66 = .ok (.iload_n 3, 1) := by decide +kernel
theorem dX6_then_67 : decode cX6_then 67 = .ok (.ireturn, 1) := by decide +kernel
theorem dX6_goneIn_0 : decode cX6_goneIn 0 = .ok (.iconst 0, 1) := by decide +kernel
theorem dX6_goneIn_1 : decode cX6_goneIn 1 = .ok (.istore_n 2, 1) := by decide +kernel
theorem dX6_goneIn_2 : decode cX6_goneIn 2 = .ok (.iload_n 2, 1) := by decide +kernel
theorem dX6_goneIn_3 : decode cX6_goneIn 3 = .ok (.sipush 200, 3) := by decide +kernel
theorem dX6_goneIn_6 : decode cX6_goneIn 6 = .ok (.if_icmp .gt 23, 3) := by decide +kernel
theorem dX6_goneIn_9 : decode cX6_goneIn 9 = .ok (.aload_n 0, 1) := by decide +kernel
theorem dX6_goneIn_10 : decode cX6_goneIn 10 = .ok (.getfield 7, 3) := by decide +kernel
theorem dX6_goneIn_13 : decode cX6_goneIn 13 = .ok (.iload_n 1, 1) := by decide +kernel
theorem dX6_goneIn_14 : decode cX6_goneIn 14 = .ok (.iaload, 1) := by decide +kernel
theorem dX6_goneIn_15 : decode cX6_goneIn 15 = .ok (.iconst 1, 1) := by decide +kernel
theorem dX6_goneIn_16 : decode cX6_goneIn 16 = .ok (.if_icmp .ne 13, 3) := by decide +kernel
theorem dX6_goneIn_19 : decode cX6_goneIn 19 = .ok (.aload_n 0, 1) := by decide +kernel
theorem dX6_goneIn_20 : decode cX6_goneIn 20 = .ok (.invokevirtual 140, 3) := by decide +kernel
theorem dX6_goneIn_23 : decode cX6_goneIn 23 = .ok (.iinc 2 1, 3) := by decide +kernel
theorem dX6_goneIn_26 : decode cX6_goneIn 26 = .ok (.goto (-24), 3) := by decide +kernel
theorem dX6_goneIn_29 : decode cX6_goneIn 29 = .ok (.aload_n 0, 1) := by decide +kernel
theorem dX6_goneIn_30 : decode cX6_goneIn 30 = .ok (.iconst 0, 1) := by decide +kernel
theorem dX6_goneIn_31 : decode cX6_goneIn 31 = .ok (.aload_n 0, 1) := by decide +kernel
theorem dX6_goneIn_32 : decode cX6_goneIn 32 = .ok (.getfield 16, 3) := by decide +kernel
theorem dX6_goneIn_35 : decode cX6_goneIn 35 = .ok (.invokevirtual 147, 3) := by decide +kernel
theorem dX6_goneIn_38 : decode cX6_goneIn 38 = .ok (.iload_n 2, 1) := by decide +kernel
theorem dX6_goneIn_39 : decode cX6_goneIn 39 = .ok (.ireturn, 1) := by decide +kernel
theorem dX6_falls_0 : decode cX6_falls 0 = .ok (.iload_n 1, 1) := by decide +kernel
theorem dX6_falls_1 : decode cX6_falls 1 = .ok (.invokestatic 85, 3) := by decide +kernel
theorem dX6_falls_4 : decode cX6_falls 4 = .ok (.ifCond .ne 10, 3) := by decide +kernel
theorem dX6_falls_7 : decode cX6_falls 7 = .ok (.aload_n 0, 1) := by decide +kernel
theorem dX6_falls_8 : decode cX6_falls 8 = .ok (.ldc 48, 2) := by decide +kernel
theorem dX6_falls_10 : decode cX6_falls 10 = .ok (.invokevirtual 82, 3) := by decide +kernel
theorem dX6_falls_13 : decode cX6_falls 13 = .ok (.ireturn, 1) := by decide +kernel
theorem dX6_falls_14 : decode cX6_falls 14 = .ok (.aload_n 0, 1) := by decide +kernel
theorem dX6_falls_15 : decode cX6_falls 15 = .ok (.iconst 1, 1) := by decide +kernel
theorem dX6_falls_16 : decode cX6_falls 16 = .ok (.aload_n 0, 1) := by decide +kernel
theorem dX6_falls_17 : decode cX6_falls 17 = .ok (.getfield 16, 3) := by decide +kernel
theorem dX6_falls_20 : decode cX6_falls 20 = .ok (.invokevirtual 147, 3) := by decide +kernel
theorem dX6_falls_23 : decode cX6_falls 23 = .ok (.aload_n 0, 1) := by decide +kernel
theorem dX6_falls_24 : decode cX6_falls 24 = .ok (.bipush 14, 2) := by decide +kernel
theorem dX6_falls_26 : decode cX6_falls 26 = .ok (.iconst 2, 1) := by decide +kernel
theorem dX6_falls_27 : decode cX6_falls 27 = .ok (.iload_n 1, 1) := by decide +kernel
theorem dX6_falls_28 : decode cX6_falls 28 = .ok (.imul, 1) := by decide +kernel
theorem dX6_falls_29 : decode cX6_falls 29 = .ok (.iadd, 1) := by decide +kernel
theorem dX6_falls_30 : decode cX6_falls 30 = .ok (.iconst 1, 1) := by decide +kernel
theorem dX6_falls_31 : decode cX6_falls 31 = .ok (.iadd, 1) := by decide +kernel
theorem dX6_falls_32 : decode cX6_falls 32 = .ok (.invokevirtual 151, 3) := by decide +kernel
theorem dX6_falls_35 : decode cX6_falls 35 = .ok (.istore_n 2, 1) := by decide +kernel
theorem dX6_falls_36 : decode cX6_falls 36 = .ok (.iload_n 2, 1) := by decide +kernel
theorem dX6_falls_37 : decode cX6_falls 37 = .ok (.sipush 200, 3) := by decide +kernel
theorem dX6_falls_40 : decode cX6_falls 40 = .ok (.if_icmp .le 12, 3) := by decide +kernel
theorem dX6_falls_43 : decode cX6_falls 43 = .ok (.aload_n 0, 1) := by decide +kernel
theorem dX6_falls_44 : decode cX6_falls 44 = .ok (.ldc 154, 2) := by decide +kernel
theorem dX6_falls_46 : decode cX6_falls 46 = .ok (.invokevirtual 82, 3) := by decide +kernel
theorem dX6_falls_49 : decode cX6_falls 49 = .ok (.goto 4, 3) := by decide +kernel
theorem dX6_falls_52 : decode cX6_falls 52 = .ok (.iload_n 2, 1) := by decide +kernel
theorem dX6_falls_53 : decode cX6_falls 53 = .ok (.ireturn, 1) := by decide +kernel
theorem dX6_gives_0 : decode cX6_gives 0 = .ok (.aload_n 0, 1) := by decide +kernel
theorem dX6_gives_1 : decode cX6_gives 1 = .ok (.iload_n 1, 1) := by decide +kernel
theorem dX6_gives_2 : decode cX6_gives 2 = .ok (.invokevirtual 115, 3) := by decide +kernel
theorem dX6_gives_5 : decode cX6_gives 5 = .ok (.ifCond .ne 10, 3) := by decide +kernel
theorem dX6_gives_8 : decode cX6_gives 8 = .ok (.aload_n 0, 1) := by decide +kernel
theorem dX6_gives_9 : decode cX6_gives 9 = .ok (.ldc 48, 2) := by decide +kernel
theorem dX6_gives_11 : decode cX6_gives 11 = .ok (.invokevirtual 82, 3) := by decide +kernel
theorem dX6_gives_14 : decode cX6_gives 14 = .ok (.ireturn, 1) := by decide +kernel
theorem dX6_gives_15 : decode cX6_gives 15 = .ok (.aload_n 0, 1) := by decide +kernel
theorem dX6_gives_16 : decode cX6_gives 16 = .ok (.iconst 1, 1) := by decide +kernel
theorem dX6_gives_17 : decode cX6_gives 17 = .ok (.aload_n 0, 1) := by decide +kernel
theorem dX6_gives_18 : decode cX6_gives 18 = .ok (.getfield 16, 3) := by decide +kernel
theorem dX6_gives_21 : decode cX6_gives 21 = .ok (.invokevirtual 147, 3) := by decide +kernel
theorem dX6_gives_24 : decode cX6_gives 24 = .ok (.aload_n 0, 1) := by decide +kernel
theorem dX6_gives_25 : decode cX6_gives 25 = .ok (.bipush 22, 2) := by decide +kernel
theorem dX6_gives_27 : decode cX6_gives 27 = .ok (.iconst 5, 1) := by decide +kernel
theorem dX6_gives_28 : decode cX6_gives 28 = .ok (.iload_n 1, 1) := by decide +kernel
theorem dX6_gives_29 : decode cX6_gives 29 = .ok (.imul, 1) := by decide +kernel
theorem dX6_gives_30 : decode cX6_gives 30 = .ok (.iadd, 1) := by decide +kernel
theorem dX6_gives_31 : decode cX6_gives 31 = .ok (.iconst 3, 1) := by decide +kernel
theorem dX6_gives_32 : decode cX6_gives 32 = .ok (.iadd, 1) := by decide +kernel
theorem dX6_gives_33 : decode cX6_gives 33 = .ok (.invokevirtual 151, 3) := by decide +kernel
theorem dX6_gives_36 : decode cX6_gives 36 = .ok (.istore_n 2, 1) := by decide +kernel
theorem dX6_gives_37 : decode cX6_gives 37 = .ok (.iload_n 2, 1) := by decide +kernel
theorem dX6_gives_38 : decode cX6_gives 38 = .ok (.sipush 200, 3) := by decide +kernel
theorem dX6_gives_41 : decode cX6_gives 41 = .ok (.if_icmp .le 12, 3) := by decide +kernel
theorem dX6_gives_44 : decode cX6_gives 44 = .ok (.aload_n 0, 1) := by decide +kernel
theorem dX6_gives_45 : decode cX6_gives 45 = .ok (.ldc 154, 2) := by decide +kernel
theorem dX6_gives_47 : decode cX6_gives 47 = .ok (.invokevirtual 82, 3) := by decide +kernel
theorem dX6_gives_50 : decode cX6_gives 50 = .ok (.goto 4, 3) := by decide +kernel
theorem dX6_gives_53 : decode cX6_gives 53 = .ok (.iload_n 2, 1) := by decide +kernel
theorem dX6_gives_54 : decode cX6_gives 54 = .ok (.ireturn, 1) := by decide +kernel
theorem dX6_best_0 : decode cX6_best 0 = .ok (.iload_n 1, 1) := by decide +kernel
theorem dX6_best_1 : decode cX6_best 1 = .ok (.invokestatic 85, 3) := by decide +kernel
theorem dX6_best_4 : decode cX6_best 4 = .ok (.ifCond .ne 10, 3) := by decide +kernel
theorem dX6_best_7 : decode cX6_best 7 = .ok (.aload_n 0, 1) := by decide +kernel
theorem dX6_best_8 : decode cX6_best 8 = .ok (.ldc 48, 2) := by decide +kernel
theorem dX6_best_10 : decode cX6_best 10 = .ok (.invokevirtual 82, 3) := by decide +kernel
theorem dX6_best_13 : decode cX6_best 13 = .ok (.ireturn, 1) := by decide +kernel
theorem dX6_best_14 : decode cX6_best 14 = .ok (.aload_n 0, 1) := by decide +kernel
theorem dX6_best_15 : decode cX6_best 15 = .ok (.iconst 1, 1) := by decide +kernel
theorem dX6_best_16 : decode cX6_best 16 = .ok (.aload_n 0, 1) := by decide +kernel
theorem dX6_best_17 : decode cX6_best 17 = .ok (.getfield 16, 3) := by decide +kernel
theorem dX6_best_20 : decode cX6_best 20 = .ok (.invokevirtual 147, 3) := by decide +kernel
theorem dX6_best_23 : decode cX6_best 23 = .ok (.iconst (-1), 1) := by decide +kernel
theorem dX6_best_24 : decode cX6_best 24 = .ok (.istore_n 2, 1) := by decide +kernel
theorem dX6_best_25 : decode cX6_best 25 = .ok (.aload_n 0, 1) := by decide +kernel
theorem dX6_best_26 : decode cX6_best 26 = .ok (.bipush 14, 2) := by decide +kernel
theorem dX6_best_28 : decode cX6_best 28 = .ok (.iconst 2, 1) := by decide +kernel
theorem dX6_best_29 : decode cX6_best 29 = .ok (.iload_n 1, 1) := by decide +kernel
theorem dX6_best_30 : decode cX6_best 30 = .ok (.imul, 1) := by decide +kernel
theorem dX6_best_31 : decode cX6_best 31 = .ok (.iadd, 1) := by decide +kernel
theorem dX6_best_32 : decode cX6_best 32 = .ok (.iconst 1, 1) := by decide +kernel
theorem dX6_best_33 : decode cX6_best 33 = .ok (.iadd, 1) := by decide +kernel
theorem dX6_best_34 : decode cX6_best 34 = .ok (.invokevirtual 151, 3) := by decide +kernel
theorem dX6_best_37 : decode cX6_best 37 = .ok (.istore_n 3, 1) := by decide +kernel
theorem dX6_best_38 : decode cX6_best 38 = .ok (.iconst 0, 1) := by decide +kernel
theorem dX6_best_39 : decode cX6_best 39 = .ok (.istore 4, 2) := by decide +kernel
theorem dX6_best_41 : decode cX6_best 41 = .ok (.iload 4, 2) := by decide +kernel
theorem dX6_best_43 : decode cX6_best 43 = .ok (.aload_n 0, 1) := by decide +kernel
theorem dX6_best_44 : decode cX6_best 44 = .ok (.getfield 7, 3) := by decide +kernel
theorem dX6_best_47 : decode cX6_best 47 = .ok (.iconst 1, 1) := by decide +kernel
theorem dX6_best_48 : decode cX6_best 48 = .ok (.iaload, 1) := by decide +kernel
theorem dX6_best_49 : decode cX6_best 49 = .ok (.if_icmp .ge 55, 3) := by decide +kernel
theorem dX6_best_52 : decode cX6_best 52 = .ok (.aload_n 0, 1) := by decide +kernel
theorem dX6_best_53 : decode cX6_best 53 = .ok (.iload 4, 2) := by decide +kernel
theorem dX6_best_55 : decode cX6_best 55 = .ok (.invokevirtual 132, 3) := by decide +kernel
theorem dX6_best_58 : decode cX6_best 58 = .ok (.aload_n 0, 1) := by decide +kernel
theorem dX6_best_59 : decode cX6_best 59 = .ok (.bipush 14, 2) := by decide +kernel
theorem dX6_best_61 : decode cX6_best 61 = .ok (.iconst 2, 1) := by decide +kernel
theorem dX6_best_62 : decode cX6_best 62 = .ok (.iload_n 1, 1) := by decide +kernel
theorem dX6_best_63 : decode cX6_best 63 = .ok (.imul, 1) := by decide +kernel
theorem dX6_best_64 : decode cX6_best 64 = .ok (.iadd, 1) := by decide +kernel
theorem dX6_best_65 : decode cX6_best 65 = .ok (.iconst 1, 1) := by decide +kernel
theorem dX6_best_66 : decode cX6_best 66 = .ok (.iadd, 1) := by decide +kernel
theorem dX6_best_67 : decode cX6_best 67 = .ok (.invokevirtual 151, 3) := by decide +kernel
theorem dX6_best_70 : decode cX6_best 70 = .ok (.istore 5, 2) := by decide +kernel
theorem dX6_best_72 : decode cX6_best 72 = .ok (.iload 5, 2) := by decide +kernel
theorem dX6_best_74 : decode cX6_best 74 = .ok (.iload_n 3, 1) := by decide +kernel
theorem dX6_best_75 : decode cX6_best 75 = .ok (.if_icmp .le 8, 3) := by decide +kernel
theorem dX6_best_78 : decode cX6_best 78 = .ok (.iload 4, 2) := by decide +kernel
theorem dX6_best_80 : decode cX6_best 80 = .ok (.goto 4, 3) := by decide +kernel
theorem dX6_best_83 : decode cX6_best 83 = .ok (.iload_n 2, 1) := by decide +kernel
theorem dX6_best_84 : decode cX6_best 84 = .ok (.istore_n 2, 1) := by decide +kernel
theorem dX6_best_85 : decode cX6_best 85 = .ok (.iload 5, 2) := by decide +kernel
theorem dX6_best_87 : decode cX6_best 87 = .ok (.iload_n 3, 1) := by decide +kernel
theorem dX6_best_88 : decode cX6_best 88 = .ok (.if_icmp .le 8, 3) := by decide +kernel
theorem dX6_best_91 : decode cX6_best 91 = .ok (.iload 5, 2) := by decide +kernel
theorem dX6_best_93 : decode cX6_best 93 = .ok (.goto 4, 3) := by decide +kernel
theorem dX6_best_96 : decode cX6_best 96 = .ok (.iload_n 3, 1) := by decide +kernel
theorem dX6_best_97 : decode cX6_best 97 = .ok (.istore_n 3, 1) := by decide +kernel
theorem dX6_best_98 : decode cX6_best 98 = .ok (.iinc 4 1, 3) := by decide +kernel
theorem dX6_best_101 : decode cX6_best 101 = .ok (.goto (-60), 3) := by decide +kernel
theorem dX6_best_104 : decode cX6_best 104 = .ok (.iload_n 2, 1) := by decide +kernel
theorem dX6_best_105 : decode cX6_best 105 = .ok (.ifCond .ge 12, 3) := by decide +kernel
theorem dX6_best_108 : decode cX6_best 108 = .ok (.aload_n 0, 1) := by decide +kernel
theorem dX6_best_109 : decode cX6_best 109 = .ok (.ldc 154, 2) := by decide +kernel
theorem dX6_best_111 : decode cX6_best 111 = .ok (.invokevirtual 82, 3) := by decide +kernel
theorem dX6_best_114 : decode cX6_best 114 = .ok (.goto 4, 3) := by decide +kernel
theorem dX6_best_117 : decode cX6_best 117 = .ok (.iload_n 2, 1) := by decide +kernel
theorem dX6_best_118 : decode cX6_best 118 = .ok (.ireturn, 1) := by decide +kernel
theorem dX6_kind_0 : decode cX6_kind 0 = .ok (.aload_n 0, 1) := by decide +kernel
theorem dX6_kind_1 : decode cX6_kind 1 = .ok (.iload_n 1, 1) := by decide +kernel
theorem dX6_kind_2 : decode cX6_kind 2 = .ok (.invokevirtual 115, 3) := by decide +kernel
theorem dX6_kind_5 : decode cX6_kind 5 = .ok (.ifCond .ne 10, 3) := by decide +kernel
theorem dX6_kind_8 : decode cX6_kind 8 = .ok (.aload_n 0, 1) := by decide +kernel
theorem dX6_kind_9 : decode cX6_kind 9 = .ok (.ldc 48, 2) := by decide +kernel
theorem dX6_kind_11 : decode cX6_kind 11 = .ok (.invokevirtual 82, 3) := by decide +kernel
theorem dX6_kind_14 : decode cX6_kind 14 = .ok (.ireturn, 1) := by decide +kernel
theorem dX6_kind_15 : decode cX6_kind 15 = .ok (.aload_n 0, 1) := by decide +kernel
theorem dX6_kind_16 : decode cX6_kind 16 = .ok (.iconst 1, 1) := by decide +kernel
theorem dX6_kind_17 : decode cX6_kind 17 = .ok (.aload_n 0, 1) := by decide +kernel
theorem dX6_kind_18 : decode cX6_kind 18 = .ok (.getfield 16, 3) := by decide +kernel
theorem dX6_kind_21 : decode cX6_kind 21 = .ok (.invokevirtual 147, 3) := by decide +kernel
theorem dX6_kind_24 : decode cX6_kind 24 = .ok (.iconst 0, 1) := by decide +kernel
theorem dX6_kind_25 : decode cX6_kind 25 = .ok (.istore_n 2, 1) := by decide +kernel
theorem dX6_kind_26 : decode cX6_kind 26 = .ok (.iconst (-1), 1) := by decide +kernel
theorem dX6_kind_27 : decode cX6_kind 27 = .ok (.istore_n 3, 1) := by decide +kernel
theorem dX6_kind_28 : decode cX6_kind 28 = .ok (.iconst 0, 1) := by decide +kernel
theorem dX6_kind_29 : decode cX6_kind 29 = .ok (.istore 4, 2) := by decide +kernel
theorem dX6_kind_31 : decode cX6_kind 31 = .ok (.iload 4, 2) := by decide +kernel
theorem dX6_kind_33 : decode cX6_kind 33 = .ok (.iconst 5, 1) := by decide +kernel
theorem dX6_kind_34 : decode cX6_kind 34 = .ok (.if_icmp .gt 57, 3) := by decide +kernel
theorem dX6_kind_37 : decode cX6_kind 37 = .ok (.aload_n 0, 1) := by decide +kernel
theorem dX6_kind_38 : decode cX6_kind 38 = .ok (.iload_n 1, 1) := by decide +kernel
theorem dX6_kind_39 : decode cX6_kind 39 = .ok (.iconst 0, 1) := by decide +kernel
theorem dX6_kind_40 : decode cX6_kind 40 = .ok (.iload 4, 2) := by decide +kernel
theorem dX6_kind_42 : decode cX6_kind 42 = .ok (.invokevirtual 104, 3) := by decide +kernel
theorem dX6_kind_45 : decode cX6_kind 45 = .ok (.aload_n 0, 1) := by decide +kernel
theorem dX6_kind_46 : decode cX6_kind 46 = .ok (.bipush 22, 2) := by decide +kernel
theorem dX6_kind_48 : decode cX6_kind 48 = .ok (.iconst 5, 1) := by decide +kernel
theorem dX6_kind_49 : decode cX6_kind 49 = .ok (.iload_n 1, 1) := by decide +kernel
theorem dX6_kind_50 : decode cX6_kind 50 = .ok (.imul, 1) := by decide +kernel
theorem dX6_kind_51 : decode cX6_kind 51 = .ok (.iadd, 1) := by decide +kernel
theorem dX6_kind_52 : decode cX6_kind 52 = .ok (.iconst 3, 1) := by decide +kernel
theorem dX6_kind_53 : decode cX6_kind 53 = .ok (.iadd, 1) := by decide +kernel
theorem dX6_kind_54 : decode cX6_kind 54 = .ok (.invokevirtual 151, 3) := by decide +kernel
theorem dX6_kind_57 : decode cX6_kind 57 = .ok (.istore 5, 2) := by decide +kernel
theorem dX6_kind_59 : decode cX6_kind 59 = .ok (.iload 5, 2) := by decide +kernel
theorem dX6_kind_61 : decode cX6_kind 61 = .ok (.iload_n 3, 1) := by decide +kernel
theorem dX6_kind_62 : decode cX6_kind 62 = .ok (.if_icmp .le 8, 3) := by decide +kernel
theorem dX6_kind_65 : decode cX6_kind 65 = .ok (.iload 4, 2) := by decide +kernel
theorem dX6_kind_67 : decode cX6_kind 67 = .ok (.goto 4, 3) := by decide +kernel
theorem dX6_kind_70 : decode cX6_kind 70 = .ok (.iload_n 2, 1) := by decide +kernel
theorem dX6_kind_71 : decode cX6_kind 71 = .ok (.istore_n 2, 1) := by decide +kernel
theorem dX6_kind_72 : decode cX6_kind 72 = .ok (.iload 5, 2) := by decide +kernel
theorem dX6_kind_74 : decode cX6_kind 74 = .ok (.iload_n 3, 1) := by decide +kernel
theorem dX6_kind_75 : decode cX6_kind 75 = .ok (.if_icmp .le 8, 3) := by decide +kernel
theorem dX6_kind_78 : decode cX6_kind 78 = .ok (.iload 5, 2) := by decide +kernel
theorem dX6_kind_80 : decode cX6_kind 80 = .ok (.goto 4, 3) := by decide +kernel
theorem dX6_kind_83 : decode cX6_kind 83 = .ok (.iload_n 3, 1) := by decide +kernel
theorem dX6_kind_84 : decode cX6_kind 84 = .ok (.istore_n 3, 1) := by decide +kernel
theorem dX6_kind_85 : decode cX6_kind 85 = .ok (.iinc 4 1, 3) := by decide +kernel
theorem dX6_kind_88 : decode cX6_kind 88 = .ok (.goto (-57), 3) := by decide +kernel
theorem dX6_kind_91 : decode cX6_kind 91 = .ok (.iload_n 2, 1) := by decide +kernel
theorem dX6_kind_92 : decode cX6_kind 92 = .ok (.ireturn, 1) := by decide +kernel
theorem dX6_lasts_0 : decode cX6_lasts 0 = .ok (.iconst 0, 1) := by decide +kernel
theorem dX6_lasts_1 : decode cX6_lasts 1 = .ok (.istore_n 3, 1) := by decide +kernel
theorem dX6_lasts_2 : decode cX6_lasts 2 = .ok (.iload_n 3, 1) := by decide +kernel
theorem dX6_lasts_3 : decode cX6_lasts 3 = .ok (.iload_n 2, 1) := by decide +kernel
theorem dX6_lasts_4 : decode cX6_lasts 4 = .ok (.if_icmp .ge 23, 3) := by decide +kernel
theorem dX6_lasts_7 : decode cX6_lasts 7 = .ok (.aload_n 0, 1) := by decide +kernel
theorem dX6_lasts_8 : decode cX6_lasts 8 = .ok (.getfield 7, 3) := by decide +kernel
theorem dX6_lasts_11 : decode cX6_lasts 11 = .ok (.iload_n 1, 1) := by decide +kernel
theorem dX6_lasts_12 : decode cX6_lasts 12 = .ok (.iaload, 1) := by decide +kernel
theorem dX6_lasts_13 : decode cX6_lasts 13 = .ok (.iconst 1, 1) := by decide +kernel
theorem dX6_lasts_14 : decode cX6_lasts 14 = .ok (.if_icmp .ne 13, 3) := by decide +kernel
theorem dX6_lasts_17 : decode cX6_lasts 17 = .ok (.aload_n 0, 1) := by decide +kernel
theorem dX6_lasts_18 : decode cX6_lasts 18 = .ok (.invokevirtual 140, 3) := by decide +kernel
theorem dX6_lasts_21 : decode cX6_lasts 21 = .ok (.iinc 3 1, 3) := by decide +kernel
theorem dX6_lasts_24 : decode cX6_lasts 24 = .ok (.goto (-22), 3) := by decide +kernel
theorem dX6_lasts_27 : decode cX6_lasts 27 = .ok (.aload_n 0, 1) := by decide +kernel
theorem dX6_lasts_28 : decode cX6_lasts 28 = .ok (.getfield 7, 3) := by decide +kernel
theorem dX6_lasts_31 : decode cX6_lasts 31 = .ok (.iload_n 1, 1) := by decide +kernel
theorem dX6_lasts_32 : decode cX6_lasts 32 = .ok (.iaload, 1) := by decide +kernel
theorem dX6_lasts_33 : decode cX6_lasts 33 = .ok (.iconst 1, 1) := by decide +kernel
theorem dX6_lasts_34 : decode cX6_lasts 34 = .ok (.if_icmp .ne 7, 3) := by decide +kernel
theorem dX6_lasts_37 : decode cX6_lasts 37 = .ok (.iconst 1, 1) := by decide +kernel
theorem dX6_lasts_38 : decode cX6_lasts 38 = .ok (.goto 4, 3) := by decide +kernel
theorem dX6_lasts_41 : decode cX6_lasts 41 = .ok (.iconst 0, 1) := by decide +kernel
theorem dX6_lasts_42 : decode cX6_lasts 42 = .ok (.istore_n 3, 1) := by decide +kernel
theorem dX6_lasts_43 : decode cX6_lasts 43 = .ok (.aload_n 0, 1) := by decide +kernel
theorem dX6_lasts_44 : decode cX6_lasts 44 = .ok (.iconst 0, 1) := by decide +kernel
theorem dX6_lasts_45 : decode cX6_lasts 45 = .ok (.aload_n 0, 1) := by decide +kernel
theorem dX6_lasts_46 : decode cX6_lasts 46 = .ok (.getfield 16, 3) := by decide +kernel
theorem dX6_lasts_49 : decode cX6_lasts 49 = .ok (.invokevirtual 147, 3) := by decide +kernel
theorem dX6_lasts_52 : decode cX6_lasts 52 = .ok (.iload_n 3, 1) := by decide +kernel
theorem dX6_lasts_53 : decode cX6_lasts 53 = .ok (.ireturn, 1) := by decide +kernel
theorem dX6_open_0 : decode cX6_open 0 = .ok (.aload_n 0, 1) := by decide +kernel
theorem dX6_open_1 : decode cX6_open 1 = .ok (.iload_n 1, 1) := by decide +kernel
theorem dX6_open_2 : decode cX6_open 2 = .ok (.invokevirtual 115, 3) := by decide +kernel
theorem dX6_open_5 : decode cX6_open 5 = .ok (.ifCond .eq 13, 3) := by decide +kernel
theorem dX6_open_8 : decode cX6_open 8 = .ok (.iload_n 2, 1) := by decide +kernel
theorem dX6_open_9 : decode cX6_open 9 = .ok (.iconst 0, 1) := by decide +kernel
theorem dX6_open_10 : decode cX6_open 10 = .ok (.bipush 100, 2) := by decide +kernel
theorem dX6_open_12 : decode cX6_open 12 = .ok (.invokestatic 49, 3) := by decide +kernel
theorem dX6_open_15 : decode cX6_open 15 = .ok (.ifCond .ne 10, 3) := by decide +kernel
theorem dX6_open_18 : decode cX6_open 18 = .ok (.aload_n 0, 1) := by decide +kernel
theorem dX6_open_19 : decode cX6_open 19 = .ok (.ldc 48, 2) := by decide +kernel
theorem dX6_open_21 : decode cX6_open 21 = .ok (.invokevirtual 82, 3) := by decide +kernel
theorem dX6_open_24 : decode cX6_open 24 = .ok (.ireturn, 1) := by decide +kernel
theorem dX6_open_25 : decode cX6_open 25 = .ok (.aload_n 0, 1) := by decide +kernel
theorem dX6_open_26 : decode cX6_open 26 = .ok (.iconst 1, 1) := by decide +kernel
theorem dX6_open_27 : decode cX6_open 27 = .ok (.aload_n 0, 1) := by decide +kernel
theorem dX6_open_28 : decode cX6_open 28 = .ok (.getfield 16, 3) := by decide +kernel
theorem dX6_open_31 : decode cX6_open 31 = .ok (.invokevirtual 147, 3) := by decide +kernel
theorem dX6_open_34 : decode cX6_open 34 = .ok (.iconst (-1), 1) := by decide +kernel
theorem dX6_open_35 : decode cX6_open 35 = .ok (.istore_n 3, 1) := by decide +kernel
theorem dX6_open_36 : decode cX6_open 36 = .ok (.iconst 0, 1) := by decide +kernel
theorem dX6_open_37 : decode cX6_open 37 = .ok (.istore 4, 2) := by decide +kernel
theorem dX6_open_39 : decode cX6_open 39 = .ok (.iload_n 3, 1) := by decide +kernel
theorem dX6_open_40 : decode cX6_open 40 = .ok (.bipush 99, 2) := by decide +kernel
theorem dX6_open_42 : decode cX6_open 42 = .ok (.if_icmp .ge 36, 3) := by decide +kernel
theorem dX6_open_45 : decode cX6_open 45 = .ok (.iload 4, 2) := by decide +kernel
theorem dX6_open_47 : decode cX6_open 47 = .ok (.ifCond .ne 31, 3) := by decide +kernel
theorem dX6_open_50 : decode cX6_open 50 = .ok (.iinc 3 1, 3) := by decide +kernel
theorem dX6_open_53 : decode cX6_open 53 = .ok (.aload_n 0, 1) := by decide +kernel
theorem dX6_open_54 : decode cX6_open 54 = .ok (.iload_n 1, 1) := by decide +kernel
theorem dX6_open_55 : decode cX6_open 55 = .ok (.iconst 2, 1) := by decide +kernel
theorem dX6_open_56 : decode cX6_open 56 = .ok (.iload_n 3, 1) := by decide +kernel
theorem dX6_open_57 : decode cX6_open 57 = .ok (.invokevirtual 104, 3) := by decide +kernel
theorem dX6_open_60 : decode cX6_open 60 = .ok (.aload_n 0, 1) := by decide +kernel
theorem dX6_open_61 : decode cX6_open 61 = .ok (.bipush 22, 2) := by decide +kernel
theorem dX6_open_63 : decode cX6_open 63 = .ok (.iconst 5, 1) := by decide +kernel
theorem dX6_open_64 : decode cX6_open 64 = .ok (.iload_n 1, 1) := by decide +kernel
theorem dX6_open_65 : decode cX6_open 65 = .ok (.imul, 1) := by decide +kernel
theorem dX6_open_66 : decode cX6_open 66 = .ok (.iadd, 1) := by decide +kernel
theorem dX6_open_67 : decode cX6_open 67 = .ok (.iconst 3, 1) := by decide +kernel
theorem dX6_open_68 : decode cX6_open 68 = .ok (.iadd, 1) := by decide +kernel
theorem dX6_open_69 : decode cX6_open 69 = .ok (.iload_n 2, 1) := by decide +kernel
theorem dX6_open_70 : decode cX6_open 70 = .ok (.invokevirtual 155, 3) := by decide +kernel
theorem dX6_open_73 : decode cX6_open 73 = .ok (.istore 4, 2) := by decide +kernel
theorem dX6_open_75 : decode cX6_open 75 = .ok (.goto (-36), 3) := by decide +kernel
theorem dX6_open_78 : decode cX6_open 78 = .ok (.iload 4, 2) := by decide +kernel
theorem dX6_open_80 : decode cX6_open 80 = .ok (.ifCond .eq 7, 3) := by decide +kernel
theorem dX6_open_83 : decode cX6_open 83 = .ok (.iload_n 3, 1) := by decide +kernel
theorem dX6_open_84 : decode cX6_open 84 = .ok (.goto 9, 3) := by decide +kernel
theorem dX6_open_87 : decode cX6_open 87 = .ok (.aload_n 0, 1) := by decide +kernel
theorem dX6_open_88 : decode cX6_open 88 = .ok (.ldc 154, 2) := by decide +kernel
theorem dX6_open_90 : decode cX6_open 90 = .ok (.invokevirtual 82, 3) := by decide +kernel
theorem dX6_open_93 : decode cX6_open 93 = .ok (.ireturn, 1) := by decide +kernel
theorem dX6_bears_0 : decode cX6_bears 0 = .ok (.iload_n 1, 1) := by decide +kernel
theorem dX6_bears_1 : decode cX6_bears 1 = .ok (.invokestatic 85, 3) := by decide +kernel
theorem dX6_bears_4 : decode cX6_bears 4 = .ok (.ifCond .eq 13, 3) := by decide +kernel
theorem dX6_bears_7 : decode cX6_bears 7 = .ok (.iload_n 2, 1) := by decide +kernel
theorem dX6_bears_8 : decode cX6_bears 8 = .ok (.iconst 0, 1) := by decide +kernel
theorem dX6_bears_9 : decode cX6_bears 9 = .ok (.bipush 100, 2) := by decide +kernel
theorem dX6_bears_11 : decode cX6_bears 11 = .ok (.invokestatic 49, 3) := by decide +kernel
theorem dX6_bears_14 : decode cX6_bears 14 = .ok (.ifCond .ne 10, 3) := by decide +kernel
theorem dX6_bears_17 : decode cX6_bears 17 = .ok (.aload_n 0, 1) := by decide +kernel
theorem dX6_bears_18 : decode cX6_bears 18 = .ok (.ldc 48, 2) := by decide +kernel
theorem dX6_bears_20 : decode cX6_bears 20 = .ok (.invokevirtual 82, 3) := by decide +kernel
theorem dX6_bears_23 : decode cX6_bears 23 = .ok (.ireturn, 1) := by decide +kernel
theorem dX6_bears_24 : decode cX6_bears 24 = .ok (.aload_n 0, 1) := by decide +kernel
theorem dX6_bears_25 : decode cX6_bears 25 = .ok (.iconst 1, 1) := by decide +kernel
theorem dX6_bears_26 : decode cX6_bears 26 = .ok (.aload_n 0, 1) := by decide +kernel
theorem dX6_bears_27 : decode cX6_bears 27 = .ok (.getfield 16, 3) := by decide +kernel
theorem dX6_bears_30 : decode cX6_bears 30 = .ok (.invokevirtual 147, 3) := by decide +kernel
theorem dX6_bears_33 : decode cX6_bears 33 = .ok (.sipush 1000, 3) := by decide +kernel
theorem dX6_bears_36 : decode cX6_bears 36 = .ok (.istore_n 3, 1) := by decide +kernel
theorem dX6_bears_37 : decode cX6_bears 37 = .ok (.iconst 0, 1) := by decide +kernel
theorem dX6_bears_38 : decode cX6_bears 38 = .ok (.istore 4, 2) := by decide +kernel
theorem dX6_bears_40 : decode cX6_bears 40 = .ok (.iload_n 3, 1) := by decide +kernel
theorem dX6_bears_41 : decode cX6_bears 41 = .ok (.ifCond .le 36, 3) := by decide +kernel
theorem dX6_bears_44 : decode cX6_bears 44 = .ok (.iload 4, 2) := by decide +kernel
theorem dX6_bears_46 : decode cX6_bears 46 = .ok (.ifCond .ne 31, 3) := by decide +kernel
theorem dX6_bears_49 : decode cX6_bears 49 = .ok (.iinc 3 (-1), 3) := by decide +kernel
theorem dX6_bears_52 : decode cX6_bears 52 = .ok (.aload_n 0, 1) := by decide +kernel
theorem dX6_bears_53 : decode cX6_bears 53 = .ok (.iload_n 1, 1) := by decide +kernel
theorem dX6_bears_54 : decode cX6_bears 54 = .ok (.iconst 0, 1) := by decide +kernel
theorem dX6_bears_55 : decode cX6_bears 55 = .ok (.iload_n 3, 1) := by decide +kernel
theorem dX6_bears_56 : decode cX6_bears 56 = .ok (.invokevirtual 44, 3) := by decide +kernel
theorem dX6_bears_59 : decode cX6_bears 59 = .ok (.aload_n 0, 1) := by decide +kernel
theorem dX6_bears_60 : decode cX6_bears 60 = .ok (.bipush 14, 2) := by decide +kernel
theorem dX6_bears_62 : decode cX6_bears 62 = .ok (.iconst 2, 1) := by decide +kernel
theorem dX6_bears_63 : decode cX6_bears 63 = .ok (.iload_n 1, 1) := by decide +kernel
theorem dX6_bears_64 : decode cX6_bears 64 = .ok (.imul, 1) := by decide +kernel
theorem dX6_bears_65 : decode cX6_bears 65 = .ok (.iadd, 1) := by decide +kernel
theorem dX6_bears_66 : decode cX6_bears 66 = .ok (.iconst 1, 1) := by decide +kernel
theorem dX6_bears_67 : decode cX6_bears 67 = .ok (.iadd, 1) := by decide +kernel
theorem dX6_bears_68 : decode cX6_bears 68 = .ok (.iload_n 2, 1) := by decide +kernel
theorem dX6_bears_69 : decode cX6_bears 69 = .ok (.invokevirtual 155, 3) := by decide +kernel
theorem dX6_bears_72 : decode cX6_bears 72 = .ok (.istore 4, 2) := by decide +kernel
theorem dX6_bears_74 : decode cX6_bears 74 = .ok (.goto (-34), 3) := by decide +kernel
theorem dX6_bears_77 : decode cX6_bears 77 = .ok (.iload 4, 2) := by decide +kernel
theorem dX6_bears_79 : decode cX6_bears 79 = .ok (.ifCond .eq 7, 3) := by decide +kernel
theorem dX6_bears_82 : decode cX6_bears 82 = .ok (.iload_n 3, 1) := by decide +kernel
theorem dX6_bears_83 : decode cX6_bears 83 = .ok (.goto 9, 3) := by decide +kernel
theorem dX6_bears_86 : decode cX6_bears 86 = .ok (.aload_n 0, 1) := by decide +kernel
theorem dX6_bears_87 : decode cX6_bears 87 = .ok (.ldc 154, 2) := by decide +kernel
theorem dX6_bears_89 : decode cX6_bears 89 = .ok (.invokevirtual 82, 3) := by decide +kernel
theorem dX6_bears_92 : decode cX6_bears 92 = .ok (.ireturn, 1) := by decide +kernel
theorem dX6_move_0 : decode cX6_move 0 = .ok (.aload_n 0, 1) := by decide +kernel
theorem dX6_move_1 : decode cX6_move 1 = .ok (.iload_n 1, 1) := by decide +kernel
theorem dX6_move_2 : decode cX6_move 2 = .ok (.invokevirtual 115, 3) := by decide +kernel
theorem dX6_move_5 : decode cX6_move 5 = .ok (.ifCond .eq 13, 3) := by decide +kernel
theorem dX6_move_8 : decode cX6_move 8 = .ok (.iload_n 2, 1) := by decide +kernel
theorem dX6_move_9 : decode cX6_move 9 = .ok (.iconst 1, 1) := by decide +kernel
theorem dX6_move_10 : decode cX6_move 10 = .ok (.bipush 100, 2) := by decide +kernel
theorem dX6_move_12 : decode cX6_move 12 = .ok (.invokestatic 49, 3) := by decide +kernel
theorem dX6_move_15 : decode cX6_move 15 = .ok (.ifCond .ne 10, 3) := by decide +kernel
theorem dX6_move_18 : decode cX6_move 18 = .ok (.aload_n 0, 1) := by decide +kernel
theorem dX6_move_19 : decode cX6_move 19 = .ok (.ldc 48, 2) := by decide +kernel
theorem dX6_move_21 : decode cX6_move 21 = .ok (.invokevirtual 82, 3) := by decide +kernel
theorem dX6_move_24 : decode cX6_move 24 = .ok (.ireturn, 1) := by decide +kernel
theorem dX6_move_25 : decode cX6_move 25 = .ok (.iconst 0, 1) := by decide +kernel
theorem dX6_move_26 : decode cX6_move 26 = .ok (.istore_n 3, 1) := by decide +kernel
theorem dX6_move_27 : decode cX6_move 27 = .ok (.iconst (-1), 1) := by decide +kernel
theorem dX6_move_28 : decode cX6_move 28 = .ok (.istore 4, 2) := by decide +kernel
theorem dX6_move_30 : decode cX6_move 30 = .ok (.aload_n 0, 1) := by decide +kernel
theorem dX6_move_31 : decode cX6_move 31 = .ok (.iconst 1, 1) := by decide +kernel
theorem dX6_move_32 : decode cX6_move 32 = .ok (.aload_n 0, 1) := by decide +kernel
theorem dX6_move_33 : decode cX6_move 33 = .ok (.getfield 16, 3) := by decide +kernel
theorem dX6_move_36 : decode cX6_move 36 = .ok (.invokevirtual 147, 3) := by decide +kernel
theorem dX6_move_39 : decode cX6_move 39 = .ok (.iconst 0, 1) := by decide +kernel
theorem dX6_move_40 : decode cX6_move 40 = .ok (.istore 5, 2) := by decide +kernel
theorem dX6_move_42 : decode cX6_move 42 = .ok (.iload 5, 2) := by decide +kernel
theorem dX6_move_44 : decode cX6_move 44 = .ok (.iconst 4, 1) := by decide +kernel
theorem dX6_move_45 : decode cX6_move 45 = .ok (.if_icmp .ge 70, 3) := by decide +kernel
theorem dX6_move_48 : decode cX6_move 48 = .ok (.aload_n 0, 1) := by decide +kernel
theorem dX6_move_49 : decode cX6_move 49 = .ok (.iload_n 1, 1) := by decide +kernel
theorem dX6_move_50 : decode cX6_move 50 = .ok (.iconst 1, 1) := by decide +kernel
theorem dX6_move_51 : decode cX6_move 51 = .ok (.iload 5, 2) := by decide +kernel
theorem dX6_move_53 : decode cX6_move 53 = .ok (.invokevirtual 104, 3) := by decide +kernel
theorem dX6_move_56 : decode cX6_move 56 = .ok (.aload_n 0, 1) := by decide +kernel
theorem dX6_move_57 : decode cX6_move 57 = .ok (.iload_n 2, 1) := by decide +kernel
theorem dX6_move_58 : decode cX6_move 58 = .ok (.invokevirtual 144, 3) := by decide +kernel
theorem dX6_move_61 : decode cX6_move 61 = .ok (.aload_n 0, 1) := by decide +kernel
theorem dX6_move_62 : decode cX6_move 62 = .ok (.invokevirtual 95, 3) := by decide +kernel
theorem dX6_move_65 : decode cX6_move 65 = .ok (.invokestatic 64, 3) := by decide +kernel
theorem dX6_move_68 : decode cX6_move 68 = .ok (.istore 6, 2) := by decide +kernel
theorem dX6_move_70 : decode cX6_move 70 = .ok (.aload_n 0, 1) := by decide +kernel
theorem dX6_move_71 : decode cX6_move 71 = .ok (.iconst 0, 1) := by decide +kernel
theorem dX6_move_72 : decode cX6_move 72 = .ok (.aload_n 0, 1) := by decide +kernel
theorem dX6_move_73 : decode cX6_move 73 = .ok (.getfield 16, 3) := by decide +kernel
theorem dX6_move_76 : decode cX6_move 76 = .ok (.invokevirtual 147, 3) := by decide +kernel
theorem dX6_move_79 : decode cX6_move 79 = .ok (.iload 6, 2) := by decide +kernel
theorem dX6_move_81 : decode cX6_move 81 = .ok (.iload 4, 2) := by decide +kernel
theorem dX6_move_83 : decode cX6_move 83 = .ok (.if_icmp .le 8, 3) := by decide +kernel
theorem dX6_move_86 : decode cX6_move 86 = .ok (.iload 5, 2) := by decide +kernel
theorem dX6_move_88 : decode cX6_move 88 = .ok (.goto 4, 3) := by decide +kernel
theorem dX6_move_91 : decode cX6_move 91 = .ok (.iload_n 3, 1) := by decide +kernel
theorem dX6_move_92 : decode cX6_move 92 = .ok (.istore_n 3, 1) := by decide +kernel
theorem dX6_move_93 : decode cX6_move 93 = .ok (.iload 6, 2) := by decide +kernel
theorem dX6_move_95 : decode cX6_move 95 = .ok (.iload 4, 2) := by decide +kernel
theorem dX6_move_97 : decode cX6_move 97 = .ok (.if_icmp .le 8, 3) := by decide +kernel
theorem dX6_move_100 : decode cX6_move 100 = .ok (.iload 6, 2) := by decide +kernel
theorem dX6_move_102 : decode cX6_move 102 = .ok (.goto 5, 3) := by decide +kernel
theorem dX6_move_105 : decode cX6_move 105 = .ok (.iload 4, 2) := by decide +kernel
theorem dX6_move_107 : decode cX6_move 107 = .ok (.istore 4, 2) := by decide +kernel
theorem dX6_move_109 : decode cX6_move 109 = .ok (.iinc 5 1, 3) := by decide +kernel
theorem dX6_move_112 : decode cX6_move 112 = .ok (.goto (-70), 3) := by decide +kernel
theorem dX6_move_115 : decode cX6_move 115 = .ok (.iload_n 3, 1) := by decide +kernel
theorem dX6_move_116 : decode cX6_move 116 = .ok (.ireturn, 1) := by decide +kernel
theorem dX6_calm_0 : decode cX6_calm 0 = .ok (.iload_n 1, 1) := by decide +kernel
theorem dX6_calm_1 : decode cX6_calm 1 = .ok (.iconst 1, 1) := by decide +kernel
theorem dX6_calm_2 : decode cX6_calm 2 = .ok (.bipush 100, 2) := by decide +kernel
theorem dX6_calm_4 : decode cX6_calm 4 = .ok (.invokestatic 49, 3) := by decide +kernel
theorem dX6_calm_7 : decode cX6_calm 7 = .ok (.ifCond .ne 10, 3) := by decide +kernel
theorem dX6_calm_10 : decode cX6_calm 10 = .ok (.aload_n 0, 1) := by decide +kernel
theorem dX6_calm_11 : decode cX6_calm 11 = .ok (.ldc 48, 2) := by decide +kernel
theorem dX6_calm_13 : decode cX6_calm 13 = .ok (.invokevirtual 82, 3) := by decide +kernel
theorem dX6_calm_16 : decode cX6_calm 16 = .ok (.ireturn, 1) := by decide +kernel
theorem dX6_calm_17 : decode cX6_calm 17 = .ok (.iconst 0, 1) := by decide +kernel
theorem dX6_calm_18 : decode cX6_calm 18 = .ok (.istore_n 2, 1) := by decide +kernel
theorem dX6_calm_19 : decode cX6_calm 19 = .ok (.iconst (-1), 1) := by decide +kernel
theorem dX6_calm_20 : decode cX6_calm 20 = .ok (.istore_n 3, 1) := by decide +kernel
theorem dX6_calm_21 : decode cX6_calm 21 = .ok (.aload_n 0, 1) := by decide +kernel
theorem dX6_calm_22 : decode cX6_calm 22 = .ok (.iconst 1, 1) := by decide +kernel
theorem dX6_calm_23 : decode cX6_calm 23 = .ok (.aload_n 0, 1) := by decide +kernel
theorem dX6_calm_24 : decode cX6_calm 24 = .ok (.getfield 16, 3) := by decide +kernel
theorem dX6_calm_27 : decode cX6_calm 27 = .ok (.invokevirtual 147, 3) := by decide +kernel
theorem dX6_calm_30 : decode cX6_calm 30 = .ok (.iconst 0, 1) := by decide +kernel
theorem dX6_calm_31 : decode cX6_calm 31 = .ok (.istore 4, 2) := by decide +kernel
theorem dX6_calm_33 : decode cX6_calm 33 = .ok (.iload 4, 2) := by decide +kernel
theorem dX6_calm_35 : decode cX6_calm 35 = .ok (.bipush 12, 2) := by decide +kernel
theorem dX6_calm_37 : decode cX6_calm 37 = .ok (.if_icmp .ge 68, 3) := by decide +kernel
theorem dX6_calm_40 : decode cX6_calm 40 = .ok (.aload_n 0, 1) := by decide +kernel
theorem dX6_calm_41 : decode cX6_calm 41 = .ok (.getfield 7, 3) := by decide +kernel
theorem dX6_calm_44 : decode cX6_calm 44 = .ok (.iconst 2, 1) := by decide +kernel
theorem dX6_calm_45 : decode cX6_calm 45 = .ok (.iload 4, 2) := by decide +kernel
theorem dX6_calm_47 : decode cX6_calm 47 = .ok (.iadd, 1) := by decide +kernel
theorem dX6_calm_48 : decode cX6_calm 48 = .ok (.iconst 0, 1) := by decide +kernel
theorem dX6_calm_49 : decode cX6_calm 49 = .ok (.iastore, 1) := by decide +kernel
theorem dX6_calm_50 : decode cX6_calm 50 = .ok (.aload_n 0, 1) := by decide +kernel
theorem dX6_calm_51 : decode cX6_calm 51 = .ok (.iload_n 1, 1) := by decide +kernel
theorem dX6_calm_52 : decode cX6_calm 52 = .ok (.invokevirtual 144, 3) := by decide +kernel
theorem dX6_calm_55 : decode cX6_calm 55 = .ok (.aload_n 0, 1) := by decide +kernel
theorem dX6_calm_56 : decode cX6_calm 56 = .ok (.invokevirtual 98, 3) := by decide +kernel
theorem dX6_calm_59 : decode cX6_calm 59 = .ok (.invokestatic 64, 3) := by decide +kernel
theorem dX6_calm_62 : decode cX6_calm 62 = .ok (.istore 5, 2) := by decide +kernel
theorem dX6_calm_64 : decode cX6_calm 64 = .ok (.aload_n 0, 1) := by decide +kernel
theorem dX6_calm_65 : decode cX6_calm 65 = .ok (.iconst 0, 1) := by decide +kernel
theorem dX6_calm_66 : decode cX6_calm 66 = .ok (.aload_n 0, 1) := by decide +kernel
theorem dX6_calm_67 : decode cX6_calm 67 = .ok (.getfield 16, 3) := by decide +kernel
theorem dX6_calm_70 : decode cX6_calm 70 = .ok (.invokevirtual 147, 3) := by decide +kernel
theorem dX6_calm_73 : decode cX6_calm 73 = .ok (.iload 5, 2) := by decide +kernel
theorem dX6_calm_75 : decode cX6_calm 75 = .ok (.iload_n 3, 1) := by decide +kernel
theorem dX6_calm_76 : decode cX6_calm 76 = .ok (.if_icmp .le 8, 3) := by decide +kernel
theorem dX6_calm_79 : decode cX6_calm 79 = .ok (.iload 4, 2) := by decide +kernel
theorem dX6_calm_81 : decode cX6_calm 81 = .ok (.goto 4, 3) := by decide +kernel
theorem dX6_calm_84 : decode cX6_calm 84 = .ok (.iload_n 2, 1) := by decide +kernel
theorem dX6_calm_85 : decode cX6_calm 85 = .ok (.istore_n 2, 1) := by decide +kernel
theorem dX6_calm_86 : decode cX6_calm 86 = .ok (.iload 5, 2) := by decide +kernel
theorem dX6_calm_88 : decode cX6_calm 88 = .ok (.iload_n 3, 1) := by decide +kernel
theorem dX6_calm_89 : decode cX6_calm 89 = .ok (.if_icmp .le 8, 3) := by decide +kernel
theorem dX6_calm_92 : decode cX6_calm 92 = .ok (.iload 5, 2) := by decide +kernel
theorem dX6_calm_94 : decode cX6_calm 94 = .ok (.goto 4, 3) := by decide +kernel
theorem dX6_calm_97 : decode cX6_calm 97 = .ok (.iload_n 3, 1) := by decide +kernel
theorem dX6_calm_98 : decode cX6_calm 98 = .ok (.istore_n 3, 1) := by decide +kernel
theorem dX6_calm_99 : decode cX6_calm 99 = .ok (.iinc 4 1, 3) := by decide +kernel
theorem dX6_calm_102 : decode cX6_calm 102 = .ok (.goto (-69), 3) := by decide +kernel
theorem dX6_calm_105 : decode cX6_calm 105 = .ok (.iload_n 2, 1) := by decide +kernel
theorem dX6_calm_106 : decode cX6_calm 106 = .ok (.ireturn, 1) := by decide +kernel
theorem dX6_firmest_0 : decode cX6_firmest 0 = .ok (.iload_n 1, 1) := by decide +kernel
theorem dX6_firmest_1 : decode cX6_firmest 1 = .ok (.iconst 0, 1) := by decide +kernel
theorem dX6_firmest_2 : decode cX6_firmest 2 = .ok (.sipush 200, 3) := by decide +kernel
theorem dX6_firmest_5 : decode cX6_firmest 5 = .ok (.invokestatic 49, 3) := by decide +kernel
theorem dX6_firmest_8 : decode cX6_firmest 8 = .ok (.ifCond .ne 10, 3) := by decide +kernel
theorem dX6_firmest_11 : decode cX6_firmest 11 = .ok (.aload_n 0, 1) := by decide +kernel
theorem dX6_firmest_12 : decode cX6_firmest 12 = .ok (.ldc 48, 2) := by decide +kernel
theorem dX6_firmest_14 : decode cX6_firmest 14 = .ok (.invokevirtual 82, 3) := by decide +kernel
theorem dX6_firmest_17 : decode cX6_firmest 17 = .ok (.ireturn, 1) := by decide +kernel
theorem dX6_firmest_18 : decode cX6_firmest 18 = .ok (.iconst (-1), 1) := by decide +kernel
theorem dX6_firmest_19 : decode cX6_firmest 19 = .ok (.istore_n 2, 1) := by decide +kernel
theorem dX6_firmest_20 : decode cX6_firmest 20 = .ok (.aload_n 0, 1) := by decide +kernel
theorem dX6_firmest_21 : decode cX6_firmest 21 = .ok (.iconst 1, 1) := by decide +kernel
theorem dX6_firmest_22 : decode cX6_firmest 22 = .ok (.aload_n 0, 1) := by decide +kernel
theorem dX6_firmest_23 : decode cX6_firmest 23 = .ok (.getfield 16, 3) := by decide +kernel
theorem dX6_firmest_26 : decode cX6_firmest 26 = .ok (.invokevirtual 147, 3) := by decide +kernel
theorem dX6_firmest_29 : decode cX6_firmest 29 = .ok (.aload_n 0, 1) := by decide +kernel
theorem dX6_firmest_30 : decode cX6_firmest 30 = .ok (.iload_n 1, 1) := by decide +kernel
theorem dX6_firmest_31 : decode cX6_firmest 31 = .ok (.invokevirtual 144, 3) := by decide +kernel
theorem dX6_firmest_34 : decode cX6_firmest 34 = .ok (.iconst 0, 1) := by decide +kernel
theorem dX6_firmest_35 : decode cX6_firmest 35 = .ok (.istore_n 3, 1) := by decide +kernel
theorem dX6_firmest_36 : decode cX6_firmest 36 = .ok (.iload_n 3, 1) := by decide +kernel
theorem dX6_firmest_37 : decode cX6_firmest 37 = .ok (.aload_n 0, 1) := by decide +kernel
theorem dX6_firmest_38 : decode cX6_firmest 38 = .ok (.getfield 7, 3) := by decide +kernel
theorem dX6_firmest_41 : decode cX6_firmest 41 = .ok (.iconst 1, 1) := by decide +kernel
theorem dX6_firmest_42 : decode cX6_firmest 42 = .ok (.iaload, 1) := by decide +kernel
theorem dX6_firmest_43 : decode cX6_firmest 43 = .ok (.if_icmp .ge 32, 3) := by decide +kernel
theorem dX6_firmest_46 : decode cX6_firmest 46 = .ok (.iload_n 2, 1) := by decide +kernel
theorem dX6_firmest_47 : decode cX6_firmest 47 = .ok (.ifCond .lt 16, 3) := by decide +kernel
theorem dX6_firmest_50 : decode cX6_firmest 50 = .ok (.aload_n 0, 1) := by decide +kernel
theorem dX6_firmest_51 : decode cX6_firmest 51 = .ok (.iload_n 3, 1) := by decide +kernel
theorem dX6_firmest_52 : decode cX6_firmest 52 = .ok (.invokevirtual 76, 3) := by decide +kernel
theorem dX6_firmest_55 : decode cX6_firmest 55 = .ok (.aload_n 0, 1) := by decide +kernel
theorem dX6_firmest_56 : decode cX6_firmest 56 = .ok (.iload_n 2, 1) := by decide +kernel
theorem dX6_firmest_57 : decode cX6_firmest 57 = .ok (.invokevirtual 76, 3) := by decide +kernel
theorem dX6_firmest_60 : decode cX6_firmest 60 = .ok (.if_icmp .le 7, 3) := by decide +kernel
theorem dX6_firmest_63 : decode cX6_firmest 63 = .ok (.iload_n 3, 1) := by decide +kernel
theorem dX6_firmest_64 : decode cX6_firmest 64 = .ok (.goto 4, 3) := by decide +kernel
theorem dX6_firmest_67 : decode cX6_firmest 67 = .ok (.iload_n 2, 1) := by decide +kernel
theorem dX6_firmest_68 : decode cX6_firmest 68 = .ok (.istore_n 2, 1) := by decide +kernel
theorem dX6_firmest_69 : decode cX6_firmest 69 = .ok (.iinc 3 1, 3) := by decide +kernel
theorem dX6_firmest_72 : decode cX6_firmest 72 = .ok (.goto (-36), 3) := by decide +kernel
theorem dX6_firmest_75 : decode cX6_firmest 75 = .ok (.aload_n 0, 1) := by decide +kernel
theorem dX6_firmest_76 : decode cX6_firmest 76 = .ok (.iconst 0, 1) := by decide +kernel
theorem dX6_firmest_77 : decode cX6_firmest 77 = .ok (.aload_n 0, 1) := by decide +kernel
theorem dX6_firmest_78 : decode cX6_firmest 78 = .ok (.getfield 16, 3) := by decide +kernel
theorem dX6_firmest_81 : decode cX6_firmest 81 = .ok (.invokevirtual 147, 3) := by decide +kernel
theorem dX6_firmest_84 : decode cX6_firmest 84 = .ok (.iload_n 2, 1) := by decide +kernel
theorem dX6_firmest_85 : decode cX6_firmest 85 = .ok (.ifCond .ge 12, 3) := by decide +kernel
theorem dX6_firmest_88 : decode cX6_firmest 88 = .ok (.aload_n 0, 1) := by decide +kernel
theorem dX6_firmest_89 : decode cX6_firmest 89 = .ok (.ldc 154, 2) := by decide +kernel
theorem dX6_firmest_91 : decode cX6_firmest 91 = .ok (.invokevirtual 82, 3) := by decide +kernel
theorem dX6_firmest_94 : decode cX6_firmest 94 = .ok (.goto 4, 3) := by decide +kernel
theorem dX6_firmest_97 : decode cX6_firmest 97 = .ok (.iload_n 2, 1) := by decide +kernel
theorem dX6_firmest_98 : decode cX6_firmest 98 = .ok (.ireturn, 1) := by decide +kernel
theorem dX6_feed_0 : decode cX6_feed 0 = .ok (.iload_n 2, 1) := by decide +kernel
theorem dX6_feed_1 : decode cX6_feed 1 = .ok (.iconst 1, 1) := by decide +kernel
theorem dX6_feed_2 : decode cX6_feed 2 = .ok (.iconst 4, 1) := by decide +kernel
theorem dX6_feed_3 : decode cX6_feed 3 = .ok (.invokestatic 49, 3) := by decide +kernel
theorem dX6_feed_6 : decode cX6_feed 6 = .ok (.ifCond .ne 10, 3) := by decide +kernel
theorem dX6_feed_9 : decode cX6_feed 9 = .ok (.aload_n 0, 1) := by decide +kernel
theorem dX6_feed_10 : decode cX6_feed 10 = .ok (.ldc 48, 2) := by decide +kernel
theorem dX6_feed_12 : decode cX6_feed 12 = .ok (.invokevirtual 82, 3) := by decide +kernel
theorem dX6_feed_15 : decode cX6_feed 15 = .ok (.ireturn, 1) := by decide +kernel
theorem dX6_feed_16 : decode cX6_feed 16 = .ok (.aload_n 0, 1) := by decide +kernel
theorem dX6_feed_17 : decode cX6_feed 17 = .ok (.getfield 158, 3) := by decide +kernel
theorem dX6_feed_20 : decode cX6_feed 20 = .ok (.iload_n 2, 1) := by decide +kernel
theorem dX6_feed_21 : decode cX6_feed 21 = .ok (.iadd, 1) := by decide +kernel
theorem dX6_feed_22 : decode cX6_feed 22 = .ok (.bipush 120, 2) := by decide +kernel
theorem dX6_feed_24 : decode cX6_feed 24 = .ok (.if_icmp .le 10, 3) := by decide +kernel
theorem dX6_feed_27 : decode cX6_feed 27 = .ok (.aload_n 0, 1) := by decide +kernel
theorem dX6_feed_28 : decode cX6_feed 28 = .ok (.ldc 110, 2) := by decide +kernel
theorem dX6_feed_30 : decode cX6_feed 30 = .ok (.invokevirtual 82, 3) := by decide +kernel
theorem dX6_feed_33 : decode cX6_feed 33 = .ok (.ireturn, 1) := by decide +kernel
theorem dX6_feed_34 : decode cX6_feed 34 = .ok (.iload_n 2, 1) := by decide +kernel
theorem dX6_feed_35 : decode cX6_feed 35 = .ok (.iconst 1, 1) := by decide +kernel
theorem dX6_feed_36 : decode cX6_feed 36 = .ok (.isub, 1) := by decide +kernel
theorem dX6_feed_37 : decode cX6_feed 37 = .ok (.istore_n 3, 1) := by decide +kernel
theorem dX6_feed_38 : decode cX6_feed 38 = .ok (.iload_n 3, 1) := by decide +kernel
theorem dX6_feed_39 : decode cX6_feed 39 = .ok (.ifCond .lt 38, 3) := by decide +kernel
theorem dX6_feed_42 : decode cX6_feed 42 = .ok (.aload_n 0, 1) := by decide +kernel
theorem dX6_feed_43 : decode cX6_feed 43 = .ok (.getfield 22, 3) := by decide +kernel
theorem dX6_feed_46 : decode cX6_feed 46 = .ok (.aload_n 0, 1) := by decide +kernel
theorem dX6_feed_47 : decode cX6_feed 47 = .ok (.getfield 158, 3) := by decide +kernel
theorem dX6_feed_50 : decode cX6_feed 50 = .ok (.iload_n 1, 1) := by decide +kernel
theorem dX6_feed_51 : decode cX6_feed 51 = .ok (.bipush 8, 2) := by decide +kernel
theorem dX6_feed_53 : decode cX6_feed 53 = .ok (.iload_n 3, 1) := by decide +kernel
theorem dX6_feed_54 : decode cX6_feed 54 = .ok (.imul, 1) := by decide +kernel
theorem dX6_feed_55 : decode cX6_feed 55 = .ok (.ishr, 1) := by decide +kernel
theorem dX6_feed_56 : decode cX6_feed 56 = .ok (.sipush 255, 3) := by decide +kernel
theorem dX6_feed_59 : decode cX6_feed 59 = .ok (.iand, 1) := by decide +kernel
theorem dX6_feed_60 : decode cX6_feed 60 = .ok (.iastore, 1) := by decide +kernel
theorem dX6_feed_61 : decode cX6_feed 61 = .ok (.aload_n 0, 1) := by decide +kernel
theorem dX6_feed_62 : decode cX6_feed 62 = .ok (.dup, 1) := by decide +kernel
theorem dX6_feed_63 : decode cX6_feed 63 = .ok (.getfield 158, 3) := by decide +kernel
theorem dX6_feed_66 : decode cX6_feed 66 = .ok (.iconst 1, 1) := by decide +kernel
theorem dX6_feed_67 : decode cX6_feed 67 = .ok (.iadd, 1) := by decide +kernel
theorem dX6_feed_68 : decode cX6_feed 68 = .ok (.putfield 158, 3) := by decide +kernel
theorem dX6_feed_71 : decode cX6_feed 71 = .ok (.iinc 3 (-1), 3) := by decide +kernel
theorem dX6_feed_74 : decode cX6_feed 74 = .ok (.goto (-36), 3) := by decide +kernel
theorem dX6_feed_77 : decode cX6_feed 77 = .ok (.aload_n 0, 1) := by decide +kernel
theorem dX6_feed_78 : decode cX6_feed 78 = .ok (.getfield 158, 3) := by decide +kernel
theorem dX6_feed_81 : decode cX6_feed 81 = .ok (.ireturn, 1) := by decide +kernel
theorem dX6_wipe_0 : decode cX6_wipe 0 = .ok (.aload_n 0, 1) := by decide +kernel
theorem dX6_wipe_1 : decode cX6_wipe 1 = .ok (.getfield 158, 3) := by decide +kernel
theorem dX6_wipe_4 : decode cX6_wipe 4 = .ok (.istore_n 1, 1) := by decide +kernel
theorem dX6_wipe_5 : decode cX6_wipe 5 = .ok (.aload_n 0, 1) := by decide +kernel
theorem dX6_wipe_6 : decode cX6_wipe 6 = .ok (.iconst 0, 1) := by decide +kernel
theorem dX6_wipe_7 : decode cX6_wipe 7 = .ok (.putfield 158, 3) := by decide +kernel
theorem dX6_wipe_10 : decode cX6_wipe 10 = .ok (.iload_n 1, 1) := by decide +kernel
theorem dX6_wipe_11 : decode cX6_wipe 11 = .ok (.ireturn, 1) := by decide +kernel
theorem dX6_byteAt_0 : decode cX6_byteAt 0 = .ok (.iload_n 1, 1) := by decide +kernel
theorem dX6_byteAt_1 : decode cX6_byteAt 1 = .ok (.aload_n 0, 1) := by decide +kernel
theorem dX6_byteAt_2 : decode cX6_byteAt 2 = .ok (.getfield 158, 3) := by decide +kernel
theorem dX6_byteAt_5 : decode cX6_byteAt 5 = .ok (.if_icmp .ge 12, 3) := by decide +kernel
theorem dX6_byteAt_8 : decode cX6_byteAt 8 = .ok (.aload_n 0, 1) := by decide +kernel
theorem dX6_byteAt_9 : decode cX6_byteAt 9 = .ok (.getfield 22, 3) := by decide +kernel
theorem dX6_byteAt_12 : decode cX6_byteAt 12 = .ok (.iload_n 1, 1) := by decide +kernel
theorem dX6_byteAt_13 : decode cX6_byteAt 13 = .ok (.iaload, 1) := by decide +kernel
theorem dX6_byteAt_14 : decode cX6_byteAt 14 = .ok (.goto 4, 3) := by decide +kernel
theorem dX6_byteAt_17 : decode cX6_byteAt 17 = .ok (.iconst (-1), 1) := by decide +kernel
theorem dX6_byteAt_18 : decode cX6_byteAt 18 = .ok (.ireturn, 1) := by decide +kernel
theorem dX6_isLetter_0 : decode cX6_isLetter 0 = .ok (.iload_n 0, 1) := by decide +kernel
theorem dX6_isLetter_1 : decode cX6_isLetter 1 = .ok (.bipush 97, 2) := by decide +kernel
theorem dX6_isLetter_3 : decode cX6_isLetter 3 = .ok (.bipush 122, 2) := by decide +kernel
theorem dX6_isLetter_5 : decode cX6_isLetter 5 = .ok (.invokestatic 49, 3) := by decide +kernel
theorem dX6_isLetter_8 : decode cX6_isLetter 8 = .ok (.ireturn, 1) := by decide +kernel
theorem dX6_isDigit_0 : decode cX6_isDigit 0 = .ok (.iload_n 0, 1) := by decide +kernel
theorem dX6_isDigit_1 : decode cX6_isDigit 1 = .ok (.bipush 48, 2) := by decide +kernel
theorem dX6_isDigit_3 : decode cX6_isDigit 3 = .ok (.bipush 57, 2) := by decide +kernel
theorem dX6_isDigit_5 : decode cX6_isDigit 5 = .ok (.invokestatic 49, 3) := by decide +kernel
theorem dX6_isDigit_8 : decode cX6_isDigit 8 = .ok (.ireturn, 1) := by decide +kernel
theorem dX6_advance_0 : decode cX6_advance 0 = .ok (.aload_n 0, 1) := by decide +kernel
theorem dX6_advance_1 : decode cX6_advance 1 = .ok (.aload_n 0, 1) := by decide +kernel
theorem dX6_advance_2 : decode cX6_advance 2 = .ok (.getfield 162, 3) := by decide +kernel
theorem dX6_advance_5 : decode cX6_advance 5 = .ok (.putfield 165, 3) := by decide +kernel
theorem dX6_advance_8 : decode cX6_advance 8 = .ok (.aload_n 0, 1) := by decide +kernel
theorem dX6_advance_9 : decode cX6_advance 9 = .ok (.aload_n 0, 1) := by decide +kernel
theorem dX6_advance_10 : decode cX6_advance 10 = .ok (.getfield 165, 3) := by decide +kernel
theorem dX6_advance_13 : decode cX6_advance 13 = .ok (.invokevirtual 168, 3) := by decide +kernel
theorem dX6_advance_16 : decode cX6_advance 16 = .ok (.bipush 32, 2) := by decide +kernel
theorem dX6_advance_18 : decode cX6_advance 18 = .ok (.if_icmp .ne 16, 3) := by decide +kernel
theorem dX6_advance_21 : decode cX6_advance 21 = .ok (.aload_n 0, 1) := by decide +kernel
theorem dX6_advance_22 : decode cX6_advance 22 = .ok (.dup, 1) := by decide +kernel
theorem dX6_advance_23 : decode cX6_advance 23 = .ok (.getfield 165, 3) := by decide +kernel
theorem dX6_advance_26 : decode cX6_advance 26 = .ok (.iconst 1, 1) := by decide +kernel
theorem dX6_advance_27 : decode cX6_advance 27 = .ok (.iadd, 1) := by decide +kernel
theorem dX6_advance_28 : decode cX6_advance 28 = .ok (.putfield 165, 3) := by decide +kernel
theorem dX6_advance_31 : decode cX6_advance 31 = .ok (.goto (-23), 3) := by decide +kernel
theorem dX6_advance_34 : decode cX6_advance 34 = .ok (.aload_n 0, 1) := by decide +kernel
theorem dX6_advance_35 : decode cX6_advance 35 = .ok (.aload_n 0, 1) := by decide +kernel
theorem dX6_advance_36 : decode cX6_advance 36 = .ok (.getfield 165, 3) := by decide +kernel
theorem dX6_advance_39 : decode cX6_advance 39 = .ok (.putfield 162, 3) := by decide +kernel
theorem dX6_advance_42 : decode cX6_advance 42 = .ok (.aload_n 0, 1) := by decide +kernel
theorem dX6_advance_43 : decode cX6_advance 43 = .ok (.aload_n 0, 1) := by decide +kernel
theorem dX6_advance_44 : decode cX6_advance 44 = .ok (.getfield 165, 3) := by decide +kernel
theorem dX6_advance_47 : decode cX6_advance 47 = .ok (.invokevirtual 168, 3) := by decide +kernel
theorem dX6_advance_50 : decode cX6_advance 50 = .ok (.istore_n 1, 1) := by decide +kernel
theorem dX6_advance_51 : decode cX6_advance 51 = .ok (.aload_n 0, 1) := by decide +kernel
theorem dX6_advance_52 : decode cX6_advance 52 = .ok (.iload_n 1, 1) := by decide +kernel
theorem dX6_advance_53 : decode cX6_advance 53 = .ok (.ifCond .ge 7, 3) := by decide +kernel
theorem dX6_advance_56 : decode cX6_advance 56 = .ok (.iconst 0, 1) := by decide +kernel
theorem dX6_advance_57 : decode cX6_advance 57 = .ok (.goto 26, 3) := by decide +kernel
theorem dX6_advance_60 : decode cX6_advance 60 = .ok (.iload_n 1, 1) := by decide +kernel
theorem dX6_advance_61 : decode cX6_advance 61 = .ok (.invokestatic 171, 3) := by decide +kernel
theorem dX6_advance_64 : decode cX6_advance 64 = .ok (.ifCond .eq 7, 3) := by decide +kernel
theorem dX6_advance_67 : decode cX6_advance 67 = .ok (.iconst 1, 1) := by decide +kernel
theorem dX6_advance_68 : decode cX6_advance 68 = .ok (.goto 15, 3) := by decide +kernel
theorem dX6_advance_71 : decode cX6_advance 71 = .ok (.iload_n 1, 1) := by decide +kernel
theorem dX6_advance_72 : decode cX6_advance 72 = .ok (.invokestatic 174, 3) := by decide +kernel
theorem dX6_advance_75 : decode cX6_advance 75 = .ok (.ifCond .eq 7, 3) := by decide +kernel
theorem dX6_advance_78 : decode cX6_advance 78 = .ok (.iconst 2, 1) := by decide +kernel
theorem dX6_advance_79 : decode cX6_advance 79 = .ok (.goto 4, 3) := by decide +kernel
theorem dX6_advance_82 : decode cX6_advance 82 = .ok (.iconst 3, 1) := by decide +kernel
theorem dX6_advance_83 : decode cX6_advance 83 = .ok (.putfield 177, 3) := by decide +kernel
theorem dX6_advance_86 : decode cX6_advance 86 = .ok (.aload_n 0, 1) := by decide +kernel
theorem dX6_advance_87 : decode cX6_advance 87 = .ok (.lconst 0, 1) := by decide +kernel
theorem dX6_advance_88 : decode cX6_advance 88 = .ok (.putfield 180, 3) := by decide +kernel
theorem dX6_advance_91 : decode cX6_advance 91 = .ok (.aload_n 0, 1) := by decide +kernel
theorem dX6_advance_92 : decode cX6_advance 92 = .ok (.aload_n 0, 1) := by decide +kernel
theorem dX6_advance_93 : decode cX6_advance 93 = .ok (.getfield 177, 3) := by decide +kernel
theorem dX6_advance_96 : decode cX6_advance 96 = .ok (.iconst 2, 1) := by decide +kernel
theorem dX6_advance_97 : decode cX6_advance 97 = .ok (.if_icmp .ne 7, 3) := by decide +kernel
theorem dX6_advance_100 : decode cX6_advance 100 = .ok (.iconst 0, 1) := by decide +kernel
theorem dX6_advance_101 : decode cX6_advance 101 = .ok (.goto 4, 3) := by decide +kernel
theorem dX6_advance_104 : decode cX6_advance 104 = .ok (.iload_n 1, 1) := by decide +kernel
theorem dX6_advance_105 : decode cX6_advance 105 = .ok (.putfield 184, 3) := by decide +kernel
theorem dX6_advance_108 : decode cX6_advance 108 = .ok (.aload_n 0, 1) := by decide +kernel
theorem dX6_advance_109 : decode cX6_advance 109 = .ok (.getfield 177, 3) := by decide +kernel
theorem dX6_advance_112 : decode cX6_advance 112 = .ok (.iconst 3, 1) := by decide +kernel
theorem dX6_advance_113 : decode cX6_advance 113 = .ok (.if_icmp .ne 13, 3) := by decide +kernel
theorem dX6_advance_116 : decode cX6_advance 116 = .ok (.aload_n 0, 1) := by decide +kernel
theorem dX6_advance_117 : decode cX6_advance 117 = .ok (.dup, 1) := by decide +kernel
theorem dX6_advance_118 : decode cX6_advance 118 = .ok (.getfield 162, 3) := by decide +kernel
theorem dX6_advance_121 : decode cX6_advance 121 = .ok (.iconst 1, 1) := by decide +kernel
theorem dX6_advance_122 : decode cX6_advance 122 = .ok (.iadd, 1) := by decide +kernel
theorem dX6_advance_123 : decode cX6_advance 123 = .ok (.putfield 162, 3) := by decide +kernel
theorem dX6_advance_126 : decode cX6_advance 126 = .ok (.aload_n 0, 1) := by decide +kernel
theorem dX6_advance_127 : decode cX6_advance 127 = .ok (.getfield 177, 3) := by decide +kernel
theorem dX6_advance_130 : decode cX6_advance 130 = .ok (.iconst 1, 1) := by decide +kernel
theorem dX6_advance_131 : decode cX6_advance 131 = .ok (.if_icmp .ne 76, 3) := by decide +kernel
theorem dX6_advance_134 : decode cX6_advance 134 = .ok (.aload_n 0, 1) := by decide +kernel
theorem dX6_advance_135 : decode cX6_advance 135 = .ok (.aload_n 0, 1) := by decide +kernel
theorem dX6_advance_136 : decode cX6_advance 136 = .ok (.getfield 162, 3) := by decide +kernel
theorem dX6_advance_139 : decode cX6_advance 139 = .ok (.invokevirtual 168, 3) := by decide +kernel
theorem dX6_advance_142 : decode cX6_advance 142 = .ok (.invokestatic 171, 3) := by decide +kernel
theorem dX6_advance_145 : decode cX6_advance 145 = .ok (.ifCond .eq 62, 3) := by decide +kernel
theorem dX6_advance_148 : decode cX6_advance 148 = .ok (.aload_n 0, 1) := by decide +kernel
theorem dX6_advance_149 : decode cX6_advance 149 = .ok (.aload_n 0, 1) := by decide +kernel
theorem dX6_advance_150 : decode cX6_advance 150 = .ok (.getfield 162, 3) := by decide +kernel
theorem dX6_advance_153 : decode cX6_advance 153 = .ok (.aload_n 0, 1) := by decide +kernel
theorem dX6_advance_154 : decode cX6_advance 154 = .ok (.getfield 165, 3) := by decide +kernel
theorem dX6_advance_157 : decode cX6_advance 157 = .ok (.isub, 1) := by decide +kernel
theorem dX6_advance_158 : decode cX6_advance 158 = .ok (.bipush 12, 2) := by decide +kernel
theorem dX6_advance_160 : decode cX6_advance 160 = .ok (.if_icmp .ge 28, 3) := by decide +kernel
theorem dX6_advance_163 : decode cX6_advance 163 = .ok (.ldc2_w 187, 3) := by decide +kernel
theorem dX6_advance_166 : decode cX6_advance 166 = .ok (.aload_n 0, 1) := by decide +kernel
theorem dX6_advance_167 : decode cX6_advance 167 = .ok (.getfield 180, 3) := by decide +kernel
theorem dX6_advance_170 : decode cX6_advance 170 = .ok (.lmul, 1) := by decide +kernel
theorem dX6_advance_171 : decode cX6_advance 171 = .ok (.aload_n 0, 1) := by decide +kernel
theorem dX6_advance_172 : decode cX6_advance 172 = .ok (.aload_n 0, 1) := by decide +kernel
theorem dX6_advance_173 : decode cX6_advance 173 = .ok (.getfield 162, 3) := by decide +kernel
theorem dX6_advance_176 : decode cX6_advance 176 = .ok (.invokevirtual 168, 3) := by decide +kernel
theorem dX6_advance_179 : decode cX6_advance 179 = .ok (.i2l, 1) := by decide +kernel
theorem dX6_advance_180 : decode cX6_advance 180 = .ok (.ladd, 1) := by decide +kernel
theorem dX6_advance_181 : decode cX6_advance 181 = .ok (.ldc2_w 189, 3) := by decide +kernel
theorem dX6_advance_184 : decode cX6_advance 184 = .ok (.lsub, 1) := by decide +kernel
theorem dX6_advance_185 : decode cX6_advance 185 = .ok (.goto 6, 3) := by decide +kernel
theorem dX6_advance_188 : decode cX6_advance 188 = .ok (.ldc2_w 191, 3) := by decide +kernel
theorem dX6_advance_191 : decode cX6_advance 191 = .ok (.putfield 180, 3) := by decide +kernel
theorem dX6_advance_194 : decode cX6_advance 194 = .ok (.aload_n 0, 1) := by decide +kernel
theorem dX6_advance_195 : decode cX6_advance 195 = .ok (.dup, 1) := by decide +kernel
theorem dX6_advance_196 : decode cX6_advance 196 = .ok (.getfield 162, 3) := by decide +kernel
theorem dX6_advance_199 : decode cX6_advance 199 = .ok (.iconst 1, 1) := by decide +kernel
theorem dX6_advance_200 : decode cX6_advance 200 = .ok (.iadd, 1) := by decide +kernel
theorem dX6_advance_201 : decode cX6_advance 201 = .ok (.putfield 162, 3) := by decide +kernel
theorem dX6_advance_204 : decode cX6_advance 204 = .ok (.goto (-78), 3) := by decide +kernel
theorem dX6_advance_207 : decode cX6_advance 207 = .ok (.aload_n 0, 1) := by decide +kernel
theorem dX6_advance_208 : decode cX6_advance 208 = .ok (.getfield 177, 3) := by decide +kernel
theorem dX6_advance_211 : decode cX6_advance 211 = .ok (.iconst 2, 1) := by decide +kernel
theorem dX6_advance_212 : decode cX6_advance 212 = .ok (.if_icmp .ne 69, 3) := by decide +kernel
theorem dX6_advance_215 : decode cX6_advance 215 = .ok (.aload_n 0, 1) := by decide +kernel
theorem dX6_advance_216 : decode cX6_advance 216 = .ok (.aload_n 0, 1) := by decide +kernel
theorem dX6_advance_217 : decode cX6_advance 217 = .ok (.getfield 162, 3) := by decide +kernel
theorem dX6_advance_220 : decode cX6_advance 220 = .ok (.invokevirtual 168, 3) := by decide +kernel
theorem dX6_advance_223 : decode cX6_advance 223 = .ok (.invokestatic 174, 3) := by decide +kernel
theorem dX6_advance_226 : decode cX6_advance 226 = .ok (.ifCond .eq 55, 3) := by decide +kernel
theorem dX6_advance_229 : decode cX6_advance 229 = .ok (.aload_n 0, 1) := by decide +kernel
theorem dX6_advance_230 : decode cX6_advance 230 = .ok (.aload_n 0, 1) := by decide +kernel
theorem dX6_advance_231 : decode cX6_advance 231 = .ok (.getfield 184, 3) := by decide +kernel
theorem dX6_advance_234 : decode cX6_advance 234 = .ok (.sipush 999, 3) := by decide +kernel
theorem dX6_advance_237 : decode cX6_advance 237 = .ok (.if_icmp .le 9, 3) := by decide +kernel
theorem dX6_advance_240 : decode cX6_advance 240 = .ok (.sipush 10000, 3) := by decide +kernel
theorem dX6_advance_243 : decode cX6_advance 243 = .ok (.goto 22, 3) := by decide +kernel
theorem dX6_advance_246 : decode cX6_advance 246 = .ok (.bipush 10, 2) := by decide +kernel
theorem dX6_advance_248 : decode cX6_advance 248 = .ok (.aload_n 0, 1) := by decide +kernel
theorem dX6_advance_249 : decode cX6_advance 249 = .ok (.getfield 184, 3) := by decide +kernel
theorem dX6_advance_252 : decode cX6_advance 252 = .ok (.imul, 1) := by decide +kernel
theorem dX6_advance_253 : decode cX6_advance 253 = .ok (.aload_n 0, 1) := by decide +kernel
theorem dX6_advance_254 : decode cX6_advance 254 = .ok (.aload_n 0, 1) := by decide +kernel
theorem dX6_advance_255 : decode cX6_advance 255 = .ok (.getfield 162, 3) := by decide +kernel
theorem dX6_advance_258 : decode cX6_advance 258 = .ok (.invokevirtual 168, 3) := by decide +kernel
theorem dX6_advance_261 : decode cX6_advance 261 = .ok (.iadd, 1) := by decide +kernel
theorem dX6_advance_262 : decode cX6_advance 262 = .ok (.bipush 48, 2) := by decide +kernel
theorem dX6_advance_264 : decode cX6_advance 264 = .ok (.isub, 1) := by decide +kernel
theorem dX6_advance_265 : decode cX6_advance 265 = .ok (.putfield 184, 3) := by decide +kernel
theorem dX6_advance_268 : decode cX6_advance 268 = .ok (.aload_n 0, 1) := by decide +kernel
theorem dX6_advance_269 : decode cX6_advance 269 = .ok (.dup, 1) := by decide +kernel
theorem dX6_advance_270 : decode cX6_advance 270 = .ok (.getfield 162, 3) := by decide +kernel
theorem dX6_advance_273 : decode cX6_advance 273 = .ok (.iconst 1, 1) := by decide +kernel
theorem dX6_advance_274 : decode cX6_advance 274 = .ok (.iadd, 1) := by decide +kernel
theorem dX6_advance_275 : decode cX6_advance 275 = .ok (.putfield 162, 3) := by decide +kernel
theorem dX6_advance_278 : decode cX6_advance 278 = .ok (.goto (-71), 3) := by decide +kernel
theorem dX6_advance_281 : decode cX6_advance 281 = .ok (.return_, 1) := by decide +kernel
theorem dX6_isWord_0 : decode cX6_isWord 0 = .ok (.aload_n 0, 1) := by decide +kernel
theorem dX6_isWord_1 : decode cX6_isWord 1 = .ok (.getfield 177, 3) := by decide +kernel
theorem dX6_isWord_4 : decode cX6_isWord 4 = .ok (.iconst 1, 1) := by decide +kernel
theorem dX6_isWord_5 : decode cX6_isWord 5 = .ok (.if_icmp .ne 16, 3) := by decide +kernel
theorem dX6_isWord_8 : decode cX6_isWord 8 = .ok (.aload_n 0, 1) := by decide +kernel
theorem dX6_isWord_9 : decode cX6_isWord 9 = .ok (.getfield 180, 3) := by decide +kernel
theorem dX6_isWord_12 : decode cX6_isWord 12 = .ok (.lload_n 1, 1) := by decide +kernel
theorem dX6_isWord_13 : decode cX6_isWord 13 = .ok (.lcmp, 1) := by decide +kernel
theorem dX6_isWord_14 : decode cX6_isWord 14 = .ok (.ifCond .ne 7, 3) := by decide +kernel
theorem dX6_isWord_17 : decode cX6_isWord 17 = .ok (.iconst 1, 1) := by decide +kernel
theorem dX6_isWord_18 : decode cX6_isWord 18 = .ok (.goto 4, 3) := by decide +kernel
theorem dX6_isWord_21 : decode cX6_isWord 21 = .ok (.iconst 0, 1) := by decide +kernel
theorem dX6_isWord_22 : decode cX6_isWord 22 = .ok (.ireturn, 1) := by decide +kernel
theorem dX6_kindHere_0 : decode cX6_kindHere 0 = .ok (.aload_n 0, 1) := by decide +kernel
theorem dX6_kindHere_1 : decode cX6_kindHere 1 = .ok (.ldc2_w 193, 3) := by decide +kernel
theorem dX6_kindHere_4 : decode cX6_kindHere 4 = .ok (.invokevirtual 195, 3) := by decide +kernel
theorem dX6_kindHere_7 : decode cX6_kindHere 7 = .ok (.ifCond .eq 7, 3) := by decide +kernel
theorem dX6_kindHere_10 : decode cX6_kindHere 10 = .ok (.iconst 0, 1) := by decide +kernel
theorem dX6_kindHere_11 : decode cX6_kindHere 11 = .ok (.goto 74, 3) := by decide +kernel
theorem dX6_kindHere_14 : decode cX6_kindHere 14 = .ok (.aload_n 0, 1) := by decide +kernel
theorem dX6_kindHere_15 : decode cX6_kindHere 15 = .ok (.ldc2_w 199, 3) := by decide +kernel
theorem dX6_kindHere_18 : decode cX6_kindHere 18 = .ok (.invokevirtual 195, 3) := by decide +kernel
theorem dX6_kindHere_21 : decode cX6_kindHere 21 = .ok (.ifCond .eq 7, 3) := by decide +kernel
theorem dX6_kindHere_24 : decode cX6_kindHere 24 = .ok (.iconst 1, 1) := by decide +kernel
theorem dX6_kindHere_25 : decode cX6_kindHere 25 = .ok (.goto 60, 3) := by decide +kernel
theorem dX6_kindHere_28 : decode cX6_kindHere 28 = .ok (.aload_n 0, 1) := by decide +kernel
theorem dX6_kindHere_29 : decode cX6_kindHere 29 = .ok (.ldc2_w 201, 3) := by decide +kernel
theorem dX6_kindHere_32 : decode cX6_kindHere 32 = .ok (.invokevirtual 195, 3) := by decide +kernel
theorem dX6_kindHere_35 : decode cX6_kindHere 35 = .ok (.ifCond .eq 7, 3) := by decide +kernel
theorem dX6_kindHere_38 : decode cX6_kindHere 38 = .ok (.iconst 2, 1) := by decide +kernel
theorem dX6_kindHere_39 : decode cX6_kindHere 39 = .ok (.goto 46, 3) := by decide +kernel
theorem dX6_kindHere_42 : decode cX6_kindHere 42 = .ok (.aload_n 0, 1) := by decide +kernel
theorem dX6_kindHere_43 : decode cX6_kindHere 43 = .ok (.ldc2_w 203, 3) := by decide +kernel
theorem dX6_kindHere_46 : decode cX6_kindHere 46 = .ok (.invokevirtual 195, 3) := by decide +kernel
theorem dX6_kindHere_49 : decode cX6_kindHere 49 = .ok (.ifCond .eq 7, 3) := by decide +kernel
theorem dX6_kindHere_52 : decode cX6_kindHere 52 = .ok (.iconst 3, 1) := by decide +kernel
theorem dX6_kindHere_53 : decode cX6_kindHere 53 = .ok (.goto 32, 3) := by decide +kernel
theorem dX6_kindHere_56 : decode cX6_kindHere 56 = .ok (.aload_n 0, 1) := by decide +kernel
theorem dX6_kindHere_57 : decode cX6_kindHere 57 = .ok (.ldc2_w 205, 3) := by decide +kernel
theorem dX6_kindHere_60 : decode cX6_kindHere 60 = .ok (.invokevirtual 195, 3) := by decide +kernel
theorem dX6_kindHere_63 : decode cX6_kindHere 63 = .ok (.ifCond .eq 7, 3) := by decide +kernel
theorem dX6_kindHere_66 : decode cX6_kindHere 66 = .ok (.iconst 4, 1) := by decide +kernel
theorem dX6_kindHere_67 : decode cX6_kindHere 67 = .ok (.goto 18, 3) := by decide +kernel
theorem dX6_kindHere_70 : decode cX6_kindHere 70 = .ok (.aload_n 0, 1) := by decide +kernel
theorem dX6_kindHere_71 : decode cX6_kindHere 71 = .ok (.ldc2_w 207, 3) := by decide +kernel
theorem dX6_kindHere_74 : decode cX6_kindHere 74 = .ok (.invokevirtual 195, 3) := by decide +kernel
theorem dX6_kindHere_77 : decode cX6_kindHere 77 = .ok (.ifCond .eq 7, 3) := by decide +kernel
theorem dX6_kindHere_80 : decode cX6_kindHere 80 = .ok (.iconst 5, 1) := by decide +kernel
theorem dX6_kindHere_81 : decode cX6_kindHere 81 = .ok (.goto 4, 3) := by decide +kernel
theorem dX6_kindHere_84 : decode cX6_kindHere 84 = .ok (.iconst (-1), 1) := by decide +kernel
theorem dX6_kindHere_85 : decode cX6_kindHere 85 = .ok (.ireturn, 1) := by decide +kernel
theorem dX6_wantNumber_0 : decode cX6_wantNumber 0 = .ok (.aload_n 0, 1) := by decide +kernel
theorem dX6_wantNumber_1 : decode cX6_wantNumber 1 = .ok (.getfield 184, 3) := by decide +kernel
theorem dX6_wantNumber_4 : decode cX6_wantNumber 4 = .ok (.istore_n 3, 1) := by decide +kernel
theorem dX6_wantNumber_5 : decode cX6_wantNumber 5 = .ok (.aload_n 0, 1) := by decide +kernel
theorem dX6_wantNumber_6 : decode cX6_wantNumber 6 = .ok (.aload_n 0, 1) := by decide +kernel
theorem dX6_wantNumber_7 : decode cX6_wantNumber 7 = .ok (.getfield 209, 3) := by decide +kernel
theorem dX6_wantNumber_10 : decode cX6_wantNumber 10 = .ok (.ifCond .eq 24, 3) := by decide +kernel
theorem dX6_wantNumber_13 : decode cX6_wantNumber 13 = .ok (.aload_n 0, 1) := by decide +kernel
theorem dX6_wantNumber_14 : decode cX6_wantNumber 14 = .ok (.getfield 177, 3) := by decide +kernel
theorem dX6_wantNumber_17 : decode cX6_wantNumber 17 = .ok (.iconst 2, 1) := by decide +kernel
theorem dX6_wantNumber_18 : decode cX6_wantNumber 18 = .ok (.if_icmp .ne 16, 3) := by decide +kernel
theorem dX6_wantNumber_21 : decode cX6_wantNumber 21 = .ok (.iload_n 3, 1) := by decide +kernel
theorem dX6_wantNumber_22 : decode cX6_wantNumber 22 = .ok (.iload_n 1, 1) := by decide +kernel
theorem dX6_wantNumber_23 : decode cX6_wantNumber 23 = .ok (.iload_n 2, 1) := by decide +kernel
theorem dX6_wantNumber_24 : decode cX6_wantNumber 24 = .ok (.invokestatic 49, 3) := by decide +kernel
theorem dX6_wantNumber_27 : decode cX6_wantNumber 27 = .ok (.ifCond .eq 7, 3) := by decide +kernel
theorem dX6_wantNumber_30 : decode cX6_wantNumber 30 = .ok (.iconst 1, 1) := by decide +kernel
theorem dX6_wantNumber_31 : decode cX6_wantNumber 31 = .ok (.goto 4, 3) := by decide +kernel
theorem dX6_wantNumber_34 : decode cX6_wantNumber 34 = .ok (.iconst 0, 1) := by decide +kernel
theorem dX6_wantNumber_35 : decode cX6_wantNumber 35 = .ok (.putfield 209, 3) := by decide +kernel
theorem dX6_wantNumber_38 : decode cX6_wantNumber 38 = .ok (.aload_n 0, 1) := by decide +kernel
theorem dX6_wantNumber_39 : decode cX6_wantNumber 39 = .ok (.getfield 209, 3) := by decide +kernel
theorem dX6_wantNumber_42 : decode cX6_wantNumber 42 = .ok (.ifCond .eq 7, 3) := by decide +kernel
theorem dX6_wantNumber_45 : decode cX6_wantNumber 45 = .ok (.aload_n 0, 1) := by decide +kernel
theorem dX6_wantNumber_46 : decode cX6_wantNumber 46 = .ok (.invokevirtual 213, 3) := by decide +kernel
theorem dX6_wantNumber_49 : decode cX6_wantNumber 49 = .ok (.iload_n 3, 1) := by decide +kernel
theorem dX6_wantNumber_50 : decode cX6_wantNumber 50 = .ok (.ireturn, 1) := by decide +kernel
theorem dX6_mayWant_0 : decode cX6_mayWant 0 = .ok (.aload_n 0, 1) := by decide +kernel
theorem dX6_mayWant_1 : decode cX6_mayWant 1 = .ok (.getfield 209, 3) := by decide +kernel
theorem dX6_mayWant_4 : decode cX6_mayWant 4 = .ok (.ifCond .eq 11, 3) := by decide +kernel
theorem dX6_mayWant_7 : decode cX6_mayWant 7 = .ok (.aload_n 0, 1) := by decide +kernel
theorem dX6_mayWant_8 : decode cX6_mayWant 8 = .ok (.lload_n 1, 1) := by decide +kernel
theorem dX6_mayWant_9 : decode cX6_mayWant 9 = .ok (.invokevirtual 195, 3) := by decide +kernel
theorem dX6_mayWant_12 : decode cX6_mayWant 12 = .ok (.ifCond .ne 6, 3) := by decide +kernel
theorem dX6_mayWant_15 : decode cX6_mayWant 15 = .ok (.iload 5, 2) := by decide +kernel
theorem dX6_mayWant_17 : decode cX6_mayWant 17 = .ok (.ireturn, 1) := by decide +kernel
theorem dX6_mayWant_18 : decode cX6_mayWant 18 = .ok (.aload_n 0, 1) := by decide +kernel
theorem dX6_mayWant_19 : decode cX6_mayWant 19 = .ok (.invokevirtual 213, 3) := by decide +kernel
theorem dX6_mayWant_22 : decode cX6_mayWant 22 = .ok (.aload_n 0, 1) := by decide +kernel
theorem dX6_mayWant_23 : decode cX6_mayWant 23 = .ok (.iload_n 3, 1) := by decide +kernel
theorem dX6_mayWant_24 : decode cX6_mayWant 24 = .ok (.iload 4, 2) := by decide +kernel
theorem dX6_mayWant_26 : decode cX6_mayWant 26 = .ok (.invokevirtual 216, 3) := by decide +kernel
theorem dX6_mayWant_29 : decode cX6_mayWant 29 = .ok (.ireturn, 1) := by decide +kernel
theorem dX6_may_0 : decode cX6_may 0 = .ok (.aload_n 0, 1) := by decide +kernel
theorem dX6_may_1 : decode cX6_may 1 = .ok (.getfield 209, 3) := by decide +kernel
theorem dX6_may_4 : decode cX6_may 4 = .ok (.ifCond .eq 15, 3) := by decide +kernel
theorem dX6_may_7 : decode cX6_may 7 = .ok (.aload_n 0, 1) := by decide +kernel
theorem dX6_may_8 : decode cX6_may 8 = .ok (.lload_n 1, 1) := by decide +kernel
theorem dX6_may_9 : decode cX6_may 9 = .ok (.invokevirtual 195, 3) := by decide +kernel
theorem dX6_may_12 : decode cX6_may 12 = .ok (.ifCond .eq 7, 3) := by decide +kernel
theorem dX6_may_15 : decode cX6_may 15 = .ok (.iconst 1, 1) := by decide +kernel
theorem dX6_may_16 : decode cX6_may 16 = .ok (.goto 4, 3) := by decide +kernel
theorem dX6_may_19 : decode cX6_may 19 = .ok (.iconst 0, 1) := by decide +kernel
theorem dX6_may_20 : decode cX6_may 20 = .ok (.istore_n 3, 1) := by decide +kernel
theorem dX6_may_21 : decode cX6_may 21 = .ok (.iload_n 3, 1) := by decide +kernel
theorem dX6_may_22 : decode cX6_may 22 = .ok (.ifCond .eq 7, 3) := by decide +kernel
theorem dX6_may_25 : decode cX6_may 25 = .ok (.aload_n 0, 1) := by decide +kernel
theorem dX6_may_26 : decode cX6_may 26 = .ok (.invokevirtual 213, 3) := by decide +kernel
theorem dX6_may_29 : decode cX6_may 29 = .ok (.iload_n 3, 1) := by decide +kernel
theorem dX6_may_30 : decode cX6_may 30 = .ok (.ireturn, 1) := by decide +kernel
theorem dX6_wantOne_0 : decode cX6_wantOne 0 = .ok (.aload_n 0, 1) := by decide +kernel
theorem dX6_wantOne_1 : decode cX6_wantOne 1 = .ok (.aload_n 0, 1) := by decide +kernel
theorem dX6_wantOne_2 : decode cX6_wantOne 2 = .ok (.getfield 7, 3) := by decide +kernel
theorem dX6_wantOne_5 : decode cX6_wantOne 5 = .ok (.iconst 1, 1) := by decide +kernel
theorem dX6_wantOne_6 : decode cX6_wantOne 6 = .ok (.iaload, 1) := by decide +kernel
theorem dX6_wantOne_7 : decode cX6_wantOne 7 = .ok (.bipush 10, 2) := by decide +kernel
theorem dX6_wantOne_9 : decode cX6_wantOne 9 = .ok (.if_icmp .ge 7, 3) := by decide +kernel
theorem dX6_wantOne_12 : decode cX6_wantOne 12 = .ok (.iconst 1, 1) := by decide +kernel
theorem dX6_wantOne_13 : decode cX6_wantOne 13 = .ok (.goto 4, 3) := by decide +kernel
theorem dX6_wantOne_16 : decode cX6_wantOne 16 = .ok (.iconst 0, 1) := by decide +kernel
theorem dX6_wantOne_17 : decode cX6_wantOne 17 = .ok (.putfield 209, 3) := by decide +kernel
theorem dX6_wantOne_20 : decode cX6_wantOne 20 = .ok (.aload_n 0, 1) := by decide +kernel
theorem dX6_wantOne_21 : decode cX6_wantOne 21 = .ok (.getfield 209, 3) := by decide +kernel
theorem dX6_wantOne_24 : decode cX6_wantOne 24 = .ok (.ifCond .ne 4, 3) := by decide +kernel
theorem dX6_wantOne_27 : decode cX6_wantOne 27 = .ok (.return_, 1) := by decide +kernel
theorem dX6_wantOne_28 : decode cX6_wantOne 28 = .ok (.aload_n 0, 1) := by decide +kernel
theorem dX6_wantOne_29 : decode cX6_wantOne 29 = .ok (.invokevirtual 213, 3) := by decide +kernel
theorem dX6_wantOne_32 : decode cX6_wantOne 32 = .ok (.aload_n 0, 1) := by decide +kernel
theorem dX6_wantOne_33 : decode cX6_wantOne 33 = .ok (.iconst 0, 1) := by decide +kernel
theorem dX6_wantOne_34 : decode cX6_wantOne 34 = .ok (.iconst 3, 1) := by decide +kernel
theorem dX6_wantOne_35 : decode cX6_wantOne 35 = .ok (.invokevirtual 216, 3) := by decide +kernel
theorem dX6_wantOne_38 : decode cX6_wantOne 38 = .ok (.istore_n 2, 1) := by decide +kernel
theorem dX6_wantOne_39 : decode cX6_wantOne 39 = .ok (.aload_n 0, 1) := by decide +kernel
theorem dX6_wantOne_40 : decode cX6_wantOne 40 = .ok (.ldc2_w 219, 3) := by decide +kernel
theorem dX6_wantOne_43 : decode cX6_wantOne 43 = .ok (.iconst 0, 1) := by decide +kernel
theorem dX6_wantOne_44 : decode cX6_wantOne 44 = .ok (.bipush 99, 2) := by decide +kernel
theorem dX6_wantOne_46 : decode cX6_wantOne 46 = .ok (.bipush 50, 2) := by decide +kernel
theorem dX6_wantOne_48 : decode cX6_wantOne 48 = .ok (.invokevirtual 221, 3) := by decide +kernel
theorem dX6_wantOne_51 : decode cX6_wantOne 51 = .ok (.istore_n 3, 1) := by decide +kernel
theorem dX6_wantOne_52 : decode cX6_wantOne 52 = .ok (.aload_n 0, 1) := by decide +kernel
theorem dX6_wantOne_53 : decode cX6_wantOne 53 = .ok (.ldc2_w 225, 3) := by decide +kernel
theorem dX6_wantOne_56 : decode cX6_wantOne 56 = .ok (.invokevirtual 227, 3) := by decide +kernel
theorem dX6_wantOne_59 : decode cX6_wantOne 59 = .ok (.ifCond .eq 7, 3) := by decide +kernel
theorem dX6_wantOne_62 : decode cX6_wantOne 62 = .ok (.iconst 0, 1) := by decide +kernel
theorem dX6_wantOne_63 : decode cX6_wantOne 63 = .ok (.goto 4, 3) := by decide +kernel
theorem dX6_wantOne_66 : decode cX6_wantOne 66 = .ok (.iconst 1, 1) := by decide +kernel
theorem dX6_wantOne_67 : decode cX6_wantOne 67 = .ok (.istore 4, 2) := by decide +kernel
theorem dX6_wantOne_69 : decode cX6_wantOne 69 = .ok (.aload_n 0, 1) := by decide +kernel
theorem dX6_wantOne_70 : decode cX6_wantOne 70 = .ok (.getfield 209, 3) := by decide +kernel
theorem dX6_wantOne_73 : decode cX6_wantOne 73 = .ok (.ifCond .eq 12, 3) := by decide +kernel
theorem dX6_wantOne_76 : decode cX6_wantOne 76 = .ok (.aload_n 0, 1) := by decide +kernel
theorem dX6_wantOne_77 : decode cX6_wantOne 77 = .ok (.iload_n 1, 1) := by decide +kernel
theorem dX6_wantOne_78 : decode cX6_wantOne 78 = .ok (.iload_n 2, 1) := by decide +kernel
theorem dX6_wantOne_79 : decode cX6_wantOne 79 = .ok (.iload_n 3, 1) := by decide +kernel
theorem dX6_wantOne_80 : decode cX6_wantOne 80 = .ok (.iload 4, 2) := by decide +kernel
theorem dX6_wantOne_82 : decode cX6_wantOne 82 = .ok (.invokevirtual 111, 3) := by decide +kernel
theorem dX6_wantOne_85 : decode cX6_wantOne 85 = .ok (.return_, 1) := by decide +kernel
theorem dX6_wantMast_0 : decode cX6_wantMast 0 = .ok (.aload_n 0, 1) := by decide +kernel
theorem dX6_wantMast_1 : decode cX6_wantMast 1 = .ok (.iconst 0, 1) := by decide +kernel
theorem dX6_wantMast_2 : decode cX6_wantMast 2 = .ok (.iconst 3, 1) := by decide +kernel
theorem dX6_wantMast_3 : decode cX6_wantMast 3 = .ok (.invokevirtual 216, 3) := by decide +kernel
theorem dX6_wantMast_6 : decode cX6_wantMast 6 = .ok (.istore_n 1, 1) := by decide +kernel
theorem dX6_wantMast_7 : decode cX6_wantMast 7 = .ok (.aload_n 0, 1) := by decide +kernel
theorem dX6_wantMast_8 : decode cX6_wantMast 8 = .ok (.getfield 209, 3) := by decide +kernel
theorem dX6_wantMast_11 : decode cX6_wantMast 11 = .ok (.ifCond .eq 14, 3) := by decide +kernel
theorem dX6_wantMast_14 : decode cX6_wantMast 14 = .ok (.aload_n 0, 1) := by decide +kernel
theorem dX6_wantMast_15 : decode cX6_wantMast 15 = .ok (.iconst 0, 1) := by decide +kernel
theorem dX6_wantMast_16 : decode cX6_wantMast 16 = .ok (.sipush 999, 3) := by decide +kernel
theorem dX6_wantMast_19 : decode cX6_wantMast 19 = .ok (.invokevirtual 216, 3) := by decide +kernel
theorem dX6_wantMast_22 : decode cX6_wantMast 22 = .ok (.goto 4, 3) := by decide +kernel
theorem dX6_wantMast_25 : decode cX6_wantMast 25 = .ok (.iconst 0, 1) := by decide +kernel
theorem dX6_wantMast_26 : decode cX6_wantMast 26 = .ok (.istore_n 2, 1) := by decide +kernel
theorem dX6_wantMast_27 : decode cX6_wantMast 27 = .ok (.aload_n 0, 1) := by decide +kernel
theorem dX6_wantMast_28 : decode cX6_wantMast 28 = .ok (.ldc2_w 230, 3) := by decide +kernel
theorem dX6_wantMast_31 : decode cX6_wantMast 31 = .ok (.invokevirtual 227, 3) := by decide +kernel
theorem dX6_wantMast_34 : decode cX6_wantMast 34 = .ok (.ifCond .eq 7, 3) := by decide +kernel
theorem dX6_wantMast_37 : decode cX6_wantMast 37 = .ok (.iconst 0, 1) := by decide +kernel
theorem dX6_wantMast_38 : decode cX6_wantMast 38 = .ok (.goto 4, 3) := by decide +kernel
theorem dX6_wantMast_41 : decode cX6_wantMast 41 = .ok (.iconst 1, 1) := by decide +kernel
theorem dX6_wantMast_42 : decode cX6_wantMast 42 = .ok (.istore_n 3, 1) := by decide +kernel
theorem dX6_wantMast_43 : decode cX6_wantMast 43 = .ok (.aload_n 0, 1) := by decide +kernel
theorem dX6_wantMast_44 : decode cX6_wantMast 44 = .ok (.getfield 209, 3) := by decide +kernel
theorem dX6_wantMast_47 : decode cX6_wantMast 47 = .ok (.ifCond .eq 17, 3) := by decide +kernel
theorem dX6_wantMast_50 : decode cX6_wantMast 50 = .ok (.aload_n 0, 1) := by decide +kernel
theorem dX6_wantMast_51 : decode cX6_wantMast 51 = .ok (.iload_n 1, 1) := by decide +kernel
theorem dX6_wantMast_52 : decode cX6_wantMast 52 = .ok (.iconst 0, 1) := by decide +kernel
theorem dX6_wantMast_53 : decode cX6_wantMast 53 = .ok (.iload_n 2, 1) := by decide +kernel
theorem dX6_wantMast_54 : decode cX6_wantMast 54 = .ok (.invokevirtual 44, 3) := by decide +kernel
theorem dX6_wantMast_57 : decode cX6_wantMast 57 = .ok (.aload_n 0, 1) := by decide +kernel
theorem dX6_wantMast_58 : decode cX6_wantMast 58 = .ok (.iload_n 1, 1) := by decide +kernel
theorem dX6_wantMast_59 : decode cX6_wantMast 59 = .ok (.iconst 1, 1) := by decide +kernel
theorem dX6_wantMast_60 : decode cX6_wantMast 60 = .ok (.iload_n 3, 1) := by decide +kernel
theorem dX6_wantMast_61 : decode cX6_wantMast 61 = .ok (.invokevirtual 44, 3) := by decide +kernel
theorem dX6_wantMast_64 : decode cX6_wantMast 64 = .ok (.return_, 1) := by decide +kernel
theorem dX6_wantWind_0 : decode cX6_wantWind 0 = .ok (.aload_n 0, 1) := by decide +kernel
theorem dX6_wantWind_1 : decode cX6_wantWind 1 = .ok (.iconst 0, 1) := by decide +kernel
theorem dX6_wantWind_2 : decode cX6_wantWind 2 = .ok (.bipush 11, 2) := by decide +kernel
theorem dX6_wantWind_4 : decode cX6_wantWind 4 = .ok (.invokevirtual 216, 3) := by decide +kernel
theorem dX6_wantWind_7 : decode cX6_wantWind 7 = .ok (.istore_n 1, 1) := by decide +kernel
theorem dX6_wantWind_8 : decode cX6_wantWind 8 = .ok (.aload_n 0, 1) := by decide +kernel
theorem dX6_wantWind_9 : decode cX6_wantWind 9 = .ok (.getfield 209, 3) := by decide +kernel
theorem dX6_wantWind_12 : decode cX6_wantWind 12 = .ok (.ifCond .eq 13, 3) := by decide +kernel
theorem dX6_wantWind_15 : decode cX6_wantWind 15 = .ok (.aload_n 0, 1) := by decide +kernel
theorem dX6_wantWind_16 : decode cX6_wantWind 16 = .ok (.iconst 0, 1) := by decide +kernel
theorem dX6_wantWind_17 : decode cX6_wantWind 17 = .ok (.bipush 99, 2) := by decide +kernel
theorem dX6_wantWind_19 : decode cX6_wantWind 19 = .ok (.invokevirtual 216, 3) := by decide +kernel
theorem dX6_wantWind_22 : decode cX6_wantWind 22 = .ok (.goto 4, 3) := by decide +kernel
theorem dX6_wantWind_25 : decode cX6_wantWind 25 = .ok (.iconst 0, 1) := by decide +kernel
theorem dX6_wantWind_26 : decode cX6_wantWind 26 = .ok (.istore_n 2, 1) := by decide +kernel
theorem dX6_wantWind_27 : decode cX6_wantWind 27 = .ok (.aload_n 0, 1) := by decide +kernel
theorem dX6_wantWind_28 : decode cX6_wantWind 28 = .ok (.getfield 209, 3) := by decide +kernel
theorem dX6_wantWind_31 : decode cX6_wantWind 31 = .ok (.ifCond .eq 12, 3) := by decide +kernel
theorem dX6_wantWind_34 : decode cX6_wantWind 34 = .ok (.aload_n 0, 1) := by decide +kernel
theorem dX6_wantWind_35 : decode cX6_wantWind 35 = .ok (.getfield 7, 3) := by decide +kernel
theorem dX6_wantWind_38 : decode cX6_wantWind 38 = .ok (.iconst 2, 1) := by decide +kernel
theorem dX6_wantWind_39 : decode cX6_wantWind 39 = .ok (.iload_n 1, 1) := by decide +kernel
theorem dX6_wantWind_40 : decode cX6_wantWind 40 = .ok (.iadd, 1) := by decide +kernel
theorem dX6_wantWind_41 : decode cX6_wantWind 41 = .ok (.iload_n 2, 1) := by decide +kernel
theorem dX6_wantWind_42 : decode cX6_wantWind 42 = .ok (.iastore, 1) := by decide +kernel
theorem dX6_wantWind_43 : decode cX6_wantWind 43 = .ok (.return_, 1) := by decide +kernel
theorem dX6_wantItem_0 : decode cX6_wantItem 0 = .ok (.aload_n 0, 1) := by decide +kernel
theorem dX6_wantItem_1 : decode cX6_wantItem 1 = .ok (.invokevirtual 232, 3) := by decide +kernel
theorem dX6_wantItem_4 : decode cX6_wantItem 4 = .ok (.ifCond .lt 14, 3) := by decide +kernel
theorem dX6_wantItem_7 : decode cX6_wantItem 7 = .ok (.aload_n 0, 1) := by decide +kernel
theorem dX6_wantItem_8 : decode cX6_wantItem 8 = .ok (.aload_n 0, 1) := by decide +kernel
theorem dX6_wantItem_9 : decode cX6_wantItem 9 = .ok (.invokevirtual 232, 3) := by decide +kernel
theorem dX6_wantItem_12 : decode cX6_wantItem 12 = .ok (.invokevirtual 235, 3) := by decide +kernel
theorem dX6_wantItem_15 : decode cX6_wantItem 15 = .ok (.goto 81, 3) := by decide +kernel
theorem dX6_wantItem_18 : decode cX6_wantItem 18 = .ok (.aload_n 0, 1) := by decide +kernel
theorem dX6_wantItem_19 : decode cX6_wantItem 19 = .ok (.ldc2_w 238, 3) := by decide +kernel
theorem dX6_wantItem_22 : decode cX6_wantItem 22 = .ok (.invokevirtual 227, 3) := by decide +kernel
theorem dX6_wantItem_25 : decode cX6_wantItem 25 = .ok (.ifCond .eq 10, 3) := by decide +kernel
theorem dX6_wantItem_28 : decode cX6_wantItem 28 = .ok (.aload_n 0, 1) := by decide +kernel
theorem dX6_wantItem_29 : decode cX6_wantItem 29 = .ok (.invokevirtual 240, 3) := by decide +kernel
theorem dX6_wantItem_32 : decode cX6_wantItem 32 = .ok (.goto 64, 3) := by decide +kernel
theorem dX6_wantItem_35 : decode cX6_wantItem 35 = .ok (.aload_n 0, 1) := by decide +kernel
theorem dX6_wantItem_36 : decode cX6_wantItem 36 = .ok (.ldc2_w 243, 3) := by decide +kernel
theorem dX6_wantItem_39 : decode cX6_wantItem 39 = .ok (.invokevirtual 227, 3) := by decide +kernel
theorem dX6_wantItem_42 : decode cX6_wantItem 42 = .ok (.ifCond .eq 10, 3) := by decide +kernel
theorem dX6_wantItem_45 : decode cX6_wantItem 45 = .ok (.aload_n 0, 1) := by decide +kernel
theorem dX6_wantItem_46 : decode cX6_wantItem 46 = .ok (.invokevirtual 245, 3) := by decide +kernel
theorem dX6_wantItem_49 : decode cX6_wantItem 49 = .ok (.goto 47, 3) := by decide +kernel
theorem dX6_wantItem_52 : decode cX6_wantItem 52 = .ok (.aload_n 0, 1) := by decide +kernel
theorem dX6_wantItem_53 : decode cX6_wantItem 53 = .ok (.ldc2_w 248, 3) := by decide +kernel
theorem dX6_wantItem_56 : decode cX6_wantItem 56 = .ok (.invokevirtual 227, 3) := by decide +kernel
theorem dX6_wantItem_59 : decode cX6_wantItem 59 = .ok (.ifCond .eq 32, 3) := by decide +kernel
theorem dX6_wantItem_62 : decode cX6_wantItem 62 = .ok (.aload_n 0, 1) := by decide +kernel
theorem dX6_wantItem_63 : decode cX6_wantItem 63 = .ok (.iconst 0, 1) := by decide +kernel
theorem dX6_wantItem_64 : decode cX6_wantItem 64 = .ok (.aload_n 0, 1) := by decide +kernel
theorem dX6_wantItem_65 : decode cX6_wantItem 65 = .ok (.getfield 7, 3) := by decide +kernel
theorem dX6_wantItem_68 : decode cX6_wantItem 68 = .ok (.iconst 1, 1) := by decide +kernel
theorem dX6_wantItem_69 : decode cX6_wantItem 69 = .ok (.iaload, 1) := by decide +kernel
theorem dX6_wantItem_70 : decode cX6_wantItem 70 = .ok (.iconst 1, 1) := by decide +kernel
theorem dX6_wantItem_71 : decode cX6_wantItem 71 = .ok (.isub, 1) := by decide +kernel
theorem dX6_wantItem_72 : decode cX6_wantItem 72 = .ok (.invokevirtual 216, 3) := by decide +kernel
theorem dX6_wantItem_75 : decode cX6_wantItem 75 = .ok (.istore_n 1, 1) := by decide +kernel
theorem dX6_wantItem_76 : decode cX6_wantItem 76 = .ok (.aload_n 0, 1) := by decide +kernel
theorem dX6_wantItem_77 : decode cX6_wantItem 77 = .ok (.getfield 209, 3) := by decide +kernel
theorem dX6_wantItem_80 : decode cX6_wantItem 80 = .ok (.ifCond .eq 8, 3) := by decide +kernel
theorem dX6_wantItem_83 : decode cX6_wantItem 83 = .ok (.aload_n 0, 1) := by decide +kernel
theorem dX6_wantItem_84 : decode cX6_wantItem 84 = .ok (.iload_n 1, 1) := by decide +kernel
theorem dX6_wantItem_85 : decode cX6_wantItem 85 = .ok (.invokevirtual 132, 3) := by decide +kernel
theorem dX6_wantItem_88 : decode cX6_wantItem 88 = .ok (.goto 8, 3) := by decide +kernel
theorem dX6_wantItem_91 : decode cX6_wantItem 91 = .ok (.aload_n 0, 1) := by decide +kernel
theorem dX6_wantItem_92 : decode cX6_wantItem 92 = .ok (.iconst 0, 1) := by decide +kernel
theorem dX6_wantItem_93 : decode cX6_wantItem 93 = .ok (.putfield 209, 3) := by decide +kernel
theorem dX6_wantItem_96 : decode cX6_wantItem 96 = .ok (.return_, 1) := by decide +kernel
theorem dX6_yard_0 : decode cX6_yard 0 = .ok (.aload_n 0, 1) := by decide +kernel
theorem dX6_yard_1 : decode cX6_yard 1 = .ok (.iconst 1, 1) := by decide +kernel
theorem dX6_yard_2 : decode cX6_yard 2 = .ok (.aload_n 0, 1) := by decide +kernel
theorem dX6_yard_3 : decode cX6_yard 3 = .ok (.getfield 41, 3) := by decide +kernel
theorem dX6_yard_6 : decode cX6_yard 6 = .ok (.invokevirtual 147, 3) := by decide +kernel
theorem dX6_yard_9 : decode cX6_yard 9 = .ok (.aload_n 0, 1) := by decide +kernel
theorem dX6_yard_10 : decode cX6_yard 10 = .ok (.iconst 0, 1) := by decide +kernel
theorem dX6_yard_11 : decode cX6_yard 11 = .ok (.putfield 162, 3) := by decide +kernel
theorem dX6_yard_14 : decode cX6_yard 14 = .ok (.aload_n 0, 1) := by decide +kernel
theorem dX6_yard_15 : decode cX6_yard 15 = .ok (.iconst 1, 1) := by decide +kernel
theorem dX6_yard_16 : decode cX6_yard 16 = .ok (.putfield 209, 3) := by decide +kernel
theorem dX6_yard_19 : decode cX6_yard 19 = .ok (.iconst 0, 1) := by decide +kernel
theorem dX6_yard_20 : decode cX6_yard 20 = .ok (.istore_n 1, 1) := by decide +kernel
theorem dX6_yard_21 : decode cX6_yard 21 = .ok (.iconst 1, 1) := by decide +kernel
theorem dX6_yard_22 : decode cX6_yard 22 = .ok (.istore_n 2, 1) := by decide +kernel
theorem dX6_yard_23 : decode cX6_yard 23 = .ok (.iload_n 2, 1) := by decide +kernel
theorem dX6_yard_24 : decode cX6_yard 24 = .ok (.ifCond .eq 47, 3) := by decide +kernel
theorem dX6_yard_27 : decode cX6_yard 27 = .ok (.aload_n 0, 1) := by decide +kernel
theorem dX6_yard_28 : decode cX6_yard 28 = .ok (.invokevirtual 213, 3) := by decide +kernel
theorem dX6_yard_31 : decode cX6_yard 31 = .ok (.aload_n 0, 1) := by decide +kernel
theorem dX6_yard_32 : decode cX6_yard 32 = .ok (.invokevirtual 250, 3) := by decide +kernel
theorem dX6_yard_35 : decode cX6_yard 35 = .ok (.iinc 1 1, 3) := by decide +kernel
theorem dX6_yard_38 : decode cX6_yard 38 = .ok (.aload_n 0, 1) := by decide +kernel
theorem dX6_yard_39 : decode cX6_yard 39 = .ok (.getfield 209, 3) := by decide +kernel
theorem dX6_yard_42 : decode cX6_yard 42 = .ok (.ifCond .eq 24, 3) := by decide +kernel
theorem dX6_yard_45 : decode cX6_yard 45 = .ok (.aload_n 0, 1) := by decide +kernel
theorem dX6_yard_46 : decode cX6_yard 46 = .ok (.getfield 177, 3) := by decide +kernel
theorem dX6_yard_49 : decode cX6_yard 49 = .ok (.iconst 3, 1) := by decide +kernel
theorem dX6_yard_50 : decode cX6_yard 50 = .ok (.if_icmp .ne 16, 3) := by decide +kernel
theorem dX6_yard_53 : decode cX6_yard 53 = .ok (.aload_n 0, 1) := by decide +kernel
theorem dX6_yard_54 : decode cX6_yard 54 = .ok (.getfield 184, 3) := by decide +kernel
theorem dX6_yard_57 : decode cX6_yard 57 = .ok (.bipush 59, 2) := by decide +kernel
theorem dX6_yard_59 : decode cX6_yard 59 = .ok (.if_icmp .ne 7, 3) := by decide +kernel
theorem dX6_yard_62 : decode cX6_yard 62 = .ok (.iconst 1, 1) := by decide +kernel
theorem dX6_yard_63 : decode cX6_yard 63 = .ok (.goto 4, 3) := by decide +kernel
theorem dX6_yard_66 : decode cX6_yard 66 = .ok (.iconst 0, 1) := by decide +kernel
theorem dX6_yard_67 : decode cX6_yard 67 = .ok (.istore_n 2, 1) := by decide +kernel
theorem dX6_yard_68 : decode cX6_yard 68 = .ok (.goto (-45), 3) := by decide +kernel
theorem dX6_yard_71 : decode cX6_yard 71 = .ok (.aload_n 0, 1) := by decide +kernel
theorem dX6_yard_72 : decode cX6_yard 72 = .ok (.aload_n 0, 1) := by decide +kernel
theorem dX6_yard_73 : decode cX6_yard 73 = .ok (.getfield 209, 3) := by decide +kernel
theorem dX6_yard_76 : decode cX6_yard 76 = .ok (.ifCond .eq 14, 3) := by decide +kernel
theorem dX6_yard_79 : decode cX6_yard 79 = .ok (.aload_n 0, 1) := by decide +kernel
theorem dX6_yard_80 : decode cX6_yard 80 = .ok (.getfield 177, 3) := by decide +kernel
theorem dX6_yard_83 : decode cX6_yard 83 = .ok (.ifCond .ne 7, 3) := by decide +kernel
theorem dX6_yard_86 : decode cX6_yard 86 = .ok (.iconst 1, 1) := by decide +kernel
theorem dX6_yard_87 : decode cX6_yard 87 = .ok (.goto 4, 3) := by decide +kernel
theorem dX6_yard_90 : decode cX6_yard 90 = .ok (.iconst 0, 1) := by decide +kernel
theorem dX6_yard_91 : decode cX6_yard 91 = .ok (.putfield 209, 3) := by decide +kernel
theorem dX6_yard_94 : decode cX6_yard 94 = .ok (.aload_n 0, 1) := by decide +kernel
theorem dX6_yard_95 : decode cX6_yard 95 = .ok (.iconst 0, 1) := by decide +kernel
theorem dX6_yard_96 : decode cX6_yard 96 = .ok (.putfield 158, 3) := by decide +kernel
theorem dX6_yard_99 : decode cX6_yard 99 = .ok (.aload_n 0, 1) := by decide +kernel
theorem dX6_yard_100 : decode cX6_yard 100 = .ok (.getfield 209, 3) := by decide +kernel
theorem dX6_yard_103 : decode cX6_yard 103 = .ok (.ifCond .ne 19, 3) := by decide +kernel
theorem dX6_yard_106 : decode cX6_yard 106 = .ok (.aload_n 0, 1) := by decide +kernel
theorem dX6_yard_107 : decode cX6_yard 107 = .ok (.iconst 0, 1) := by decide +kernel
theorem dX6_yard_108 : decode cX6_yard 108 = .ok (.aload_n 0, 1) := by decide +kernel
theorem dX6_yard_109 : decode cX6_yard 109 = .ok (.getfield 41, 3) := by decide +kernel
theorem dX6_yard_112 : decode cX6_yard 112 = .ok (.invokevirtual 147, 3) := by decide +kernel
theorem dX6_yard_115 : decode cX6_yard 115 = .ok (.iconst (-1), 1) := by decide +kernel
theorem dX6_yard_116 : decode cX6_yard 116 = .ok (.aload_n 0, 1) := by decide +kernel
theorem dX6_yard_117 : decode cX6_yard 117 = .ok (.getfield 165, 3) := by decide +kernel
theorem dX6_yard_120 : decode cX6_yard 120 = .ok (.isub, 1) := by decide +kernel
theorem dX6_yard_121 : decode cX6_yard 121 = .ok (.ireturn, 1) := by decide +kernel
theorem dX6_yard_122 : decode cX6_yard 122 = .ok (.iload_n 1, 1) := by decide +kernel
theorem dX6_yard_123 : decode cX6_yard 123 = .ok (.ireturn, 1) := by decide +kernel
theorem dX6_isSheet_0 : decode cX6_isSheet 0 = .ok (.iload_n 0, 1) := by decide +kernel
theorem dX6_isSheet_1 : decode cX6_isSheet 1 = .ok (.iconst 0, 1) := by decide +kernel
theorem dX6_isSheet_2 : decode cX6_isSheet 2 = .ok (.iconst 3, 1) := by decide +kernel
theorem dX6_isSheet_3 : decode cX6_isSheet 3 = .ok (.invokestatic 49, 3) := by decide +kernel
theorem dX6_isSheet_6 : decode cX6_isSheet 6 = .ok (.ireturn, 1) := by decide +kernel
theorem dX6_narrow_0 : decode cX6_narrow 0 = .ok (.iload_n 0, 1) := by decide +kernel
theorem dX6_narrow_1 : decode cX6_narrow 1 = .ok (.bipush 8, 2) := by decide +kernel
theorem dX6_narrow_3 : decode cX6_narrow 3 = .ok (.if_icmp .ne 13, 3) := by decide +kernel
theorem dX6_narrow_6 : decode cX6_narrow 6 = .ok (.lload_n 1, 1) := by decide +kernel
theorem dX6_narrow_7 : decode cX6_narrow 7 = .ok (.bipush 56, 2) := by decide +kernel
theorem dX6_narrow_9 : decode cX6_narrow 9 = .ok (.lshl, 1) := by decide +kernel
theorem dX6_narrow_10 : decode cX6_narrow 10 = .ok (.bipush 56, 2) := by decide +kernel
theorem dX6_narrow_12 : decode cX6_narrow 12 = .ok (.lshr, 1) := by decide +kernel
theorem dX6_narrow_13 : decode cX6_narrow 13 = .ok (.goto 20, 3) := by decide +kernel
theorem dX6_narrow_16 : decode cX6_narrow 16 = .ok (.iload_n 0, 1) := by decide +kernel
theorem dX6_narrow_17 : decode cX6_narrow 17 = .ok (.bipush 16, 2) := by decide +kernel
theorem dX6_narrow_19 : decode cX6_narrow 19 = .ok (.if_icmp .ne 13, 3) := by decide +kernel
theorem dX6_narrow_22 : decode cX6_narrow 22 = .ok (.lload_n 1, 1) := by decide +kernel
theorem dX6_narrow_23 : decode cX6_narrow 23 = .ok (.bipush 48, 2) := by decide +kernel
theorem dX6_narrow_25 : decode cX6_narrow 25 = .ok (.lshl, 1) := by decide +kernel
theorem dX6_narrow_26 : decode cX6_narrow 26 = .ok (.bipush 48, 2) := by decide +kernel
theorem dX6_narrow_28 : decode cX6_narrow 28 = .ok (.lshr, 1) := by decide +kernel
theorem dX6_narrow_29 : decode cX6_narrow 29 = .ok (.goto 4, 3) := by decide +kernel
theorem dX6_narrow_32 : decode cX6_narrow 32 = .ok (.lload_n 1, 1) := by decide +kernel
theorem dX6_narrow_33 : decode cX6_narrow 33 = .ok (.lreturn, 1) := by decide +kernel
theorem dX6_sheet_0 : decode cX6_sheet 0 = .ok (.iload_n 1, 1) := by decide +kernel
theorem dX6_sheet_1 : decode cX6_sheet 1 = .ok (.invokestatic 253, 3) := by decide +kernel
theorem dX6_sheet_4 : decode cX6_sheet 4 = .ok (.ifCond .eq 25, 3) := by decide +kernel
theorem dX6_sheet_7 : decode cX6_sheet 7 = .ok (.iload_n 2, 1) := by decide +kernel
theorem dX6_sheet_8 : decode cX6_sheet 8 = .ok (.ifCond .eq 28, 3) := by decide +kernel
theorem dX6_sheet_11 : decode cX6_sheet 11 = .ok (.iload_n 2, 1) := by decide +kernel
theorem dX6_sheet_12 : decode cX6_sheet 12 = .ok (.bipush 8, 2) := by decide +kernel
theorem dX6_sheet_14 : decode cX6_sheet 14 = .ok (.if_icmp .eq 22, 3) := by decide +kernel
theorem dX6_sheet_17 : decode cX6_sheet 17 = .ok (.iload_n 2, 1) := by decide +kernel
theorem dX6_sheet_18 : decode cX6_sheet 18 = .ok (.bipush 16, 2) := by decide +kernel
theorem dX6_sheet_20 : decode cX6_sheet 20 = .ok (.if_icmp .eq 16, 3) := by decide +kernel
theorem dX6_sheet_23 : decode cX6_sheet 23 = .ok (.iload_n 2, 1) := by decide +kernel
theorem dX6_sheet_24 : decode cX6_sheet 24 = .ok (.bipush 64, 2) := by decide +kernel
theorem dX6_sheet_26 : decode cX6_sheet 26 = .ok (.if_icmp .eq 10, 3) := by decide +kernel
theorem dX6_sheet_29 : decode cX6_sheet 29 = .ok (.aload_n 0, 1) := by decide +kernel
theorem dX6_sheet_30 : decode cX6_sheet 30 = .ok (.ldc 48, 2) := by decide +kernel
theorem dX6_sheet_32 : decode cX6_sheet 32 = .ok (.invokevirtual 82, 3) := by decide +kernel
theorem dX6_sheet_35 : decode cX6_sheet 35 = .ok (.ireturn, 1) := by decide +kernel
theorem dX6_sheet_36 : decode cX6_sheet 36 = .ok (.iload_n 3, 1) := by decide +kernel
theorem dX6_sheet_37 : decode cX6_sheet 37 = .ok (.ifCond .ge 11, 3) := by decide +kernel
theorem dX6_sheet_40 : decode cX6_sheet 40 = .ok (.aload_n 0, 1) := by decide +kernel
theorem dX6_sheet_41 : decode cX6_sheet 41 = .ok (.ldc_w 256, 3) := by decide +kernel
theorem dX6_sheet_44 : decode cX6_sheet 44 = .ok (.invokevirtual 82, 3) := by decide +kernel
theorem dX6_sheet_47 : decode cX6_sheet 47 = .ok (.ireturn, 1) := by decide +kernel
theorem dX6_sheet_48 : decode cX6_sheet 48 = .ok (.iload_n 3, 1) := by decide +kernel
theorem dX6_sheet_49 : decode cX6_sheet 49 = .ok (.bipush 40, 2) := by decide +kernel
theorem dX6_sheet_51 : decode cX6_sheet 51 = .ok (.if_icmp .le 10, 3) := by decide +kernel
theorem dX6_sheet_54 : decode cX6_sheet 54 = .ok (.aload_n 0, 1) := by decide +kernel
theorem dX6_sheet_55 : decode cX6_sheet 55 = .ok (.ldc 48, 2) := by decide +kernel
theorem dX6_sheet_57 : decode cX6_sheet 57 = .ok (.invokevirtual 82, 3) := by decide +kernel
theorem dX6_sheet_60 : decode cX6_sheet 60 = .ok (.ireturn, 1) := by decide +kernel
theorem dX6_sheet_61 : decode cX6_sheet 61 = .ok (.aload_n 0, 1) := by decide +kernel
theorem dX6_sheet_62 : decode cX6_sheet 62 = .ok (.getfield 25, 3) := by decide +kernel
theorem dX6_sheet_65 : decode cX6_sheet 65 = .ok (.iload_n 1, 1) := by decide +kernel
theorem dX6_sheet_66 : decode cX6_sheet 66 = .ok (.iload_n 2, 1) := by decide +kernel
theorem dX6_sheet_67 : decode cX6_sheet 67 = .ok (.iastore, 1) := by decide +kernel
theorem dX6_sheet_68 : decode cX6_sheet 68 = .ok (.aload_n 0, 1) := by decide +kernel
theorem dX6_sheet_69 : decode cX6_sheet 69 = .ok (.getfield 28, 3) := by decide +kernel
theorem dX6_sheet_72 : decode cX6_sheet 72 = .ok (.iload_n 1, 1) := by decide +kernel
theorem dX6_sheet_73 : decode cX6_sheet 73 = .ok (.iload_n 2, 1) := by decide +kernel
theorem dX6_sheet_74 : decode cX6_sheet 74 = .ok (.ifCond .ne 7, 3) := by decide +kernel
theorem dX6_sheet_77 : decode cX6_sheet 77 = .ok (.iconst 0, 1) := by decide +kernel
theorem dX6_sheet_78 : decode cX6_sheet 78 = .ok (.goto 4, 3) := by decide +kernel
theorem dX6_sheet_81 : decode cX6_sheet 81 = .ok (.iload_n 3, 1) := by decide +kernel
theorem dX6_sheet_82 : decode cX6_sheet 82 = .ok (.iastore, 1) := by decide +kernel
theorem dX6_sheet_83 : decode cX6_sheet 83 = .ok (.iconst 0, 1) := by decide +kernel
theorem dX6_sheet_84 : decode cX6_sheet 84 = .ok (.istore 4, 2) := by decide +kernel
theorem dX6_sheet_86 : decode cX6_sheet 86 = .ok (.iload 4, 2) := by decide +kernel
theorem dX6_sheet_88 : decode cX6_sheet 88 = .ok (.bipush 40, 2) := by decide +kernel
theorem dX6_sheet_90 : decode cX6_sheet 90 = .ok (.if_icmp .ge 22, 3) := by decide +kernel
theorem dX6_sheet_93 : decode cX6_sheet 93 = .ok (.aload_n 0, 1) := by decide +kernel
theorem dX6_sheet_94 : decode cX6_sheet 94 = .ok (.getfield 31, 3) := by decide +kernel
theorem dX6_sheet_97 : decode cX6_sheet 97 = .ok (.bipush 40, 2) := by decide +kernel
theorem dX6_sheet_99 : decode cX6_sheet 99 = .ok (.iload_n 1, 1) := by decide +kernel
theorem dX6_sheet_100 : decode cX6_sheet 100 = .ok (.imul, 1) := by decide +kernel
theorem dX6_sheet_101 : decode cX6_sheet 101 = .ok (.iload 4, 2) := by decide +kernel
theorem dX6_sheet_103 : decode cX6_sheet 103 = .ok (.iadd, 1) := by decide +kernel
theorem dX6_sheet_104 : decode cX6_sheet 104 = .ok (.lconst 0, 1) := by decide +kernel
theorem dX6_sheet_105 : decode cX6_sheet 105 = .ok (.lastore, 1) := by decide +kernel
theorem dX6_sheet_106 : decode cX6_sheet 106 = .ok (.iinc 4 1, 3) := by decide +kernel
theorem dX6_sheet_109 : decode cX6_sheet 109 = .ok (.goto (-23), 3) := by decide +kernel
theorem dX6_sheet_112 : decode cX6_sheet 112 = .ok (.aload_n 0, 1) := by decide +kernel
theorem dX6_sheet_113 : decode cX6_sheet 113 = .ok (.getfield 28, 3) := by decide +kernel
theorem dX6_sheet_116 : decode cX6_sheet 116 = .ok (.iload_n 1, 1) := by decide +kernel
theorem dX6_sheet_117 : decode cX6_sheet 117 = .ok (.iaload, 1) := by decide +kernel
theorem dX6_sheet_118 : decode cX6_sheet 118 = .ok (.ireturn, 1) := by decide +kernel
theorem dX6_write_0 : decode cX6_write 0 = .ok (.iload_n 1, 1) := by decide +kernel
theorem dX6_write_1 : decode cX6_write 1 = .ok (.invokestatic 253, 3) := by decide +kernel
theorem dX6_write_4 : decode cX6_write 4 = .ok (.ifCond .ne 11, 3) := by decide +kernel
theorem dX6_write_7 : decode cX6_write 7 = .ok (.aload_n 0, 1) := by decide +kernel
theorem dX6_write_8 : decode cX6_write 8 = .ok (.ldc 48, 2) := by decide +kernel
theorem dX6_write_10 : decode cX6_write 10 = .ok (.invokevirtual 82, 3) := by decide +kernel
theorem dX6_write_13 : decode cX6_write 13 = .ok (.i2l, 1) := by decide +kernel
theorem dX6_write_14 : decode cX6_write 14 = .ok (.lreturn, 1) := by decide +kernel
theorem dX6_write_15 : decode cX6_write 15 = .ok (.aload_n 0, 1) := by decide +kernel
theorem dX6_write_16 : decode cX6_write 16 = .ok (.getfield 25, 3) := by decide +kernel
theorem dX6_write_19 : decode cX6_write 19 = .ok (.iload_n 1, 1) := by decide +kernel
theorem dX6_write_20 : decode cX6_write 20 = .ok (.iaload, 1) := by decide +kernel
theorem dX6_write_21 : decode cX6_write 21 = .ok (.ifCond .ne 12, 3) := by decide +kernel
theorem dX6_write_24 : decode cX6_write 24 = .ok (.aload_n 0, 1) := by decide +kernel
theorem dX6_write_25 : decode cX6_write 25 = .ok (.ldc_w 257, 3) := by decide +kernel
theorem dX6_write_28 : decode cX6_write 28 = .ok (.invokevirtual 82, 3) := by decide +kernel
theorem dX6_write_31 : decode cX6_write 31 = .ok (.i2l, 1) := by decide +kernel
theorem dX6_write_32 : decode cX6_write 32 = .ok (.lreturn, 1) := by decide +kernel
theorem dX6_write_33 : decode cX6_write 33 = .ok (.iload_n 2, 1) := by decide +kernel
theorem dX6_write_34 : decode cX6_write 34 = .ok (.iconst 0, 1) := by decide +kernel
theorem dX6_write_35 : decode cX6_write 35 = .ok (.aload_n 0, 1) := by decide +kernel
theorem dX6_write_36 : decode cX6_write 36 = .ok (.getfield 28, 3) := by decide +kernel
theorem dX6_write_39 : decode cX6_write 39 = .ok (.iload_n 1, 1) := by decide +kernel
theorem dX6_write_40 : decode cX6_write 40 = .ok (.iaload, 1) := by decide +kernel
theorem dX6_write_41 : decode cX6_write 41 = .ok (.iconst 1, 1) := by decide +kernel
theorem dX6_write_42 : decode cX6_write 42 = .ok (.isub, 1) := by decide +kernel
theorem dX6_write_43 : decode cX6_write 43 = .ok (.invokestatic 49, 3) := by decide +kernel
theorem dX6_write_46 : decode cX6_write 46 = .ok (.ifCond .ne 11, 3) := by decide +kernel
theorem dX6_write_49 : decode cX6_write 49 = .ok (.aload_n 0, 1) := by decide +kernel
theorem dX6_write_50 : decode cX6_write 50 = .ok (.ldc 48, 2) := by decide +kernel
theorem dX6_write_52 : decode cX6_write 52 = .ok (.invokevirtual 82, 3) := by decide +kernel
theorem dX6_write_55 : decode cX6_write 55 = .ok (.i2l, 1) := by decide +kernel
theorem dX6_write_56 : decode cX6_write 56 = .ok (.lreturn, 1) := by decide +kernel
theorem dX6_write_57 : decode cX6_write 57 = .ok (.aload_n 0, 1) := by decide +kernel
theorem dX6_write_58 : decode cX6_write 58 = .ok (.getfield 31, 3) := by decide +kernel
theorem dX6_write_61 : decode cX6_write 61 = .ok (.bipush 40, 2) := by decide +kernel
theorem dX6_write_63 : decode cX6_write 63 = .ok (.iload_n 1, 1) := by decide +kernel
theorem dX6_write_64 : decode cX6_write 64 = .ok (.imul, 1) := by decide +kernel
theorem dX6_write_65 : decode cX6_write 65 = .ok (.iload_n 2, 1) := by decide +kernel
theorem dX6_write_66 : decode cX6_write 66 = .ok (.iadd, 1) := by decide +kernel
theorem dX6_write_67 : decode cX6_write 67 = .ok (.laload, 1) := by decide +kernel
theorem dX6_write_68 : decode cX6_write 68 = .ok (.lstore 5, 2) := by decide +kernel
theorem dX6_write_70 : decode cX6_write 70 = .ok (.aload_n 0, 1) := by decide +kernel
theorem dX6_write_71 : decode cX6_write 71 = .ok (.getfield 31, 3) := by decide +kernel
theorem dX6_write_74 : decode cX6_write 74 = .ok (.bipush 40, 2) := by decide +kernel
theorem dX6_write_76 : decode cX6_write 76 = .ok (.iload_n 1, 1) := by decide +kernel
theorem dX6_write_77 : decode cX6_write 77 = .ok (.imul, 1) := by decide +kernel
theorem dX6_write_78 : decode cX6_write 78 = .ok (.iload_n 2, 1) := by decide +kernel
theorem dX6_write_79 : decode cX6_write 79 = .ok (.iadd, 1) := by decide +kernel
theorem dX6_write_80 : decode cX6_write 80 = .ok (.aload_n 0, 1) := by decide +kernel
theorem dX6_write_81 : decode cX6_write 81 = .ok (.getfield 25, 3) := by decide +kernel
theorem dX6_write_84 : decode cX6_write 84 = .ok (.iload_n 1, 1) := by decide +kernel
theorem dX6_write_85 : decode cX6_write 85 = .ok (.iaload, 1) := by decide +kernel
theorem dX6_write_86 : decode cX6_write 86 = .ok (.lload_n 3, 1) := by decide +kernel
theorem dX6_write_87 : decode cX6_write 87 = .ok (.invokestatic 258, 3) := by decide +kernel
theorem dX6_write_90 : decode cX6_write 90 = .ok (.lastore, 1) := by decide +kernel
theorem dX6_write_91 : decode cX6_write 91 = .ok (.lload 5, 2) := by decide +kernel
theorem dX6_write_93 : decode cX6_write 93 = .ok (.lreturn, 1) := by decide +kernel
theorem dX6_isPart__0 : decode cX6_isPart_ 0 = .ok (.iload_n 2, 1) := by decide +kernel
theorem dX6_isPart__1 : decode cX6_isPart_ 1 = .ok (.ifCond .lt 33, 3) := by decide +kernel
theorem dX6_isPart__4 : decode cX6_isPart_ 4 = .ok (.iload_n 3, 1) := by decide +kernel
theorem dX6_isPart__5 : decode cX6_isPart_ 5 = .ok (.ifCond .lt 29, 3) := by decide +kernel
theorem dX6_isPart__8 : decode cX6_isPart_ 8 = .ok (.iload_n 3, 1) := by decide +kernel
theorem dX6_isPart__9 : decode cX6_isPart_ 9 = .ok (.aload_n 0, 1) := by decide +kernel
theorem dX6_isPart__10 : decode cX6_isPart_ 10 = .ok (.getfield 28, 3) := by decide +kernel
theorem dX6_isPart__13 : decode cX6_isPart_ 13 = .ok (.iload_n 1, 1) := by decide +kernel
theorem dX6_isPart__14 : decode cX6_isPart_ 14 = .ok (.iaload, 1) := by decide +kernel
theorem dX6_isPart__15 : decode cX6_isPart_ 15 = .ok (.if_icmp .gt 19, 3) := by decide +kernel
theorem dX6_isPart__18 : decode cX6_isPart_ 18 = .ok (.iload_n 2, 1) := by decide +kernel
theorem dX6_isPart__19 : decode cX6_isPart_ 19 = .ok (.aload_n 0, 1) := by decide +kernel
theorem dX6_isPart__20 : decode cX6_isPart_ 20 = .ok (.getfield 28, 3) := by decide +kernel
theorem dX6_isPart__23 : decode cX6_isPart_ 23 = .ok (.iload_n 1, 1) := by decide +kernel
theorem dX6_isPart__24 : decode cX6_isPart_ 24 = .ok (.iaload, 1) := by decide +kernel
theorem dX6_isPart__25 : decode cX6_isPart_ 25 = .ok (.iload_n 3, 1) := by decide +kernel
theorem dX6_isPart__26 : decode cX6_isPart_ 26 = .ok (.isub, 1) := by decide +kernel
theorem dX6_isPart__27 : decode cX6_isPart_ 27 = .ok (.if_icmp .gt 7, 3) := by decide +kernel
theorem dX6_isPart__30 : decode cX6_isPart_ 30 = .ok (.iconst 1, 1) := by decide +kernel
theorem dX6_isPart__31 : decode cX6_isPart_ 31 = .ok (.goto 4, 3) := by decide +kernel
theorem dX6_isPart__34 : decode cX6_isPart_ 34 = .ok (.iconst 0, 1) := by decide +kernel
theorem dX6_isPart__35 : decode cX6_isPart_ 35 = .ok (.ireturn, 1) := by decide +kernel
theorem dX6_copy_0 : decode cX6_copy 0 = .ok (.iload_n 1, 1) := by decide +kernel
theorem dX6_copy_1 : decode cX6_copy 1 = .ok (.invokestatic 253, 3) := by decide +kernel
theorem dX6_copy_4 : decode cX6_copy 4 = .ok (.ifCond .eq 10, 3) := by decide +kernel
theorem dX6_copy_7 : decode cX6_copy 7 = .ok (.iload_n 3, 1) := by decide +kernel
theorem dX6_copy_8 : decode cX6_copy 8 = .ok (.invokestatic 253, 3) := by decide +kernel
theorem dX6_copy_11 : decode cX6_copy 11 = .ok (.ifCond .ne 10, 3) := by decide +kernel
theorem dX6_copy_14 : decode cX6_copy 14 = .ok (.aload_n 0, 1) := by decide +kernel
theorem dX6_copy_15 : decode cX6_copy 15 = .ok (.ldc 48, 2) := by decide +kernel
theorem dX6_copy_17 : decode cX6_copy 17 = .ok (.invokevirtual 82, 3) := by decide +kernel
theorem dX6_copy_20 : decode cX6_copy 20 = .ok (.ireturn, 1) := by decide +kernel
theorem dX6_copy_21 : decode cX6_copy 21 = .ok (.aload_n 0, 1) := by decide +kernel
theorem dX6_copy_22 : decode cX6_copy 22 = .ok (.getfield 25, 3) := by decide +kernel
theorem dX6_copy_25 : decode cX6_copy 25 = .ok (.iload_n 1, 1) := by decide +kernel
theorem dX6_copy_26 : decode cX6_copy 26 = .ok (.iaload, 1) := by decide +kernel
theorem dX6_copy_27 : decode cX6_copy 27 = .ok (.ifCond .eq 12, 3) := by decide +kernel
theorem dX6_copy_30 : decode cX6_copy 30 = .ok (.aload_n 0, 1) := by decide +kernel
theorem dX6_copy_31 : decode cX6_copy 31 = .ok (.getfield 25, 3) := by decide +kernel
theorem dX6_copy_34 : decode cX6_copy 34 = .ok (.iload_n 3, 1) := by decide +kernel
theorem dX6_copy_35 : decode cX6_copy 35 = .ok (.iaload, 1) := by decide +kernel
theorem dX6_copy_36 : decode cX6_copy 36 = .ok (.ifCond .ne 11, 3) := by decide +kernel
theorem dX6_copy_39 : decode cX6_copy 39 = .ok (.aload_n 0, 1) := by decide +kernel
theorem dX6_copy_40 : decode cX6_copy 40 = .ok (.ldc_w 257, 3) := by decide +kernel
theorem dX6_copy_43 : decode cX6_copy 43 = .ok (.invokevirtual 82, 3) := by decide +kernel
theorem dX6_copy_46 : decode cX6_copy 46 = .ok (.ireturn, 1) := by decide +kernel
theorem dX6_copy_47 : decode cX6_copy 47 = .ok (.aload_n 0, 1) := by decide +kernel
theorem dX6_copy_48 : decode cX6_copy 48 = .ok (.getfield 25, 3) := by decide +kernel
theorem dX6_copy_51 : decode cX6_copy 51 = .ok (.iload_n 1, 1) := by decide +kernel
theorem dX6_copy_52 : decode cX6_copy 52 = .ok (.iaload, 1) := by decide +kernel
theorem dX6_copy_53 : decode cX6_copy 53 = .ok (.aload_n 0, 1) := by decide +kernel
theorem dX6_copy_54 : decode cX6_copy 54 = .ok (.getfield 25, 3) := by decide +kernel
theorem dX6_copy_57 : decode cX6_copy 57 = .ok (.iload_n 3, 1) := by decide +kernel
theorem dX6_copy_58 : decode cX6_copy 58 = .ok (.iaload, 1) := by decide +kernel
theorem dX6_copy_59 : decode cX6_copy 59 = .ok (.if_icmp .eq 10, 3) := by decide +kernel
theorem dX6_copy_62 : decode cX6_copy 62 = .ok (.aload_n 0, 1) := by decide +kernel
theorem dX6_copy_63 : decode cX6_copy 63 = .ok (.ldc 131, 2) := by decide +kernel
theorem dX6_copy_65 : decode cX6_copy 65 = .ok (.invokevirtual 82, 3) := by decide +kernel
theorem dX6_copy_68 : decode cX6_copy 68 = .ok (.ireturn, 1) := by decide +kernel
theorem dX6_copy_69 : decode cX6_copy 69 = .ok (.aload_n 0, 1) := by decide +kernel
theorem dX6_copy_70 : decode cX6_copy 70 = .ok (.iload_n 1, 1) := by decide +kernel
theorem dX6_copy_71 : decode cX6_copy 71 = .ok (.iload_n 2, 1) := by decide +kernel
theorem dX6_copy_72 : decode cX6_copy 72 = .ok (.iload 5, 2) := by decide +kernel
theorem dX6_copy_74 : decode cX6_copy 74 = .ok (.invokevirtual 262, 3) := by decide +kernel
theorem dX6_copy_77 : decode cX6_copy 77 = .ok (.ifCond .eq 15, 3) := by decide +kernel
theorem dX6_copy_80 : decode cX6_copy 80 = .ok (.aload_n 0, 1) := by decide +kernel
theorem dX6_copy_81 : decode cX6_copy 81 = .ok (.iload_n 3, 1) := by decide +kernel
theorem dX6_copy_82 : decode cX6_copy 82 = .ok (.iload 4, 2) := by decide +kernel
theorem dX6_copy_84 : decode cX6_copy 84 = .ok (.iload 5, 2) := by decide +kernel
theorem dX6_copy_86 : decode cX6_copy 86 = .ok (.invokevirtual 262, 3) := by decide +kernel
theorem dX6_copy_89 : decode cX6_copy 89 = .ok (.ifCond .ne 10, 3) := by decide +kernel
theorem dX6_copy_92 : decode cX6_copy 92 = .ok (.aload_n 0, 1) := by decide +kernel
theorem dX6_copy_93 : decode cX6_copy 93 = .ok (.ldc 48, 2) := by decide +kernel
theorem dX6_copy_95 : decode cX6_copy 95 = .ok (.invokevirtual 82, 3) := by decide +kernel
theorem dX6_copy_98 : decode cX6_copy 98 = .ok (.ireturn, 1) := by decide +kernel
theorem dX6_copy_99 : decode cX6_copy 99 = .ok (.iconst 0, 1) := by decide +kernel
theorem dX6_copy_100 : decode cX6_copy 100 = .ok (.istore 6, 2) := by decide +kernel
theorem dX6_copy_102 : decode cX6_copy 102 = .ok (.iload 6, 2) := by decide +kernel
theorem dX6_copy_104 : decode cX6_copy 104 = .ok (.iload 5, 2) := by decide +kernel
theorem dX6_copy_106 : decode cX6_copy 106 = .ok (.if_icmp .ge 30, 3) := by decide +kernel
theorem dX6_copy_109 : decode cX6_copy 109 = .ok (.aload_n 0, 1) := by decide +kernel
theorem dX6_copy_110 : decode cX6_copy 110 = .ok (.getfield 35, 3) := by decide +kernel
theorem dX6_copy_113 : decode cX6_copy 113 = .ok (.iload 6, 2) := by decide +kernel
theorem dX6_copy_115 : decode cX6_copy 115 = .ok (.aload_n 0, 1) := by decide +kernel
theorem dX6_copy_116 : decode cX6_copy 116 = .ok (.getfield 31, 3) := by decide +kernel
theorem dX6_copy_119 : decode cX6_copy 119 = .ok (.bipush 40, 2) := by decide +kernel
theorem dX6_copy_121 : decode cX6_copy 121 = .ok (.iload_n 1, 1) := by decide +kernel
theorem dX6_copy_122 : decode cX6_copy 122 = .ok (.imul, 1) := by decide +kernel
theorem dX6_copy_123 : decode cX6_copy 123 = .ok (.iload_n 2, 1) := by decide +kernel
theorem dX6_copy_124 : decode cX6_copy 124 = .ok (.iadd, 1) := by decide +kernel
theorem dX6_copy_125 : decode cX6_copy 125 = .ok (.iload 6, 2) := by decide +kernel
theorem dX6_copy_127 : decode cX6_copy 127 = .ok (.iadd, 1) := by decide +kernel
theorem dX6_copy_128 : decode cX6_copy 128 = .ok (.laload, 1) := by decide +kernel
theorem dX6_copy_129 : decode cX6_copy 129 = .ok (.lastore, 1) := by decide +kernel
theorem dX6_copy_130 : decode cX6_copy 130 = .ok (.iinc 6 1, 3) := by decide +kernel
theorem dX6_copy_133 : decode cX6_copy 133 = .ok (.goto (-31), 3) := by decide +kernel
theorem dX6_copy_136 : decode cX6_copy 136 = .ok (.iconst 0, 1) := by decide +kernel
theorem dX6_copy_137 : decode cX6_copy 137 = .ok (.istore 6, 2) := by decide +kernel
theorem dX6_copy_139 : decode cX6_copy 139 = .ok (.iload 6, 2) := by decide +kernel
theorem dX6_copy_141 : decode cX6_copy 141 = .ok (.iload 5, 2) := by decide +kernel
theorem dX6_copy_143 : decode cX6_copy 143 = .ok (.if_icmp .ge 31, 3) := by decide +kernel
theorem dX6_copy_146 : decode cX6_copy 146 = .ok (.aload_n 0, 1) := by decide +kernel
theorem dX6_copy_147 : decode cX6_copy 147 = .ok (.getfield 31, 3) := by decide +kernel
theorem dX6_copy_150 : decode cX6_copy 150 = .ok (.bipush 40, 2) := by decide +kernel
theorem dX6_copy_152 : decode cX6_copy 152 = .ok (.iload_n 3, 1) := by decide +kernel
theorem dX6_copy_153 : decode cX6_copy 153 = .ok (.imul, 1) := by decide +kernel
theorem dX6_copy_154 : decode cX6_copy 154 = .ok (.iload 4, 2) := by decide +kernel
theorem dX6_copy_156 : decode cX6_copy 156 = .ok (.iadd, 1) := by decide +kernel
theorem dX6_copy_157 : decode cX6_copy 157 = .ok (.iload 6, 2) := by decide +kernel
theorem dX6_copy_159 : decode cX6_copy 159 = .ok (.iadd, 1) := by decide +kernel
theorem dX6_copy_160 : decode cX6_copy 160 = .ok (.aload_n 0, 1) := by decide +kernel
theorem dX6_copy_161 : decode cX6_copy 161 = .ok (.getfield 35, 3) := by decide +kernel
theorem dX6_copy_164 : decode cX6_copy 164 = .ok (.iload 6, 2) := by decide +kernel
theorem dX6_copy_166 : decode cX6_copy 166 = .ok (.laload, 1) := by decide +kernel
theorem dX6_copy_167 : decode cX6_copy 167 = .ok (.lastore, 1) := by decide +kernel
theorem dX6_copy_168 : decode cX6_copy 168 = .ok (.iinc 6 1, 3) := by decide +kernel
theorem dX6_copy_171 : decode cX6_copy 171 = .ok (.goto (-32), 3) := by decide +kernel
theorem dX6_copy_174 : decode cX6_copy 174 = .ok (.iload 5, 2) := by decide +kernel
theorem dX6_copy_176 : decode cX6_copy 176 = .ok (.ireturn, 1) := by decide +kernel
theorem dX6_badSheet_0 : decode cX6_badSheet 0 = .ok (.iload_n 1, 1) := by decide +kernel
theorem dX6_badSheet_1 : decode cX6_badSheet 1 = .ok (.invokestatic 253, 3) := by decide +kernel
theorem dX6_badSheet_4 : decode cX6_badSheet 4 = .ok (.ifCond .ne 8, 3) := by decide +kernel
theorem dX6_badSheet_7 : decode cX6_badSheet 7 = .ok (.ldc 48, 2) := by decide +kernel
theorem dX6_badSheet_9 : decode cX6_badSheet 9 = .ok (.goto 19, 3) := by decide +kernel
theorem dX6_badSheet_12 : decode cX6_badSheet 12 = .ok (.aload_n 0, 1) := by decide +kernel
theorem dX6_badSheet_13 : decode cX6_badSheet 13 = .ok (.getfield 25, 3) := by decide +kernel
theorem dX6_badSheet_16 : decode cX6_badSheet 16 = .ok (.iload_n 1, 1) := by decide +kernel
theorem dX6_badSheet_17 : decode cX6_badSheet 17 = .ok (.iaload, 1) := by decide +kernel
theorem dX6_badSheet_18 : decode cX6_badSheet 18 = .ok (.ifCond .ne 9, 3) := by decide +kernel
theorem dX6_badSheet_21 : decode cX6_badSheet 21 = .ok (.ldc_w 257, 3) := by decide +kernel
theorem dX6_badSheet_24 : decode cX6_badSheet 24 = .ok (.goto 4, 3) := by decide +kernel
theorem dX6_badSheet_27 : decode cX6_badSheet 27 = .ok (.iconst 0, 1) := by decide +kernel
theorem dX6_badSheet_28 : decode cX6_badSheet 28 = .ok (.ireturn, 1) := by decide +kernel
theorem dX6_lays_0 : decode cX6_lays 0 = .ok (.aload_n 0, 1) := by decide +kernel
theorem dX6_lays_1 : decode cX6_lays 1 = .ok (.iload_n 1, 1) := by decide +kernel
theorem dX6_lays_2 : decode cX6_lays 2 = .ok (.invokevirtual 264, 3) := by decide +kernel
theorem dX6_lays_5 : decode cX6_lays 5 = .ok (.istore_n 2, 1) := by decide +kernel
theorem dX6_lays_6 : decode cX6_lays 6 = .ok (.iload_n 2, 1) := by decide +kernel
theorem dX6_lays_7 : decode cX6_lays 7 = .ok (.ifCond .eq 9, 3) := by decide +kernel
theorem dX6_lays_10 : decode cX6_lays 10 = .ok (.aload_n 0, 1) := by decide +kernel
theorem dX6_lays_11 : decode cX6_lays 11 = .ok (.iload_n 2, 1) := by decide +kernel
theorem dX6_lays_12 : decode cX6_lays 12 = .ok (.invokevirtual 82, 3) := by decide +kernel
theorem dX6_lays_15 : decode cX6_lays 15 = .ok (.ireturn, 1) := by decide +kernel
theorem dX6_lays_16 : decode cX6_lays 16 = .ok (.iconst 0, 1) := by decide +kernel
theorem dX6_lays_17 : decode cX6_lays 17 = .ok (.istore_n 3, 1) := by decide +kernel
theorem dX6_lays_18 : decode cX6_lays 18 = .ok (.iconst 0, 1) := by decide +kernel
theorem dX6_lays_19 : decode cX6_lays 19 = .ok (.istore 4, 2) := by decide +kernel
theorem dX6_lays_21 : decode cX6_lays 21 = .ok (.iload 4, 2) := by decide +kernel
theorem dX6_lays_23 : decode cX6_lays 23 = .ok (.aload_n 0, 1) := by decide +kernel
theorem dX6_lays_24 : decode cX6_lays 24 = .ok (.getfield 28, 3) := by decide +kernel
theorem dX6_lays_27 : decode cX6_lays 27 = .ok (.iload_n 1, 1) := by decide +kernel
theorem dX6_lays_28 : decode cX6_lays 28 = .ok (.iaload, 1) := by decide +kernel
theorem dX6_lays_29 : decode cX6_lays 29 = .ok (.if_icmp .ge 61, 3) := by decide +kernel
theorem dX6_lays_32 : decode cX6_lays 32 = .ok (.iload 4, 2) := by decide +kernel
theorem dX6_lays_34 : decode cX6_lays 34 = .ok (.bipush 12, 2) := by decide +kernel
theorem dX6_lays_36 : decode cX6_lays 36 = .ok (.if_icmp .ge 54, 3) := by decide +kernel
theorem dX6_lays_39 : decode cX6_lays 39 = .ok (.aload_n 0, 1) := by decide +kernel
theorem dX6_lays_40 : decode cX6_lays 40 = .ok (.getfield 31, 3) := by decide +kernel
theorem dX6_lays_43 : decode cX6_lays 43 = .ok (.bipush 40, 2) := by decide +kernel
theorem dX6_lays_45 : decode cX6_lays 45 = .ok (.iload_n 1, 1) := by decide +kernel
theorem dX6_lays_46 : decode cX6_lays 46 = .ok (.imul, 1) := by decide +kernel
theorem dX6_lays_47 : decode cX6_lays 47 = .ok (.iload 4, 2) := by decide +kernel
theorem dX6_lays_49 : decode cX6_lays 49 = .ok (.iadd, 1) := by decide +kernel
theorem dX6_lays_50 : decode cX6_lays 50 = .ok (.laload, 1) := by decide +kernel
theorem dX6_lays_51 : decode cX6_lays 51 = .ok (.lstore 5, 2) := by decide +kernel
theorem dX6_lays_53 : decode cX6_lays 53 = .ok (.lload 5, 2) := by decide +kernel
theorem dX6_lays_55 : decode cX6_lays 55 = .ok (.lconst 0, 1) := by decide +kernel
theorem dX6_lays_56 : decode cX6_lays 56 = .ok (.lcmp, 1) := by decide +kernel
theorem dX6_lays_57 : decode cX6_lays 57 = .ok (.ifCond .lt 27, 3) := by decide +kernel
theorem dX6_lays_60 : decode cX6_lays 60 = .ok (.lload 5, 2) := by decide +kernel
theorem dX6_lays_62 : decode cX6_lays 62 = .ok (.ldc2_w 267, 3) := by decide +kernel
theorem dX6_lays_65 : decode cX6_lays 65 = .ok (.lcmp, 1) := by decide +kernel
theorem dX6_lays_66 : decode cX6_lays 66 = .ok (.ifCond .gt 18, 3) := by decide +kernel
theorem dX6_lays_69 : decode cX6_lays 69 = .ok (.aload_n 0, 1) := by decide +kernel
theorem dX6_lays_70 : decode cX6_lays 70 = .ok (.getfield 7, 3) := by decide +kernel
theorem dX6_lays_73 : decode cX6_lays 73 = .ok (.iconst 2, 1) := by decide +kernel
theorem dX6_lays_74 : decode cX6_lays 74 = .ok (.iload 4, 2) := by decide +kernel
theorem dX6_lays_76 : decode cX6_lays 76 = .ok (.iadd, 1) := by decide +kernel
theorem dX6_lays_77 : decode cX6_lays 77 = .ok (.lload 5, 2) := by decide +kernel
theorem dX6_lays_79 : decode cX6_lays 79 = .ok (.l2i, 1) := by decide +kernel
theorem dX6_lays_80 : decode cX6_lays 80 = .ok (.iastore, 1) := by decide +kernel
theorem dX6_lays_81 : decode cX6_lays 81 = .ok (.iinc 3 1, 3) := by decide +kernel
theorem dX6_lays_84 : decode cX6_lays 84 = .ok (.iinc 4 1, 3) := by decide +kernel
theorem dX6_lays_87 : decode cX6_lays 87 = .ok (.goto (-66), 3) := by decide +kernel
theorem dX6_lays_90 : decode cX6_lays 90 = .ok (.iload_n 3, 1) := by decide +kernel
theorem dX6_lays_91 : decode cX6_lays 91 = .ok (.ireturn, 1) := by decide +kernel
theorem dX6_book_0 : decode cX6_book 0 = .ok (.aload_n 0, 1) := by decide +kernel
theorem dX6_book_1 : decode cX6_book 1 = .ok (.iload_n 1, 1) := by decide +kernel
theorem dX6_book_2 : decode cX6_book 2 = .ok (.invokevirtual 264, 3) := by decide +kernel
theorem dX6_book_5 : decode cX6_book 5 = .ok (.istore_n 3, 1) := by decide +kernel
theorem dX6_book_6 : decode cX6_book 6 = .ok (.iload_n 3, 1) := by decide +kernel
theorem dX6_book_7 : decode cX6_book 7 = .ok (.ifCond .eq 9, 3) := by decide +kernel
theorem dX6_book_10 : decode cX6_book 10 = .ok (.aload_n 0, 1) := by decide +kernel
theorem dX6_book_11 : decode cX6_book 11 = .ok (.iload_n 3, 1) := by decide +kernel
theorem dX6_book_12 : decode cX6_book 12 = .ok (.invokevirtual 82, 3) := by decide +kernel
theorem dX6_book_15 : decode cX6_book 15 = .ok (.ireturn, 1) := by decide +kernel
theorem dX6_book_16 : decode cX6_book 16 = .ok (.aload_n 0, 1) := by decide +kernel
theorem dX6_book_17 : decode cX6_book 17 = .ok (.iload_n 2, 1) := by decide +kernel
theorem dX6_book_18 : decode cX6_book 18 = .ok (.invokevirtual 115, 3) := by decide +kernel
theorem dX6_book_21 : decode cX6_book 21 = .ok (.ifCond .ne 10, 3) := by decide +kernel
theorem dX6_book_24 : decode cX6_book 24 = .ok (.aload_n 0, 1) := by decide +kernel
theorem dX6_book_25 : decode cX6_book 25 = .ok (.ldc 48, 2) := by decide +kernel
theorem dX6_book_27 : decode cX6_book 27 = .ok (.invokevirtual 82, 3) := by decide +kernel
theorem dX6_book_30 : decode cX6_book 30 = .ok (.ireturn, 1) := by decide +kernel
theorem dX6_book_31 : decode cX6_book 31 = .ok (.aload_n 0, 1) := by decide +kernel
theorem dX6_book_32 : decode cX6_book 32 = .ok (.iconst 1, 1) := by decide +kernel
theorem dX6_book_33 : decode cX6_book 33 = .ok (.aload_n 0, 1) := by decide +kernel
theorem dX6_book_34 : decode cX6_book 34 = .ok (.getfield 16, 3) := by decide +kernel
theorem dX6_book_37 : decode cX6_book 37 = .ok (.invokevirtual 147, 3) := by decide +kernel
theorem dX6_book_40 : decode cX6_book 40 = .ok (.iconst 0, 1) := by decide +kernel
theorem dX6_book_41 : decode cX6_book 41 = .ok (.istore 4, 2) := by decide +kernel
theorem dX6_book_43 : decode cX6_book 43 = .ok (.iload 4, 2) := by decide +kernel
theorem dX6_book_45 : decode cX6_book 45 = .ok (.aload_n 0, 1) := by decide +kernel
theorem dX6_book_46 : decode cX6_book 46 = .ok (.getfield 28, 3) := by decide +kernel
theorem dX6_book_49 : decode cX6_book 49 = .ok (.iload_n 1, 1) := by decide +kernel
theorem dX6_book_50 : decode cX6_book 50 = .ok (.iaload, 1) := by decide +kernel
theorem dX6_book_51 : decode cX6_book 51 = .ok (.if_icmp .ge 32, 3) := by decide +kernel
theorem dX6_book_54 : decode cX6_book 54 = .ok (.aload_n 0, 1) := by decide +kernel
theorem dX6_book_55 : decode cX6_book 55 = .ok (.getfield 31, 3) := by decide +kernel
theorem dX6_book_58 : decode cX6_book 58 = .ok (.bipush 40, 2) := by decide +kernel
theorem dX6_book_60 : decode cX6_book 60 = .ok (.iload_n 1, 1) := by decide +kernel
theorem dX6_book_61 : decode cX6_book 61 = .ok (.imul, 1) := by decide +kernel
theorem dX6_book_62 : decode cX6_book 62 = .ok (.iload 4, 2) := by decide +kernel
theorem dX6_book_64 : decode cX6_book 64 = .ok (.iadd, 1) := by decide +kernel
theorem dX6_book_65 : decode cX6_book 65 = .ok (.aload_n 0, 1) := by decide +kernel
theorem dX6_book_66 : decode cX6_book 66 = .ok (.iload_n 2, 1) := by decide +kernel
theorem dX6_book_67 : decode cX6_book 67 = .ok (.iconst 2, 1) := by decide +kernel
theorem dX6_book_68 : decode cX6_book 68 = .ok (.invokevirtual 53, 3) := by decide +kernel
theorem dX6_book_71 : decode cX6_book 71 = .ok (.i2l, 1) := by decide +kernel
theorem dX6_book_72 : decode cX6_book 72 = .ok (.lastore, 1) := by decide +kernel
theorem dX6_book_73 : decode cX6_book 73 = .ok (.aload_n 0, 1) := by decide +kernel
theorem dX6_book_74 : decode cX6_book 74 = .ok (.invokevirtual 140, 3) := by decide +kernel
theorem dX6_book_77 : decode cX6_book 77 = .ok (.iinc 4 1, 3) := by decide +kernel
theorem dX6_book_80 : decode cX6_book 80 = .ok (.goto (-37), 3) := by decide +kernel
theorem dX6_book_83 : decode cX6_book 83 = .ok (.aload_n 0, 1) := by decide +kernel
theorem dX6_book_84 : decode cX6_book 84 = .ok (.iconst 0, 1) := by decide +kernel
theorem dX6_book_85 : decode cX6_book 85 = .ok (.aload_n 0, 1) := by decide +kernel
theorem dX6_book_86 : decode cX6_book 86 = .ok (.getfield 16, 3) := by decide +kernel
theorem dX6_book_89 : decode cX6_book 89 = .ok (.invokevirtual 147, 3) := by decide +kernel
theorem dX6_book_92 : decode cX6_book 92 = .ok (.aload_n 0, 1) := by decide +kernel
theorem dX6_book_93 : decode cX6_book 93 = .ok (.getfield 28, 3) := by decide +kernel
theorem dX6_book_96 : decode cX6_book 96 = .ok (.iload_n 1, 1) := by decide +kernel
theorem dX6_book_97 : decode cX6_book 97 = .ok (.iaload, 1) := by decide +kernel
theorem dX6_book_98 : decode cX6_book 98 = .ok (.ireturn, 1) := by decide +kernel
theorem dX6_isSo_0 : decode cX6_isSo 0 = .ok (.iconst 1, 1) := by decide +kernel
theorem dX6_isSo_1 : decode cX6_isSo 1 = .ok (.istore_n 3, 1) := by decide +kernel
theorem dX6_isSo_2 : decode cX6_isSo 2 = .ok (.iconst 0, 1) := by decide +kernel
theorem dX6_isSo_3 : decode cX6_isSo 3 = .ok (.istore 4, 2) := by decide +kernel
theorem dX6_isSo_5 : decode cX6_isSo 5 = .ok (.iload 4, 2) := by decide +kernel
theorem dX6_isSo_7 : decode cX6_isSo 7 = .ok (.aload_n 0, 1) := by decide +kernel
theorem dX6_isSo_8 : decode cX6_isSo 8 = .ok (.getfield 28, 3) := by decide +kernel
theorem dX6_isSo_11 : decode cX6_isSo 11 = .ok (.iload_n 1, 1) := by decide +kernel
theorem dX6_isSo_12 : decode cX6_isSo 12 = .ok (.iaload, 1) := by decide +kernel
theorem dX6_isSo_13 : decode cX6_isSo 13 = .ok (.if_icmp .ge 46, 3) := by decide +kernel
theorem dX6_isSo_16 : decode cX6_isSo 16 = .ok (.iload_n 3, 1) := by decide +kernel
theorem dX6_isSo_17 : decode cX6_isSo 17 = .ok (.ifCond .eq 42, 3) := by decide +kernel
theorem dX6_isSo_20 : decode cX6_isSo 20 = .ok (.aload_n 0, 1) := by decide +kernel
theorem dX6_isSo_21 : decode cX6_isSo 21 = .ok (.getfield 31, 3) := by decide +kernel
theorem dX6_isSo_24 : decode cX6_isSo 24 = .ok (.bipush 40, 2) := by decide +kernel
theorem dX6_isSo_26 : decode cX6_isSo 26 = .ok (.iload_n 1, 1) := by decide +kernel
theorem dX6_isSo_27 : decode cX6_isSo 27 = .ok (.imul, 1) := by decide +kernel
theorem dX6_isSo_28 : decode cX6_isSo 28 = .ok (.iload 4, 2) := by decide +kernel
theorem dX6_isSo_30 : decode cX6_isSo 30 = .ok (.iadd, 1) := by decide +kernel
theorem dX6_isSo_31 : decode cX6_isSo 31 = .ok (.laload, 1) := by decide +kernel
theorem dX6_isSo_32 : decode cX6_isSo 32 = .ok (.aload_n 0, 1) := by decide +kernel
theorem dX6_isSo_33 : decode cX6_isSo 33 = .ok (.iload_n 2, 1) := by decide +kernel
theorem dX6_isSo_34 : decode cX6_isSo 34 = .ok (.iconst 2, 1) := by decide +kernel
theorem dX6_isSo_35 : decode cX6_isSo 35 = .ok (.invokevirtual 53, 3) := by decide +kernel
theorem dX6_isSo_38 : decode cX6_isSo 38 = .ok (.i2l, 1) := by decide +kernel
theorem dX6_isSo_39 : decode cX6_isSo 39 = .ok (.lcmp, 1) := by decide +kernel
theorem dX6_isSo_40 : decode cX6_isSo 40 = .ok (.ifCond .ne 7, 3) := by decide +kernel
theorem dX6_isSo_43 : decode cX6_isSo 43 = .ok (.iconst 1, 1) := by decide +kernel
theorem dX6_isSo_44 : decode cX6_isSo 44 = .ok (.goto 4, 3) := by decide +kernel
theorem dX6_isSo_47 : decode cX6_isSo 47 = .ok (.iconst 0, 1) := by decide +kernel
theorem dX6_isSo_48 : decode cX6_isSo 48 = .ok (.istore_n 3, 1) := by decide +kernel
theorem dX6_isSo_49 : decode cX6_isSo 49 = .ok (.aload_n 0, 1) := by decide +kernel
theorem dX6_isSo_50 : decode cX6_isSo 50 = .ok (.invokevirtual 140, 3) := by decide +kernel
theorem dX6_isSo_53 : decode cX6_isSo 53 = .ok (.iinc 4 1, 3) := by decide +kernel
theorem dX6_isSo_56 : decode cX6_isSo 56 = .ok (.goto (-51), 3) := by decide +kernel
theorem dX6_isSo_59 : decode cX6_isSo 59 = .ok (.iload_n 3, 1) := by decide +kernel
theorem dX6_isSo_60 : decode cX6_isSo 60 = .ok (.ireturn, 1) := by decide +kernel
theorem dX6_read_0 : decode cX6_read 0 = .ok (.aload_n 0, 1) := by decide +kernel
theorem dX6_read_1 : decode cX6_read 1 = .ok (.iload_n 1, 1) := by decide +kernel
theorem dX6_read_2 : decode cX6_read 2 = .ok (.invokevirtual 264, 3) := by decide +kernel
theorem dX6_read_5 : decode cX6_read 5 = .ok (.istore_n 3, 1) := by decide +kernel
theorem dX6_read_6 : decode cX6_read 6 = .ok (.iload_n 3, 1) := by decide +kernel
theorem dX6_read_7 : decode cX6_read 7 = .ok (.ifCond .eq 9, 3) := by decide +kernel
theorem dX6_read_10 : decode cX6_read 10 = .ok (.aload_n 0, 1) := by decide +kernel
theorem dX6_read_11 : decode cX6_read 11 = .ok (.iload_n 3, 1) := by decide +kernel
theorem dX6_read_12 : decode cX6_read 12 = .ok (.invokevirtual 82, 3) := by decide +kernel
theorem dX6_read_15 : decode cX6_read 15 = .ok (.ireturn, 1) := by decide +kernel
theorem dX6_read_16 : decode cX6_read 16 = .ok (.aload_n 0, 1) := by decide +kernel
theorem dX6_read_17 : decode cX6_read 17 = .ok (.iload_n 2, 1) := by decide +kernel
theorem dX6_read_18 : decode cX6_read 18 = .ok (.invokevirtual 115, 3) := by decide +kernel
theorem dX6_read_21 : decode cX6_read 21 = .ok (.ifCond .ne 10, 3) := by decide +kernel
theorem dX6_read_24 : decode cX6_read 24 = .ok (.aload_n 0, 1) := by decide +kernel
theorem dX6_read_25 : decode cX6_read 25 = .ok (.ldc 48, 2) := by decide +kernel
theorem dX6_read_27 : decode cX6_read 27 = .ok (.invokevirtual 82, 3) := by decide +kernel
theorem dX6_read_30 : decode cX6_read 30 = .ok (.ireturn, 1) := by decide +kernel
theorem dX6_read_31 : decode cX6_read 31 = .ok (.iconst 0, 1) := by decide +kernel
theorem dX6_read_32 : decode cX6_read 32 = .ok (.istore 4, 2) := by decide +kernel
theorem dX6_read_34 : decode cX6_read 34 = .ok (.aload_n 0, 1) := by decide +kernel
theorem dX6_read_35 : decode cX6_read 35 = .ok (.iconst 1, 1) := by decide +kernel
theorem dX6_read_36 : decode cX6_read 36 = .ok (.aload_n 0, 1) := by decide +kernel
theorem dX6_read_37 : decode cX6_read 37 = .ok (.getfield 19, 3) := by decide +kernel
theorem dX6_read_40 : decode cX6_read 40 = .ok (.invokevirtual 147, 3) := by decide +kernel
theorem dX6_read_43 : decode cX6_read 43 = .ok (.iconst 0, 1) := by decide +kernel
theorem dX6_read_44 : decode cX6_read 44 = .ok (.istore 5, 2) := by decide +kernel
theorem dX6_read_46 : decode cX6_read 46 = .ok (.iload 5, 2) := by decide +kernel
theorem dX6_read_48 : decode cX6_read 48 = .ok (.sipush 600, 3) := by decide +kernel
theorem dX6_read_51 : decode cX6_read 51 = .ok (.if_icmp .ge 59, 3) := by decide +kernel
theorem dX6_read_54 : decode cX6_read 54 = .ok (.aload_n 0, 1) := by decide +kernel
theorem dX6_read_55 : decode cX6_read 55 = .ok (.iload_n 2, 1) := by decide +kernel
theorem dX6_read_56 : decode cX6_read 56 = .ok (.iconst 0, 1) := by decide +kernel
theorem dX6_read_57 : decode cX6_read 57 = .ok (.iload 5, 2) := by decide +kernel
theorem dX6_read_59 : decode cX6_read 59 = .ok (.bipush 100, 2) := by decide +kernel
theorem dX6_read_61 : decode cX6_read 61 = .ok (.idiv, 1) := by decide +kernel
theorem dX6_read_62 : decode cX6_read 62 = .ok (.invokevirtual 104, 3) := by decide +kernel
theorem dX6_read_65 : decode cX6_read 65 = .ok (.aload_n 0, 1) := by decide +kernel
theorem dX6_read_66 : decode cX6_read 66 = .ok (.iload_n 2, 1) := by decide +kernel
theorem dX6_read_67 : decode cX6_read 67 = .ok (.iconst 2, 1) := by decide +kernel
theorem dX6_read_68 : decode cX6_read 68 = .ok (.iload 5, 2) := by decide +kernel
theorem dX6_read_70 : decode cX6_read 70 = .ok (.bipush 100, 2) := by decide +kernel
theorem dX6_read_72 : decode cX6_read 72 = .ok (.irem, 1) := by decide +kernel
theorem dX6_read_73 : decode cX6_read 73 = .ok (.invokevirtual 104, 3) := by decide +kernel
theorem dX6_read_76 : decode cX6_read 76 = .ok (.iload 4, 2) := by decide +kernel
theorem dX6_read_78 : decode cX6_read 78 = .ok (.aload_n 0, 1) := by decide +kernel
theorem dX6_read_79 : decode cX6_read 79 = .ok (.iload_n 1, 1) := by decide +kernel
theorem dX6_read_80 : decode cX6_read 80 = .ok (.iload_n 2, 1) := by decide +kernel
theorem dX6_read_81 : decode cX6_read 81 = .ok (.invokevirtual 269, 3) := by decide +kernel
theorem dX6_read_84 : decode cX6_read 84 = .ok (.ifCond .eq 7, 3) := by decide +kernel
theorem dX6_read_87 : decode cX6_read 87 = .ok (.iconst 1, 1) := by decide +kernel
theorem dX6_read_88 : decode cX6_read 88 = .ok (.goto 4, 3) := by decide +kernel
theorem dX6_read_91 : decode cX6_read 91 = .ok (.iconst 0, 1) := by decide +kernel
theorem dX6_read_92 : decode cX6_read 92 = .ok (.iadd, 1) := by decide +kernel
theorem dX6_read_93 : decode cX6_read 93 = .ok (.istore 4, 2) := by decide +kernel
theorem dX6_read_95 : decode cX6_read 95 = .ok (.aload_n 0, 1) := by decide +kernel
theorem dX6_read_96 : decode cX6_read 96 = .ok (.iconst 0, 1) := by decide +kernel
theorem dX6_read_97 : decode cX6_read 97 = .ok (.aload_n 0, 1) := by decide +kernel
theorem dX6_read_98 : decode cX6_read 98 = .ok (.getfield 19, 3) := by decide +kernel
theorem dX6_read_101 : decode cX6_read 101 = .ok (.invokevirtual 147, 3) := by decide +kernel
theorem dX6_read_104 : decode cX6_read 104 = .ok (.iinc 5 1, 3) := by decide +kernel
theorem dX6_read_107 : decode cX6_read 107 = .ok (.goto (-61), 3) := by decide +kernel
theorem dX6_read_110 : decode cX6_read 110 = .ok (.iload 4, 2) := by decide +kernel
theorem dX6_read_112 : decode cX6_read 112 = .ok (.ireturn, 1) := by decide +kernel
theorem dX6_moveAll_0 : decode cX6_moveAll 0 = .ok (.iconst 0, 1) := by decide +kernel
theorem dX6_moveAll_1 : decode cX6_moveAll 1 = .ok (.istore_n 3, 1) := by decide +kernel
theorem dX6_moveAll_2 : decode cX6_moveAll 2 = .ok (.iload_n 3, 1) := by decide +kernel
theorem dX6_moveAll_3 : decode cX6_moveAll 3 = .ok (.bipush 72, 2) := by decide +kernel
theorem dX6_moveAll_5 : decode cX6_moveAll 5 = .ok (.if_icmp .ge 34, 3) := by decide +kernel
theorem dX6_moveAll_8 : decode cX6_moveAll 8 = .ok (.iload_n 1, 1) := by decide +kernel
theorem dX6_moveAll_9 : decode cX6_moveAll 9 = .ok (.ifCond .eq 15, 3) := by decide +kernel
theorem dX6_moveAll_12 : decode cX6_moveAll 12 = .ok (.aload_n 2, 1) := by decide +kernel
theorem dX6_moveAll_13 : decode cX6_moveAll 13 = .ok (.iload_n 3, 1) := by decide +kernel
theorem dX6_moveAll_14 : decode cX6_moveAll 14 = .ok (.aload_n 0, 1) := by decide +kernel
theorem dX6_moveAll_15 : decode cX6_moveAll 15 = .ok (.getfield 7, 3) := by decide +kernel
theorem dX6_moveAll_18 : decode cX6_moveAll 18 = .ok (.iload_n 3, 1) := by decide +kernel
theorem dX6_moveAll_19 : decode cX6_moveAll 19 = .ok (.iaload, 1) := by decide +kernel
theorem dX6_moveAll_20 : decode cX6_moveAll 20 = .ok (.iastore, 1) := by decide +kernel
theorem dX6_moveAll_21 : decode cX6_moveAll 21 = .ok (.goto 12, 3) := by decide +kernel
theorem dX6_moveAll_24 : decode cX6_moveAll 24 = .ok (.aload_n 0, 1) := by decide +kernel
theorem dX6_moveAll_25 : decode cX6_moveAll 25 = .ok (.getfield 7, 3) := by decide +kernel
theorem dX6_moveAll_28 : decode cX6_moveAll 28 = .ok (.iload_n 3, 1) := by decide +kernel
theorem dX6_moveAll_29 : decode cX6_moveAll 29 = .ok (.aload_n 2, 1) := by decide +kernel
theorem dX6_moveAll_30 : decode cX6_moveAll 30 = .ok (.iload_n 3, 1) := by decide +kernel
theorem dX6_moveAll_31 : decode cX6_moveAll 31 = .ok (.iaload, 1) := by decide +kernel
theorem dX6_moveAll_32 : decode cX6_moveAll 32 = .ok (.iastore, 1) := by decide +kernel
theorem dX6_moveAll_33 : decode cX6_moveAll 33 = .ok (.iinc 3 1, 3) := by decide +kernel
theorem dX6_moveAll_36 : decode cX6_moveAll 36 = .ok (.goto (-34), 3) := by decide +kernel
theorem dX6_moveAll_39 : decode cX6_moveAll 39 = .ok (.return_, 1) := by decide +kernel
theorem dX6_image_0 : decode cX6_image 0 = .ok (.aload_n 0, 1) := by decide +kernel
theorem dX6_image_1 : decode cX6_image 1 = .ok (.iconst 1, 1) := by decide +kernel
theorem dX6_image_2 : decode cX6_image 2 = .ok (.aload_n 0, 1) := by decide +kernel
theorem dX6_image_3 : decode cX6_image 3 = .ok (.getfield 38, 3) := by decide +kernel
theorem dX6_image_6 : decode cX6_image 6 = .ok (.invokevirtual 147, 3) := by decide +kernel
theorem dX6_image_9 : decode cX6_image 9 = .ok (.aload_n 0, 1) := by decide +kernel
theorem dX6_image_10 : decode cX6_image 10 = .ok (.iconst 1, 1) := by decide +kernel
theorem dX6_image_11 : decode cX6_image 11 = .ok (.putfield 272, 3) := by decide +kernel
theorem dX6_image_14 : decode cX6_image 14 = .ok (.iconst 1, 1) := by decide +kernel
theorem dX6_image_15 : decode cX6_image 15 = .ok (.ireturn, 1) := by decide +kernel
theorem dX6_undo_0 : decode cX6_undo 0 = .ok (.aload_n 0, 1) := by decide +kernel
theorem dX6_undo_1 : decode cX6_undo 1 = .ok (.getfield 272, 3) := by decide +kernel
theorem dX6_undo_4 : decode cX6_undo 4 = .ok (.ifCond .ne 10, 3) := by decide +kernel
theorem dX6_undo_7 : decode cX6_undo 7 = .ok (.aload_n 0, 1) := by decide +kernel
theorem dX6_undo_8 : decode cX6_undo 8 = .ok (.ldc 154, 2) := by decide +kernel
theorem dX6_undo_10 : decode cX6_undo 10 = .ok (.invokevirtual 82, 3) := by decide +kernel
theorem dX6_undo_13 : decode cX6_undo 13 = .ok (.ireturn, 1) := by decide +kernel
theorem dX6_undo_14 : decode cX6_undo 14 = .ok (.aload_n 0, 1) := by decide +kernel
theorem dX6_undo_15 : decode cX6_undo 15 = .ok (.iconst 0, 1) := by decide +kernel
theorem dX6_undo_16 : decode cX6_undo 16 = .ok (.aload_n 0, 1) := by decide +kernel
theorem dX6_undo_17 : decode cX6_undo 17 = .ok (.getfield 38, 3) := by decide +kernel
theorem dX6_undo_20 : decode cX6_undo 20 = .ok (.invokevirtual 147, 3) := by decide +kernel
theorem dX6_undo_23 : decode cX6_undo 23 = .ok (.aload_n 0, 1) := by decide +kernel
theorem dX6_undo_24 : decode cX6_undo 24 = .ok (.getfield 7, 3) := by decide +kernel
theorem dX6_undo_27 : decode cX6_undo 27 = .ok (.iconst 1, 1) := by decide +kernel
theorem dX6_undo_28 : decode cX6_undo 28 = .ok (.iaload, 1) := by decide +kernel
theorem dX6_undo_29 : decode cX6_undo 29 = .ok (.ireturn, 1) := by decide +kernel
theorem dX6_tear_0 : decode cX6_tear 0 = .ok (.aload_n 0, 1) := by decide +kernel
theorem dX6_tear_1 : decode cX6_tear 1 = .ok (.getfield 272, 3) := by decide +kernel
theorem dX6_tear_4 : decode cX6_tear 4 = .ok (.ifCond .eq 7, 3) := by decide +kernel
theorem dX6_tear_7 : decode cX6_tear 7 = .ok (.iconst 1, 1) := by decide +kernel
theorem dX6_tear_8 : decode cX6_tear 8 = .ok (.goto 4, 3) := by decide +kernel
theorem dX6_tear_11 : decode cX6_tear 11 = .ok (.iconst 0, 1) := by decide +kernel
theorem dX6_tear_12 : decode cX6_tear 12 = .ok (.istore_n 1, 1) := by decide +kernel
theorem dX6_tear_13 : decode cX6_tear 13 = .ok (.aload_n 0, 1) := by decide +kernel
theorem dX6_tear_14 : decode cX6_tear 14 = .ok (.iconst 0, 1) := by decide +kernel
theorem dX6_tear_15 : decode cX6_tear 15 = .ok (.putfield 272, 3) := by decide +kernel
theorem dX6_tear_18 : decode cX6_tear 18 = .ok (.iload_n 1, 1) := by decide +kernel
theorem dX6_tear_19 : decode cX6_tear 19 = .ok (.ireturn, 1) := by decide +kernel
theorem dX6_weights_0 : decode cX6_weights 0 = .ok (.iconst 0, 1) := by decide +kernel
theorem dX6_weights_1 : decode cX6_weights 1 = .ok (.istore_n 1, 1) := by decide +kernel
theorem dX6_weights_2 : decode cX6_weights 2 = .ok (.iconst 0, 1) := by decide +kernel
theorem dX6_weights_3 : decode cX6_weights 3 = .ok (.istore_n 2, 1) := by decide +kernel
theorem dX6_weights_4 : decode cX6_weights 4 = .ok (.iload_n 2, 1) := by decide +kernel
theorem dX6_weights_5 : decode cX6_weights 5 = .ok (.iconst 4, 1) := by decide +kernel
theorem dX6_weights_6 : decode cX6_weights 6 = .ok (.if_icmp .ge 18, 3) := by decide +kernel
theorem dX6_weights_9 : decode cX6_weights 9 = .ok (.iload_n 1, 1) := by decide +kernel
theorem dX6_weights_10 : decode cX6_weights 10 = .ok (.aload_n 0, 1) := by decide +kernel
theorem dX6_weights_11 : decode cX6_weights 11 = .ok (.iload_n 2, 1) := by decide +kernel
theorem dX6_weights_12 : decode cX6_weights 12 = .ok (.iconst 0, 1) := by decide +kernel
theorem dX6_weights_13 : decode cX6_weights 13 = .ok (.invokevirtual 57, 3) := by decide +kernel
theorem dX6_weights_16 : decode cX6_weights 16 = .ok (.iadd, 1) := by decide +kernel
theorem dX6_weights_17 : decode cX6_weights 17 = .ok (.istore_n 1, 1) := by decide +kernel
theorem dX6_weights_18 : decode cX6_weights 18 = .ok (.iinc 2 1, 3) := by decide +kernel
theorem dX6_weights_21 : decode cX6_weights 21 = .ok (.goto (-17), 3) := by decide +kernel
theorem dX6_weights_24 : decode cX6_weights 24 = .ok (.iload_n 1, 1) := by decide +kernel
theorem dX6_weights_25 : decode cX6_weights 25 = .ok (.ireturn, 1) := by decide +kernel
theorem dX6_count_0 : decode cX6_count 0 = .ok (.iload_n 1, 1) := by decide +kernel
theorem dX6_count_1 : decode cX6_count 1 = .ok (.tableswitch 54 0 3 #[31, 38, 43, 48], 31) := by decide +kernel
theorem dX6_count_32 : decode cX6_count 32 = .ok (.aload_n 0, 1) := by decide +kernel
theorem dX6_count_33 : decode cX6_count 33 = .ok (.getfield 7, 3) := by decide +kernel
theorem dX6_count_36 : decode cX6_count 36 = .ok (.iconst 1, 1) := by decide +kernel
theorem dX6_count_37 : decode cX6_count 37 = .ok (.iaload, 1) := by decide +kernel
theorem dX6_count_38 : decode cX6_count 38 = .ok (.ireturn, 1) := by decide +kernel
theorem dX6_count_39 : decode cX6_count 39 = .ok (.aload_n 0, 1) := by decide +kernel
theorem dX6_count_40 : decode cX6_count 40 = .ok (.getfield 158, 3) := by decide +kernel
theorem dX6_count_43 : decode cX6_count 43 = .ok (.ireturn, 1) := by decide +kernel
theorem dX6_count_44 : decode cX6_count 44 = .ok (.aload_n 0, 1) := by decide +kernel
theorem dX6_count_45 : decode cX6_count 45 = .ok (.invokevirtual 275, 3) := by decide +kernel
theorem dX6_count_48 : decode cX6_count 48 = .ok (.ireturn, 1) := by decide +kernel
theorem dX6_count_49 : decode cX6_count 49 = .ok (.aload_n 0, 1) := by decide +kernel
theorem dX6_count_50 : decode cX6_count 50 = .ok (.iconst 4, 1) := by decide +kernel
theorem dX6_count_51 : decode cX6_count 51 = .ok (.invokevirtual 101, 3) := by decide +kernel
theorem dX6_count_54 : decode cX6_count 54 = .ok (.ireturn, 1) := by decide +kernel
theorem dX6_count_55 : decode cX6_count 55 = .ok (.aload_n 0, 1) := by decide +kernel
theorem dX6_count_56 : decode cX6_count 56 = .ok (.ldc 48, 2) := by decide +kernel
theorem dX6_count_58 : decode cX6_count 58 = .ok (.invokevirtual 82, 3) := by decide +kernel
theorem dX6_count_61 : decode cX6_count 61 = .ok (.ireturn, 1) := by decide +kernel
theorem dX6_status_0 : decode cX6_status 0 = .ok (.iload_n 1, 1) := by decide +kernel
theorem dX6_status_1 : decode cX6_status 1 = .ok (.iconst (-1), 1) := by decide +kernel
theorem dX6_status_2 : decode cX6_status 2 = .ok (.bipush 6, 2) := by decide +kernel
theorem dX6_status_4 : decode cX6_status 4 = .ok (.invokestatic 49, 3) := by decide +kernel
theorem dX6_status_7 : decode cX6_status 7 = .ok (.ifCond .ne 10, 3) := by decide +kernel
theorem dX6_status_10 : decode cX6_status 10 = .ok (.aload_n 0, 1) := by decide +kernel
theorem dX6_status_11 : decode cX6_status 11 = .ok (.ldc 48, 2) := by decide +kernel
theorem dX6_status_13 : decode cX6_status 13 = .ok (.invokevirtual 82, 3) := by decide +kernel
theorem dX6_status_16 : decode cX6_status 16 = .ok (.ireturn, 1) := by decide +kernel
theorem dX6_status_17 : decode cX6_status 17 = .ok (.iconst 0, 1) := by decide +kernel
theorem dX6_status_18 : decode cX6_status 18 = .ok (.istore_n 2, 1) := by decide +kernel
theorem dX6_status_19 : decode cX6_status 19 = .ok (.iconst 0, 1) := by decide +kernel
theorem dX6_status_20 : decode cX6_status 20 = .ok (.istore_n 3, 1) := by decide +kernel
theorem dX6_status_21 : decode cX6_status 21 = .ok (.iload_n 3, 1) := by decide +kernel
theorem dX6_status_22 : decode cX6_status 22 = .ok (.bipush 7, 2) := by decide +kernel
theorem dX6_status_24 : decode cX6_status 24 = .ok (.if_icmp .ge 18, 3) := by decide +kernel
theorem dX6_status_27 : decode cX6_status 27 = .ok (.iload_n 2, 1) := by decide +kernel
theorem dX6_status_28 : decode cX6_status 28 = .ok (.aload_n 0, 1) := by decide +kernel
theorem dX6_status_29 : decode cX6_status 29 = .ok (.getfield 13, 3) := by decide +kernel
theorem dX6_status_32 : decode cX6_status 32 = .ok (.iload_n 3, 1) := by decide +kernel
theorem dX6_status_33 : decode cX6_status 33 = .ok (.iaload, 1) := by decide +kernel
theorem dX6_status_34 : decode cX6_status 34 = .ok (.iadd, 1) := by decide +kernel
theorem dX6_status_35 : decode cX6_status 35 = .ok (.istore_n 2, 1) := by decide +kernel
theorem dX6_status_36 : decode cX6_status 36 = .ok (.iinc 3 1, 3) := by decide +kernel
theorem dX6_status_39 : decode cX6_status 39 = .ok (.goto (-18), 3) := by decide +kernel
theorem dX6_status_42 : decode cX6_status 42 = .ok (.iload_n 1, 1) := by decide +kernel
theorem dX6_status_43 : decode cX6_status 43 = .ok (.ifCond .ge 7, 3) := by decide +kernel
theorem dX6_status_46 : decode cX6_status 46 = .ok (.iload_n 2, 1) := by decide +kernel
theorem dX6_status_47 : decode cX6_status 47 = .ok (.goto 17, 3) := by decide +kernel
theorem dX6_status_50 : decode cX6_status 50 = .ok (.aload_n 0, 1) := by decide +kernel
theorem dX6_status_51 : decode cX6_status 51 = .ok (.getfield 13, 3) := by decide +kernel
theorem dX6_status_54 : decode cX6_status 54 = .ok (.iload_n 1, 1) := by decide +kernel
theorem dX6_status_55 : decode cX6_status 55 = .ok (.ifCond .ge 7, 3) := by decide +kernel
theorem dX6_status_58 : decode cX6_status 58 = .ok (.iconst 0, 1) := by decide +kernel
theorem dX6_status_59 : decode cX6_status 59 = .ok (.goto 4, 3) := by decide +kernel
theorem dX6_status_62 : decode cX6_status 62 = .ok (.iload_n 1, 1) := by decide +kernel
theorem dX6_status_63 : decode cX6_status 63 = .ok (.iaload, 1) := by decide +kernel
theorem dX6_status_64 : decode cX6_status 64 = .ok (.ireturn, 1) := by decide +kernel
