theorem dX7_init_0 : decode cX7_init 0 = .ok (.aload_n 0, 1) := by decide +kernel
theorem dX7_init_1 : decode cX7_init 1 = .ok (.invokespecial 1, 3) := by decide +kernel
theorem dX7_init_4 : decode cX7_init 4 = .ok (.aload_n 0, 1) := by decide +kernel
theorem dX7_init_5 : decode cX7_init 5 = .ok (.bipush 9, 2) := by decide +kernel
theorem dX7_init_7 : decode cX7_init 7 = .ok (.newarray .int, 2) := by decide +kernel
theorem dX7_init_9 : decode cX7_init 9 = .ok (.putfield 7, 3) := by decide +kernel
theorem dX7_init_12 : decode cX7_init 12 = .ok (.aload_n 0, 1) := by decide +kernel
theorem dX7_init_13 : decode cX7_init 13 = .ok (.bipush 9, 2) := by decide +kernel
theorem dX7_init_15 : decode cX7_init 15 = .ok (.newarray .int, 2) := by decide +kernel
theorem dX7_init_17 : decode cX7_init 17 = .ok (.putfield 13, 3) := by decide +kernel
theorem dX7_init_20 : decode cX7_init 20 = .ok (.aload_n 0, 1) := by decide +kernel
theorem dX7_init_21 : decode cX7_init 21 = .ok (.bipush 9, 2) := by decide +kernel
theorem dX7_init_23 : decode cX7_init 23 = .ok (.newarray .int, 2) := by decide +kernel
theorem dX7_init_25 : decode cX7_init 25 = .ok (.putfield 16, 3) := by decide +kernel
theorem dX7_init_28 : decode cX7_init 28 = .ok (.aload_n 0, 1) := by decide +kernel
theorem dX7_init_29 : decode cX7_init 29 = .ok (.bipush 9, 2) := by decide +kernel
theorem dX7_init_31 : decode cX7_init 31 = .ok (.newarray .int, 2) := by decide +kernel
theorem dX7_init_33 : decode cX7_init 33 = .ok (.putfield 19, 3) := by decide +kernel
theorem dX7_init_36 : decode cX7_init 36 = .ok (.aload_n 0, 1) := by decide +kernel
theorem dX7_init_37 : decode cX7_init 37 = .ok (.bipush 66, 2) := by decide +kernel
theorem dX7_init_39 : decode cX7_init 39 = .ok (.newarray .int, 2) := by decide +kernel
theorem dX7_init_41 : decode cX7_init 41 = .ok (.putfield 22, 3) := by decide +kernel
theorem dX7_init_44 : decode cX7_init 44 = .ok (.aload_n 0, 1) := by decide +kernel
theorem dX7_init_45 : decode cX7_init 45 = .ok (.sipush 240, 3) := by decide +kernel
theorem dX7_init_48 : decode cX7_init 48 = .ok (.newarray .int, 2) := by decide +kernel
theorem dX7_init_50 : decode cX7_init 50 = .ok (.putfield 25, 3) := by decide +kernel
theorem dX7_init_53 : decode cX7_init 53 = .ok (.aload_n 0, 1) := by decide +kernel
theorem dX7_init_54 : decode cX7_init 54 = .ok (.iconst (-1), 1) := by decide +kernel
theorem dX7_init_55 : decode cX7_init 55 = .ok (.putfield 28, 3) := by decide +kernel
theorem dX7_init_58 : decode cX7_init 58 = .ok (.aload_n 0, 1) := by decide +kernel
theorem dX7_init_59 : decode cX7_init 59 = .ok (.bipush 9, 2) := by decide +kernel
theorem dX7_init_61 : decode cX7_init 61 = .ok (.newarray .int, 2) := by decide +kernel
theorem dX7_init_63 : decode cX7_init 63 = .ok (.putfield 32, 3) := by decide +kernel
theorem dX7_init_66 : decode cX7_init 66 = .ok (.aload_n 0, 1) := by decide +kernel
theorem dX7_init_67 : decode cX7_init 67 = .ok (.bipush 9, 2) := by decide +kernel
theorem dX7_init_69 : decode cX7_init 69 = .ok (.newarray .int, 2) := by decide +kernel
theorem dX7_init_71 : decode cX7_init 71 = .ok (.putfield 35, 3) := by decide +kernel
theorem dX7_init_74 : decode cX7_init 74 = .ok (.aload_n 0, 1) := by decide +kernel
theorem dX7_init_75 : decode cX7_init 75 = .ok (.bipush 9, 2) := by decide +kernel
theorem dX7_init_77 : decode cX7_init 77 = .ok (.newarray .int, 2) := by decide +kernel
theorem dX7_init_79 : decode cX7_init 79 = .ok (.putfield 38, 3) := by decide +kernel
theorem dX7_init_82 : decode cX7_init 82 = .ok (.aload_n 0, 1) := by decide +kernel
theorem dX7_init_83 : decode cX7_init 83 = .ok (.bipush 9, 2) := by decide +kernel
theorem dX7_init_85 : decode cX7_init 85 = .ok (.newarray .int, 2) := by decide +kernel
theorem dX7_init_87 : decode cX7_init 87 = .ok (.putfield 41, 3) := by decide +kernel
theorem dX7_init_90 : decode cX7_init 90 = .ok (.aload_n 0, 1) := by decide +kernel
theorem dX7_init_91 : decode cX7_init 91 = .ok (.bipush 9, 2) := by decide +kernel
theorem dX7_init_93 : decode cX7_init 93 = .ok (.newarray .int, 2) := by decide +kernel
theorem dX7_init_95 : decode cX7_init 95 = .ok (.putfield 44, 3) := by decide +kernel
theorem dX7_init_98 : decode cX7_init 98 = .ok (.aload_n 0, 1) := by decide +kernel
theorem dX7_init_99 : decode cX7_init 99 = .ok (.bipush 9, 2) := by decide +kernel
theorem dX7_init_101 : decode cX7_init 101 = .ok (.newarray .boolean, 2) := by decide +kernel
theorem dX7_init_103 : decode cX7_init 103 = .ok (.putfield 47, 3) := by decide +kernel
theorem dX7_init_106 : decode cX7_init 106 = .ok (.aload_n 0, 1) := by decide +kernel
theorem dX7_init_107 : decode cX7_init 107 = .ok (.sipush 1056, 3) := by decide +kernel
theorem dX7_init_110 : decode cX7_init 110 = .ok (.newarray .int, 2) := by decide +kernel
theorem dX7_init_112 : decode cX7_init 112 = .ok (.putfield 51, 3) := by decide +kernel
theorem dX7_init_115 : decode cX7_init 115 = .ok (.aload_n 0, 1) := by decide +kernel
theorem dX7_init_116 : decode cX7_init 116 = .ok (.bipush 66, 2) := by decide +kernel
theorem dX7_init_118 : decode cX7_init 118 = .ok (.newarray .int, 2) := by decide +kernel
theorem dX7_init_120 : decode cX7_init 120 = .ok (.putfield 54, 3) := by decide +kernel
theorem dX7_init_123 : decode cX7_init 123 = .ok (.aload_n 0, 1) := by decide +kernel
theorem dX7_init_124 : decode cX7_init 124 = .ok (.bipush 6, 2) := by decide +kernel
theorem dX7_init_126 : decode cX7_init 126 = .ok (.newarray .int, 2) := by decide +kernel
theorem dX7_init_128 : decode cX7_init 128 = .ok (.putfield 57, 3) := by decide +kernel
theorem dX7_init_131 : decode cX7_init 131 = .ok (.aload_n 0, 1) := by decide +kernel
theorem dX7_init_132 : decode cX7_init 132 = .ok (.bipush 6, 2) := by decide +kernel
theorem dX7_init_134 : decode cX7_init 134 = .ok (.newarray .int, 2) := by decide +kernel
theorem dX7_init_136 : decode cX7_init 136 = .ok (.putfield 60, 3) := by decide +kernel
theorem dX7_init_139 : decode cX7_init 139 = .ok (.aload_n 0, 1) := by decide +kernel
theorem dX7_init_140 : decode cX7_init 140 = .ok (.bipush 10, 2) := by decide +kernel
theorem dX7_init_142 : decode cX7_init 142 = .ok (.newarray .int, 2) := by decide +kernel
theorem dX7_init_144 : decode cX7_init 144 = .ok (.putfield 63, 3) := by decide +kernel
theorem dX7_init_147 : decode cX7_init 147 = .ok (.aload_n 0, 1) := by decide +kernel
theorem dX7_init_148 : decode cX7_init 148 = .ok (.bipush 15, 2) := by decide +kernel
theorem dX7_init_150 : decode cX7_init 150 = .ok (.newarray .int, 2) := by decide +kernel
theorem dX7_init_152 : decode cX7_init 152 = .ok (.putfield 66, 3) := by decide +kernel
theorem dX7_init_155 : decode cX7_init 155 = .ok (.aload_n 0, 1) := by decide +kernel
theorem dX7_init_156 : decode cX7_init 156 = .ok (.bipush 15, 2) := by decide +kernel
theorem dX7_init_158 : decode cX7_init 158 = .ok (.newarray .int, 2) := by decide +kernel
theorem dX7_init_160 : decode cX7_init 160 = .ok (.putfield 69, 3) := by decide +kernel
theorem dX7_init_163 : decode cX7_init 163 = .ok (.aload_n 0, 1) := by decide +kernel
theorem dX7_init_164 : decode cX7_init 164 = .ok (.sipush 134, 3) := by decide +kernel
theorem dX7_init_167 : decode cX7_init 167 = .ok (.newarray .int, 2) := by decide +kernel
theorem dX7_init_169 : decode cX7_init 169 = .ok (.putfield 72, 3) := by decide +kernel
theorem dX7_init_172 : decode cX7_init 172 = .ok (.aload_n 0, 1) := by decide +kernel
theorem dX7_init_173 : decode cX7_init 173 = .ok (.iconst 2, 1) := by decide +kernel
theorem dX7_init_174 : decode cX7_init 174 = .ok (.newarray .boolean, 2) := by decide +kernel
theorem dX7_init_176 : decode cX7_init 176 = .ok (.putfield 75, 3) := by decide +kernel
theorem dX7_init_179 : decode cX7_init 179 = .ok (.aload_n 0, 1) := by decide +kernel
theorem dX7_init_180 : decode cX7_init 180 = .ok (.invokevirtual 78, 3) := by decide +kernel
theorem dX7_init_183 : decode cX7_init 183 = .ok (.return_, 1) := by decide +kernel
theorem dX7_in_0 : decode cX7_in 0 = .ok (.lload_n 0, 1) := by decide +kernel
theorem dX7_in_1 : decode cX7_in 1 = .ok (.lload_n 2, 1) := by decide +kernel
theorem dX7_in_2 : decode cX7_in 2 = .ok (.lcmp, 1) := by decide +kernel
theorem dX7_in_3 : decode cX7_in 3 = .ok (.ifCond .lt 14, 3) := by decide +kernel
theorem dX7_in_6 : decode cX7_in 6 = .ok (.lload_n 0, 1) := by decide +kernel
theorem dX7_in_7 : decode cX7_in 7 = .ok (.lload 4, 2) := by decide +kernel
theorem dX7_in_9 : decode cX7_in 9 = .ok (.lcmp, 1) := by decide +kernel
theorem dX7_in_10 : decode cX7_in 10 = .ok (.ifCond .gt 7, 3) := by decide +kernel
theorem dX7_in_13 : decode cX7_in 13 = .ok (.iconst 1, 1) := by decide +kernel
theorem dX7_in_14 : decode cX7_in 14 = .ok (.goto 4, 3) := by decide +kernel
theorem dX7_in_17 : decode cX7_in 17 = .ok (.iconst 0, 1) := by decide +kernel
theorem dX7_in_18 : decode cX7_in 18 = .ok (.ireturn, 1) := by decide +kernel
theorem dX7_has_0 : decode cX7_has 0 = .ok (.iload_n 0, 1) := by decide +kernel
theorem dX7_has_1 : decode cX7_has 1 = .ok (.iload_n 1, 1) := by decide +kernel
theorem dX7_has_2 : decode cX7_has 2 = .ok (.ishr, 1) := by decide +kernel
theorem dX7_has_3 : decode cX7_has 3 = .ok (.iconst 1, 1) := by decide +kernel
theorem dX7_has_4 : decode cX7_has 4 = .ok (.iand, 1) := by decide +kernel
theorem dX7_has_5 : decode cX7_has 5 = .ok (.iconst 1, 1) := by decide +kernel
theorem dX7_has_6 : decode cX7_has 6 = .ok (.if_icmp .ne 7, 3) := by decide +kernel
theorem dX7_has_9 : decode cX7_has 9 = .ok (.iconst 1, 1) := by decide +kernel
theorem dX7_has_10 : decode cX7_has 10 = .ok (.goto 4, 3) := by decide +kernel
theorem dX7_has_13 : decode cX7_has 13 = .ok (.iconst 0, 1) := by decide +kernel
theorem dX7_has_14 : decode cX7_has 14 = .ok (.ireturn, 1) := by decide +kernel
theorem dX7_bits_0 : decode cX7_bits 0 = .ok (.iconst 0, 1) := by decide +kernel
theorem dX7_bits_1 : decode cX7_bits 1 = .ok (.istore_n 1, 1) := by decide +kernel
theorem dX7_bits_2 : decode cX7_bits 2 = .ok (.iconst 0, 1) := by decide +kernel
theorem dX7_bits_3 : decode cX7_bits 3 = .ok (.istore_n 2, 1) := by decide +kernel
theorem dX7_bits_4 : decode cX7_bits 4 = .ok (.iload_n 2, 1) := by decide +kernel
theorem dX7_bits_5 : decode cX7_bits 5 = .ok (.bipush 9, 2) := by decide +kernel
theorem dX7_bits_7 : decode cX7_bits 7 = .ok (.if_icmp .ge 17, 3) := by decide +kernel
theorem dX7_bits_10 : decode cX7_bits 10 = .ok (.iload_n 1, 1) := by decide +kernel
theorem dX7_bits_11 : decode cX7_bits 11 = .ok (.iload_n 0, 1) := by decide +kernel
theorem dX7_bits_12 : decode cX7_bits 12 = .ok (.iload_n 2, 1) := by decide +kernel
theorem dX7_bits_13 : decode cX7_bits 13 = .ok (.ishr, 1) := by decide +kernel
theorem dX7_bits_14 : decode cX7_bits 14 = .ok (.iconst 1, 1) := by decide +kernel
theorem dX7_bits_15 : decode cX7_bits 15 = .ok (.iand, 1) := by decide +kernel
theorem dX7_bits_16 : decode cX7_bits 16 = .ok (.iadd, 1) := by decide +kernel
theorem dX7_bits_17 : decode cX7_bits 17 = .ok (.istore_n 1, 1) := by decide +kernel
theorem dX7_bits_18 : decode cX7_bits 18 = .ok (.iinc 2 1, 3) := by decide +kernel
theorem dX7_bits_21 : decode cX7_bits 21 = .ok (.goto (-17), 3) := by decide +kernel
theorem dX7_bits_24 : decode cX7_bits 24 = .ok (.iload_n 1, 1) := by decide +kernel
theorem dX7_bits_25 : decode cX7_bits 25 = .ok (.ireturn, 1) := by decide +kernel
theorem dX7_isFarm_0 : decode cX7_isFarm 0 = .ok (.iload_n 1, 1) := by decide +kernel
theorem dX7_isFarm_1 : decode cX7_isFarm 1 = .ok (.i2l, 1) := by decide +kernel
theorem dX7_isFarm_2 : decode cX7_isFarm 2 = .ok (.lconst 0, 1) := by decide +kernel
theorem dX7_isFarm_3 : decode cX7_isFarm 3 = .ok (.aload_n 0, 1) := by decide +kernel
theorem dX7_isFarm_4 : decode cX7_isFarm 4 = .ok (.getfield 81, 3) := by decide +kernel
theorem dX7_isFarm_7 : decode cX7_isFarm 7 = .ok (.iconst 1, 1) := by decide +kernel
theorem dX7_isFarm_8 : decode cX7_isFarm 8 = .ok (.isub, 1) := by decide +kernel
theorem dX7_isFarm_9 : decode cX7_isFarm 9 = .ok (.i2l, 1) := by decide +kernel
theorem dX7_isFarm_10 : decode cX7_isFarm 10 = .ok (.invokestatic 84, 3) := by decide +kernel
theorem dX7_isFarm_13 : decode cX7_isFarm 13 = .ok (.ireturn, 1) := by decide +kernel
theorem dX7_isWord_0 : decode cX7_isWord 0 = .ok (.iload_n 1, 1) := by decide +kernel
theorem dX7_isWord_1 : decode cX7_isWord 1 = .ok (.i2l, 1) := by decide +kernel
theorem dX7_isWord_2 : decode cX7_isWord 2 = .ok (.lconst 0, 1) := by decide +kernel
theorem dX7_isWord_3 : decode cX7_isWord 3 = .ok (.aload_n 0, 1) := by decide +kernel
theorem dX7_isWord_4 : decode cX7_isWord 4 = .ok (.getfield 88, 3) := by decide +kernel
theorem dX7_isWord_7 : decode cX7_isWord 7 = .ok (.iconst 1, 1) := by decide +kernel
theorem dX7_isWord_8 : decode cX7_isWord 8 = .ok (.isub, 1) := by decide +kernel
theorem dX7_isWord_9 : decode cX7_isWord 9 = .ok (.i2l, 1) := by decide +kernel
theorem dX7_isWord_10 : decode cX7_isWord 10 = .ok (.invokestatic 84, 3) := by decide +kernel
theorem dX7_isWord_13 : decode cX7_isWord 13 = .ok (.ireturn, 1) := by decide +kernel
theorem dX7_emptyAll_0 : decode cX7_emptyAll 0 = .ok (.iconst 0, 1) := by decide +kernel
theorem dX7_emptyAll_1 : decode cX7_emptyAll 1 = .ok (.istore_n 1, 1) := by decide +kernel
theorem dX7_emptyAll_2 : decode cX7_emptyAll 2 = .ok (.iload_n 1, 1) := by decide +kernel
theorem dX7_emptyAll_3 : decode cX7_emptyAll 3 = .ok (.bipush 66, 2) := by decide +kernel
theorem dX7_emptyAll_5 : decode cX7_emptyAll 5 = .ok (.if_icmp .ge 16, 3) := by decide +kernel
theorem dX7_emptyAll_8 : decode cX7_emptyAll 8 = .ok (.aload_n 0, 1) := by decide +kernel
theorem dX7_emptyAll_9 : decode cX7_emptyAll 9 = .ok (.getfield 22, 3) := by decide +kernel
theorem dX7_emptyAll_12 : decode cX7_emptyAll 12 = .ok (.iload_n 1, 1) := by decide +kernel
theorem dX7_emptyAll_13 : decode cX7_emptyAll 13 = .ok (.iconst 0, 1) := by decide +kernel
theorem dX7_emptyAll_14 : decode cX7_emptyAll 14 = .ok (.iastore, 1) := by decide +kernel
theorem dX7_emptyAll_15 : decode cX7_emptyAll 15 = .ok (.iinc 1 1, 3) := by decide +kernel
theorem dX7_emptyAll_18 : decode cX7_emptyAll 18 = .ok (.goto (-16), 3) := by decide +kernel
theorem dX7_emptyAll_21 : decode cX7_emptyAll 21 = .ok (.iconst 0, 1) := by decide +kernel
theorem dX7_emptyAll_22 : decode cX7_emptyAll 22 = .ok (.istore_n 1, 1) := by decide +kernel
theorem dX7_emptyAll_23 : decode cX7_emptyAll 23 = .ok (.iload_n 1, 1) := by decide +kernel
theorem dX7_emptyAll_24 : decode cX7_emptyAll 24 = .ok (.bipush 9, 2) := by decide +kernel
theorem dX7_emptyAll_26 : decode cX7_emptyAll 26 = .ok (.if_icmp .ge 19, 3) := by decide +kernel
theorem dX7_emptyAll_29 : decode cX7_emptyAll 29 = .ok (.aload_n 0, 1) := by decide +kernel
theorem dX7_emptyAll_30 : decode cX7_emptyAll 30 = .ok (.getfield 22, 3) := by decide +kernel
theorem dX7_emptyAll_33 : decode cX7_emptyAll 33 = .ok (.bipush 14, 2) := by decide +kernel
theorem dX7_emptyAll_35 : decode cX7_emptyAll 35 = .ok (.iload_n 1, 1) := by decide +kernel
theorem dX7_emptyAll_36 : decode cX7_emptyAll 36 = .ok (.iadd, 1) := by decide +kernel
theorem dX7_emptyAll_37 : decode cX7_emptyAll 37 = .ok (.iconst (-1), 1) := by decide +kernel
theorem dX7_emptyAll_38 : decode cX7_emptyAll 38 = .ok (.iastore, 1) := by decide +kernel
theorem dX7_emptyAll_39 : decode cX7_emptyAll 39 = .ok (.iinc 1 1, 3) := by decide +kernel
theorem dX7_emptyAll_42 : decode cX7_emptyAll 42 = .ok (.goto (-19), 3) := by decide +kernel
theorem dX7_emptyAll_45 : decode cX7_emptyAll 45 = .ok (.return_, 1) := by decide +kernel
theorem dX7_feed_0 : decode cX7_feed 0 = .ok (.iload_n 1, 1) := by decide +kernel
theorem dX7_feed_1 : decode cX7_feed 1 = .ok (.i2l, 1) := by decide +kernel
theorem dX7_feed_2 : decode cX7_feed 2 = .ok (.lconst 0, 1) := by decide +kernel
theorem dX7_feed_3 : decode cX7_feed 3 = .ok (.ldc2_w 91, 3) := by decide +kernel
theorem dX7_feed_6 : decode cX7_feed 6 = .ok (.invokestatic 84, 3) := by decide +kernel
theorem dX7_feed_9 : decode cX7_feed 9 = .ok (.ifCond .ne 6, 3) := by decide +kernel
theorem dX7_feed_12 : decode cX7_feed 12 = .ok (.ldc 93, 2) := by decide +kernel
theorem dX7_feed_14 : decode cX7_feed 14 = .ok (.ireturn, 1) := by decide +kernel
theorem dX7_feed_15 : decode cX7_feed 15 = .ok (.aload_n 0, 1) := by decide +kernel
theorem dX7_feed_16 : decode cX7_feed 16 = .ok (.getfield 94, 3) := by decide +kernel
theorem dX7_feed_19 : decode cX7_feed 19 = .ok (.sipush 240, 3) := by decide +kernel
theorem dX7_feed_22 : decode cX7_feed 22 = .ok (.if_icmp .ne 6, 3) := by decide +kernel
theorem dX7_feed_25 : decode cX7_feed 25 = .ok (.ldc 97, 2) := by decide +kernel
theorem dX7_feed_27 : decode cX7_feed 27 = .ok (.ireturn, 1) := by decide +kernel
theorem dX7_feed_28 : decode cX7_feed 28 = .ok (.aload_n 0, 1) := by decide +kernel
theorem dX7_feed_29 : decode cX7_feed 29 = .ok (.getfield 25, 3) := by decide +kernel
theorem dX7_feed_32 : decode cX7_feed 32 = .ok (.aload_n 0, 1) := by decide +kernel
theorem dX7_feed_33 : decode cX7_feed 33 = .ok (.getfield 94, 3) := by decide +kernel
theorem dX7_feed_36 : decode cX7_feed 36 = .ok (.iload_n 1, 1) := by decide +kernel
theorem dX7_feed_37 : decode cX7_feed 37 = .ok (.iastore, 1) := by decide +kernel
theorem dX7_feed_38 : decode cX7_feed 38 = .ok (.aload_n 0, 1) := by decide +kernel
theorem dX7_feed_39 : decode cX7_feed 39 = .ok (.dup, 1) := by decide +kernel
theorem dX7_feed_40 : decode cX7_feed 40 = .ok (.getfield 94, 3) := by decide +kernel
theorem dX7_feed_43 : decode cX7_feed 43 = .ok (.iconst 1, 1) := by decide +kernel
theorem dX7_feed_44 : decode cX7_feed 44 = .ok (.iadd, 1) := by decide +kernel
theorem dX7_feed_45 : decode cX7_feed 45 = .ok (.putfield 94, 3) := by decide +kernel
theorem dX7_feed_48 : decode cX7_feed 48 = .ok (.aload_n 0, 1) := by decide +kernel
theorem dX7_feed_49 : decode cX7_feed 49 = .ok (.getfield 94, 3) := by decide +kernel
theorem dX7_feed_52 : decode cX7_feed 52 = .ok (.ireturn, 1) := by decide +kernel
theorem dX7_here_0 : decode cX7_here 0 = .ok (.aload_n 0, 1) := by decide +kernel
theorem dX7_here_1 : decode cX7_here 1 = .ok (.getfield 98, 3) := by decide +kernel
theorem dX7_here_4 : decode cX7_here 4 = .ok (.aload_n 0, 1) := by decide +kernel
theorem dX7_here_5 : decode cX7_here 5 = .ok (.getfield 94, 3) := by decide +kernel
theorem dX7_here_8 : decode cX7_here 8 = .ok (.if_icmp .ge 30, 3) := by decide +kernel
theorem dX7_here_11 : decode cX7_here 11 = .ok (.aload_n 0, 1) := by decide +kernel
theorem dX7_here_12 : decode cX7_here 12 = .ok (.getfield 25, 3) := by decide +kernel
theorem dX7_here_15 : decode cX7_here 15 = .ok (.aload_n 0, 1) := by decide +kernel
theorem dX7_here_16 : decode cX7_here 16 = .ok (.getfield 98, 3) := by decide +kernel
theorem dX7_here_19 : decode cX7_here 19 = .ok (.iaload, 1) := by decide +kernel
theorem dX7_here_20 : decode cX7_here 20 = .ok (.bipush 32, 2) := by decide +kernel
theorem dX7_here_22 : decode cX7_here 22 = .ok (.if_icmp .ne 16, 3) := by decide +kernel
theorem dX7_here_25 : decode cX7_here 25 = .ok (.aload_n 0, 1) := by decide +kernel
theorem dX7_here_26 : decode cX7_here 26 = .ok (.dup, 1) := by decide +kernel
theorem dX7_here_27 : decode cX7_here 27 = .ok (.getfield 98, 3) := by decide +kernel
theorem dX7_here_30 : decode cX7_here 30 = .ok (.iconst 1, 1) := by decide +kernel
theorem dX7_here_31 : decode cX7_here 31 = .ok (.iadd, 1) := by decide +kernel
theorem dX7_here_32 : decode cX7_here 32 = .ok (.putfield 98, 3) := by decide +kernel
theorem dX7_here_35 : decode cX7_here 35 = .ok (.goto (-35), 3) := by decide +kernel
theorem dX7_here_38 : decode cX7_here 38 = .ok (.aload_n 0, 1) := by decide +kernel
theorem dX7_here_39 : decode cX7_here 39 = .ok (.getfield 98, 3) := by decide +kernel
theorem dX7_here_42 : decode cX7_here 42 = .ok (.aload_n 0, 1) := by decide +kernel
theorem dX7_here_43 : decode cX7_here 43 = .ok (.getfield 94, 3) := by decide +kernel
theorem dX7_here_46 : decode cX7_here 46 = .ok (.if_icmp .ge 15, 3) := by decide +kernel
theorem dX7_here_49 : decode cX7_here 49 = .ok (.aload_n 0, 1) := by decide +kernel
theorem dX7_here_50 : decode cX7_here 50 = .ok (.getfield 25, 3) := by decide +kernel
theorem dX7_here_53 : decode cX7_here 53 = .ok (.aload_n 0, 1) := by decide +kernel
theorem dX7_here_54 : decode cX7_here 54 = .ok (.getfield 98, 3) := by decide +kernel
theorem dX7_here_57 : decode cX7_here 57 = .ok (.iaload, 1) := by decide +kernel
theorem dX7_here_58 : decode cX7_here 58 = .ok (.goto 4, 3) := by decide +kernel
theorem dX7_here_61 : decode cX7_here 61 = .ok (.iconst (-1), 1) := by decide +kernel
theorem dX7_here_62 : decode cX7_here 62 = .ok (.ireturn, 1) := by decide +kernel
theorem dX7_fails_0 : decode cX7_fails 0 = .ok (.aload_n 0, 1) := by decide +kernel
theorem dX7_fails_1 : decode cX7_fails 1 = .ok (.iload_n 2, 1) := by decide +kernel
theorem dX7_fails_2 : decode cX7_fails 2 = .ok (.putfield 28, 3) := by decide +kernel
theorem dX7_fails_5 : decode cX7_fails 5 = .ok (.iload_n 1, 1) := by decide +kernel
theorem dX7_fails_6 : decode cX7_fails 6 = .ok (.ireturn, 1) := by decide +kernel
theorem dX7_takeNumber_0 : decode cX7_takeNumber 0 = .ok (.aload_n 0, 1) := by decide +kernel
theorem dX7_takeNumber_1 : decode cX7_takeNumber 1 = .ok (.invokevirtual 101, 3) := by decide +kernel
theorem dX7_takeNumber_4 : decode cX7_takeNumber 4 = .ok (.istore_n 3, 1) := by decide +kernel
theorem dX7_takeNumber_5 : decode cX7_takeNumber 5 = .ok (.iload_n 3, 1) := by decide +kernel
theorem dX7_takeNumber_6 : decode cX7_takeNumber 6 = .ok (.i2l, 1) := by decide +kernel
theorem dX7_takeNumber_7 : decode cX7_takeNumber 7 = .ok (.ldc2_w 105, 3) := by decide +kernel
theorem dX7_takeNumber_10 : decode cX7_takeNumber 10 = .ok (.ldc2_w 107, 3) := by decide +kernel
theorem dX7_takeNumber_13 : decode cX7_takeNumber 13 = .ok (.invokestatic 84, 3) := by decide +kernel
theorem dX7_takeNumber_16 : decode cX7_takeNumber 16 = .ok (.ifCond .ne 13, 3) := by decide +kernel
theorem dX7_takeNumber_19 : decode cX7_takeNumber 19 = .ok (.aload_n 0, 1) := by decide +kernel
theorem dX7_takeNumber_20 : decode cX7_takeNumber 20 = .ok (.iconst 1, 1) := by decide +kernel
theorem dX7_takeNumber_21 : decode cX7_takeNumber 21 = .ok (.aload_n 0, 1) := by decide +kernel
theorem dX7_takeNumber_22 : decode cX7_takeNumber 22 = .ok (.getfield 98, 3) := by decide +kernel
theorem dX7_takeNumber_25 : decode cX7_takeNumber 25 = .ok (.invokevirtual 109, 3) := by decide +kernel
theorem dX7_takeNumber_28 : decode cX7_takeNumber 28 = .ok (.ireturn, 1) := by decide +kernel
theorem dX7_takeNumber_29 : decode cX7_takeNumber 29 = .ok (.aload_n 0, 1) := by decide +kernel
theorem dX7_takeNumber_30 : decode cX7_takeNumber 30 = .ok (.aload_n 0, 1) := by decide +kernel
theorem dX7_takeNumber_31 : decode cX7_takeNumber 31 = .ok (.getfield 98, 3) := by decide +kernel
theorem dX7_takeNumber_34 : decode cX7_takeNumber 34 = .ok (.putfield 113, 3) := by decide +kernel
theorem dX7_takeNumber_37 : decode cX7_takeNumber 37 = .ok (.aload_n 0, 1) := by decide +kernel
theorem dX7_takeNumber_38 : decode cX7_takeNumber 38 = .ok (.iconst 0, 1) := by decide +kernel
theorem dX7_takeNumber_39 : decode cX7_takeNumber 39 = .ok (.putfield 116, 3) := by decide +kernel
theorem dX7_takeNumber_42 : decode cX7_takeNumber 42 = .ok (.aload_n 0, 1) := by decide +kernel
theorem dX7_takeNumber_43 : decode cX7_takeNumber 43 = .ok (.getfield 98, 3) := by decide +kernel
theorem dX7_takeNumber_46 : decode cX7_takeNumber 46 = .ok (.aload_n 0, 1) := by decide +kernel
theorem dX7_takeNumber_47 : decode cX7_takeNumber 47 = .ok (.getfield 94, 3) := by decide +kernel
theorem dX7_takeNumber_50 : decode cX7_takeNumber 50 = .ok (.if_icmp .ge 79, 3) := by decide +kernel
theorem dX7_takeNumber_53 : decode cX7_takeNumber 53 = .ok (.aload_n 0, 1) := by decide +kernel
theorem dX7_takeNumber_54 : decode cX7_takeNumber 54 = .ok (.getfield 25, 3) := by decide +kernel
theorem dX7_takeNumber_57 : decode cX7_takeNumber 57 = .ok (.aload_n 0, 1) := by decide +kernel
theorem dX7_takeNumber_58 : decode cX7_takeNumber 58 = .ok (.getfield 98, 3) := by decide +kernel
theorem dX7_takeNumber_61 : decode cX7_takeNumber 61 = .ok (.iaload, 1) := by decide +kernel
theorem dX7_takeNumber_62 : decode cX7_takeNumber 62 = .ok (.i2l, 1) := by decide +kernel
theorem dX7_takeNumber_63 : decode cX7_takeNumber 63 = .ok (.ldc2_w 105, 3) := by decide +kernel
theorem dX7_takeNumber_66 : decode cX7_takeNumber 66 = .ok (.ldc2_w 107, 3) := by decide +kernel
theorem dX7_takeNumber_69 : decode cX7_takeNumber 69 = .ok (.invokestatic 84, 3) := by decide +kernel
theorem dX7_takeNumber_72 : decode cX7_takeNumber 72 = .ok (.ifCond .eq 57, 3) := by decide +kernel
theorem dX7_takeNumber_75 : decode cX7_takeNumber 75 = .ok (.aload_n 0, 1) := by decide +kernel
theorem dX7_takeNumber_76 : decode cX7_takeNumber 76 = .ok (.aload_n 0, 1) := by decide +kernel
theorem dX7_takeNumber_77 : decode cX7_takeNumber 77 = .ok (.getfield 116, 3) := by decide +kernel
theorem dX7_takeNumber_80 : decode cX7_takeNumber 80 = .ok (.sipush 10000, 3) := by decide +kernel
theorem dX7_takeNumber_83 : decode cX7_takeNumber 83 = .ok (.if_icmp .le 10, 3) := by decide +kernel
theorem dX7_takeNumber_86 : decode cX7_takeNumber 86 = .ok (.aload_n 0, 1) := by decide +kernel
theorem dX7_takeNumber_87 : decode cX7_takeNumber 87 = .ok (.getfield 116, 3) := by decide +kernel
theorem dX7_takeNumber_90 : decode cX7_takeNumber 90 = .ok (.goto 23, 3) := by decide +kernel
theorem dX7_takeNumber_93 : decode cX7_takeNumber 93 = .ok (.bipush 10, 2) := by decide +kernel
theorem dX7_takeNumber_95 : decode cX7_takeNumber 95 = .ok (.aload_n 0, 1) := by decide +kernel
theorem dX7_takeNumber_96 : decode cX7_takeNumber 96 = .ok (.getfield 116, 3) := by decide +kernel
theorem dX7_takeNumber_99 : decode cX7_takeNumber 99 = .ok (.imul, 1) := by decide +kernel
theorem dX7_takeNumber_100 : decode cX7_takeNumber 100 = .ok (.aload_n 0, 1) := by decide +kernel
theorem dX7_takeNumber_101 : decode cX7_takeNumber 101 = .ok (.getfield 25, 3) := by decide +kernel
theorem dX7_takeNumber_104 : decode cX7_takeNumber 104 = .ok (.aload_n 0, 1) := by decide +kernel
theorem dX7_takeNumber_105 : decode cX7_takeNumber 105 = .ok (.getfield 98, 3) := by decide +kernel
theorem dX7_takeNumber_108 : decode cX7_takeNumber 108 = .ok (.iaload, 1) := by decide +kernel
theorem dX7_takeNumber_109 : decode cX7_takeNumber 109 = .ok (.iadd, 1) := by decide +kernel
theorem dX7_takeNumber_110 : decode cX7_takeNumber 110 = .ok (.bipush 48, 2) := by decide +kernel
theorem dX7_takeNumber_112 : decode cX7_takeNumber 112 = .ok (.isub, 1) := by decide +kernel
theorem dX7_takeNumber_113 : decode cX7_takeNumber 113 = .ok (.putfield 116, 3) := by decide +kernel
theorem dX7_takeNumber_116 : decode cX7_takeNumber 116 = .ok (.aload_n 0, 1) := by decide +kernel
theorem dX7_takeNumber_117 : decode cX7_takeNumber 117 = .ok (.dup, 1) := by decide +kernel
theorem dX7_takeNumber_118 : decode cX7_takeNumber 118 = .ok (.getfield 98, 3) := by decide +kernel
theorem dX7_takeNumber_121 : decode cX7_takeNumber 121 = .ok (.iconst 1, 1) := by decide +kernel
theorem dX7_takeNumber_122 : decode cX7_takeNumber 122 = .ok (.iadd, 1) := by decide +kernel
theorem dX7_takeNumber_123 : decode cX7_takeNumber 123 = .ok (.putfield 98, 3) := by decide +kernel
theorem dX7_takeNumber_126 : decode cX7_takeNumber 126 = .ok (.goto (-84), 3) := by decide +kernel
theorem dX7_takeNumber_129 : decode cX7_takeNumber 129 = .ok (.aload_n 0, 1) := by decide +kernel
theorem dX7_takeNumber_130 : decode cX7_takeNumber 130 = .ok (.getfield 98, 3) := by decide +kernel
theorem dX7_takeNumber_133 : decode cX7_takeNumber 133 = .ok (.aload_n 0, 1) := by decide +kernel
theorem dX7_takeNumber_134 : decode cX7_takeNumber 134 = .ok (.getfield 113, 3) := by decide +kernel
theorem dX7_takeNumber_137 : decode cX7_takeNumber 137 = .ok (.isub, 1) := by decide +kernel
theorem dX7_takeNumber_138 : decode cX7_takeNumber 138 = .ok (.iconst 3, 1) := by decide +kernel
theorem dX7_takeNumber_139 : decode cX7_takeNumber 139 = .ok (.if_icmp .gt 18, 3) := by decide +kernel
theorem dX7_takeNumber_142 : decode cX7_takeNumber 142 = .ok (.aload_n 0, 1) := by decide +kernel
theorem dX7_takeNumber_143 : decode cX7_takeNumber 143 = .ok (.getfield 116, 3) := by decide +kernel
theorem dX7_takeNumber_146 : decode cX7_takeNumber 146 = .ok (.i2l, 1) := by decide +kernel
theorem dX7_takeNumber_147 : decode cX7_takeNumber 147 = .ok (.iload_n 1, 1) := by decide +kernel
theorem dX7_takeNumber_148 : decode cX7_takeNumber 148 = .ok (.i2l, 1) := by decide +kernel
theorem dX7_takeNumber_149 : decode cX7_takeNumber 149 = .ok (.iload_n 2, 1) := by decide +kernel
theorem dX7_takeNumber_150 : decode cX7_takeNumber 150 = .ok (.i2l, 1) := by decide +kernel
theorem dX7_takeNumber_151 : decode cX7_takeNumber 151 = .ok (.invokestatic 84, 3) := by decide +kernel
theorem dX7_takeNumber_154 : decode cX7_takeNumber 154 = .ok (.ifCond .ne 15, 3) := by decide +kernel
theorem dX7_takeNumber_157 : decode cX7_takeNumber 157 = .ok (.aload_n 0, 1) := by decide +kernel
theorem dX7_takeNumber_158 : decode cX7_takeNumber 158 = .ok (.iconst 2, 1) := by decide +kernel
theorem dX7_takeNumber_159 : decode cX7_takeNumber 159 = .ok (.aload_n 0, 1) := by decide +kernel
theorem dX7_takeNumber_160 : decode cX7_takeNumber 160 = .ok (.getfield 113, 3) := by decide +kernel
theorem dX7_takeNumber_163 : decode cX7_takeNumber 163 = .ok (.invokevirtual 109, 3) := by decide +kernel
theorem dX7_takeNumber_166 : decode cX7_takeNumber 166 = .ok (.goto 4, 3) := by decide +kernel
theorem dX7_takeNumber_169 : decode cX7_takeNumber 169 = .ok (.iconst 0, 1) := by decide +kernel
theorem dX7_takeNumber_170 : decode cX7_takeNumber 170 = .ok (.ireturn, 1) := by decide +kernel
theorem dX7_into_0 : decode cX7_into 0 = .ok (.aload_n 0, 1) := by decide +kernel
theorem dX7_into_1 : decode cX7_into 1 = .ok (.iload_n 3, 1) := by decide +kernel
theorem dX7_into_2 : decode cX7_into 2 = .ok (.iload 4, 2) := by decide +kernel
theorem dX7_into_4 : decode cX7_into 4 = .ok (.invokevirtual 119, 3) := by decide +kernel
theorem dX7_into_7 : decode cX7_into 7 = .ok (.istore 5, 2) := by decide +kernel
theorem dX7_into_9 : decode cX7_into 9 = .ok (.aload_n 1, 1) := by decide +kernel
theorem dX7_into_10 : decode cX7_into 10 = .ok (.iload_n 2, 1) := by decide +kernel
theorem dX7_into_11 : decode cX7_into 11 = .ok (.aload_n 0, 1) := by decide +kernel
theorem dX7_into_12 : decode cX7_into 12 = .ok (.getfield 116, 3) := by decide +kernel
theorem dX7_into_15 : decode cX7_into 15 = .ok (.iastore, 1) := by decide +kernel
theorem dX7_into_16 : decode cX7_into 16 = .ok (.iload 5, 2) := by decide +kernel
theorem dX7_into_18 : decode cX7_into 18 = .ok (.ireturn, 1) := by decide +kernel
theorem dX7_takeBeck_0 : decode cX7_takeBeck 0 = .ok (.aload_n 0, 1) := by decide +kernel
theorem dX7_takeBeck_1 : decode cX7_takeBeck 1 = .ok (.iconst 2, 1) := by decide +kernel
theorem dX7_takeBeck_2 : decode cX7_takeBeck 2 = .ok (.bipush 9, 2) := by decide +kernel
theorem dX7_takeBeck_4 : decode cX7_takeBeck 4 = .ok (.invokevirtual 119, 3) := by decide +kernel
theorem dX7_takeBeck_7 : decode cX7_takeBeck 7 = .ok (.istore_n 1, 1) := by decide +kernel
theorem dX7_takeBeck_8 : decode cX7_takeBeck 8 = .ok (.aload_n 0, 1) := by decide +kernel
theorem dX7_takeBeck_9 : decode cX7_takeBeck 9 = .ok (.aload_n 0, 1) := by decide +kernel
theorem dX7_takeBeck_10 : decode cX7_takeBeck 10 = .ok (.getfield 116, 3) := by decide +kernel
theorem dX7_takeBeck_13 : decode cX7_takeBeck 13 = .ok (.putfield 122, 3) := by decide +kernel
theorem dX7_takeBeck_16 : decode cX7_takeBeck 16 = .ok (.aload_n 0, 1) := by decide +kernel
theorem dX7_takeBeck_17 : decode cX7_takeBeck 17 = .ok (.iconst 1, 1) := by decide +kernel
theorem dX7_takeBeck_18 : decode cX7_takeBeck 18 = .ok (.putfield 125, 3) := by decide +kernel
theorem dX7_takeBeck_21 : decode cX7_takeBeck 21 = .ok (.iload_n 1, 1) := by decide +kernel
theorem dX7_takeBeck_22 : decode cX7_takeBeck 22 = .ok (.ifCond .le 7, 3) := by decide +kernel
theorem dX7_takeBeck_25 : decode cX7_takeBeck 25 = .ok (.iload_n 1, 1) := by decide +kernel
theorem dX7_takeBeck_26 : decode cX7_takeBeck 26 = .ok (.goto 10, 3) := by decide +kernel
theorem dX7_takeBeck_29 : decode cX7_takeBeck 29 = .ok (.aload_n 0, 1) := by decide +kernel
theorem dX7_takeBeck_30 : decode cX7_takeBeck 30 = .ok (.iconst 0, 1) := by decide +kernel
theorem dX7_takeBeck_31 : decode cX7_takeBeck 31 = .ok (.bipush 9, 2) := by decide +kernel
theorem dX7_takeBeck_33 : decode cX7_takeBeck 33 = .ok (.invokevirtual 119, 3) := by decide +kernel
theorem dX7_takeBeck_36 : decode cX7_takeBeck 36 = .ok (.istore_n 1, 1) := by decide +kernel
theorem dX7_takeBeck_37 : decode cX7_takeBeck 37 = .ok (.aload_n 0, 1) := by decide +kernel
theorem dX7_takeBeck_38 : decode cX7_takeBeck 38 = .ok (.aload_n 0, 1) := by decide +kernel
theorem dX7_takeBeck_39 : decode cX7_takeBeck 39 = .ok (.getfield 116, 3) := by decide +kernel
theorem dX7_takeBeck_42 : decode cX7_takeBeck 42 = .ok (.putfield 128, 3) := by decide +kernel
theorem dX7_takeBeck_45 : decode cX7_takeBeck 45 = .ok (.iload_n 1, 1) := by decide +kernel
theorem dX7_takeBeck_46 : decode cX7_takeBeck 46 = .ok (.ireturn, 1) := by decide +kernel
theorem dX7_takeFarm_0 : decode cX7_takeFarm 0 = .ok (.aload_n 0, 1) := by decide +kernel
theorem dX7_takeFarm_1 : decode cX7_takeFarm 1 = .ok (.getfield 125, 3) := by decide +kernel
theorem dX7_takeFarm_4 : decode cX7_takeFarm 4 = .ok (.istore_n 1, 1) := by decide +kernel
theorem dX7_takeFarm_5 : decode cX7_takeFarm 5 = .ok (.aload_n 0, 1) := by decide +kernel
theorem dX7_takeFarm_6 : decode cX7_takeFarm 6 = .ok (.aload_n 0, 1) := by decide +kernel
theorem dX7_takeFarm_7 : decode cX7_takeFarm 7 = .ok (.getfield 32, 3) := by decide +kernel
theorem dX7_takeFarm_10 : decode cX7_takeFarm 10 = .ok (.iload_n 1, 1) := by decide +kernel
theorem dX7_takeFarm_11 : decode cX7_takeFarm 11 = .ok (.iconst 0, 1) := by decide +kernel
theorem dX7_takeFarm_12 : decode cX7_takeFarm 12 = .ok (.iload_n 1, 1) := by decide +kernel
theorem dX7_takeFarm_13 : decode cX7_takeFarm 13 = .ok (.iconst 1, 1) := by decide +kernel
theorem dX7_takeFarm_14 : decode cX7_takeFarm 14 = .ok (.isub, 1) := by decide +kernel
theorem dX7_takeFarm_15 : decode cX7_takeFarm 15 = .ok (.invokevirtual 131, 3) := by decide +kernel
theorem dX7_takeFarm_18 : decode cX7_takeFarm 18 = .ok (.istore_n 2, 1) := by decide +kernel
theorem dX7_takeFarm_19 : decode cX7_takeFarm 19 = .ok (.aload_n 0, 1) := by decide +kernel
theorem dX7_takeFarm_20 : decode cX7_takeFarm 20 = .ok (.dup, 1) := by decide +kernel
theorem dX7_takeFarm_21 : decode cX7_takeFarm 21 = .ok (.getfield 125, 3) := by decide +kernel
theorem dX7_takeFarm_24 : decode cX7_takeFarm 24 = .ok (.iconst 1, 1) := by decide +kernel
theorem dX7_takeFarm_25 : decode cX7_takeFarm 25 = .ok (.iadd, 1) := by decide +kernel
theorem dX7_takeFarm_26 : decode cX7_takeFarm 26 = .ok (.putfield 125, 3) := by decide +kernel
theorem dX7_takeFarm_29 : decode cX7_takeFarm 29 = .ok (.iload_n 2, 1) := by decide +kernel
theorem dX7_takeFarm_30 : decode cX7_takeFarm 30 = .ok (.ifCond .le 7, 3) := by decide +kernel
theorem dX7_takeFarm_33 : decode cX7_takeFarm 33 = .ok (.iload_n 2, 1) := by decide +kernel
theorem dX7_takeFarm_34 : decode cX7_takeFarm 34 = .ok (.goto 15, 3) := by decide +kernel
theorem dX7_takeFarm_37 : decode cX7_takeFarm 37 = .ok (.aload_n 0, 1) := by decide +kernel
theorem dX7_takeFarm_38 : decode cX7_takeFarm 38 = .ok (.aload_n 0, 1) := by decide +kernel
theorem dX7_takeFarm_39 : decode cX7_takeFarm 39 = .ok (.getfield 35, 3) := by decide +kernel
theorem dX7_takeFarm_42 : decode cX7_takeFarm 42 = .ok (.iload_n 1, 1) := by decide +kernel
theorem dX7_takeFarm_43 : decode cX7_takeFarm 43 = .ok (.iconst 1, 1) := by decide +kernel
theorem dX7_takeFarm_44 : decode cX7_takeFarm 44 = .ok (.bipush 9, 2) := by decide +kernel
theorem dX7_takeFarm_46 : decode cX7_takeFarm 46 = .ok (.invokevirtual 131, 3) := by decide +kernel
theorem dX7_takeFarm_49 : decode cX7_takeFarm 49 = .ok (.istore_n 2, 1) := by decide +kernel
theorem dX7_takeFarm_50 : decode cX7_takeFarm 50 = .ok (.iload_n 2, 1) := by decide +kernel
theorem dX7_takeFarm_51 : decode cX7_takeFarm 51 = .ok (.ifCond .le 7, 3) := by decide +kernel
theorem dX7_takeFarm_54 : decode cX7_takeFarm 54 = .ok (.iload_n 2, 1) := by decide +kernel
theorem dX7_takeFarm_55 : decode cX7_takeFarm 55 = .ok (.goto 14, 3) := by decide +kernel
theorem dX7_takeFarm_58 : decode cX7_takeFarm 58 = .ok (.aload_n 0, 1) := by decide +kernel
theorem dX7_takeFarm_59 : decode cX7_takeFarm 59 = .ok (.aload_n 0, 1) := by decide +kernel
theorem dX7_takeFarm_60 : decode cX7_takeFarm 60 = .ok (.getfield 38, 3) := by decide +kernel
theorem dX7_takeFarm_63 : decode cX7_takeFarm 63 = .ok (.iload_n 1, 1) := by decide +kernel
theorem dX7_takeFarm_64 : decode cX7_takeFarm 64 = .ok (.iconst 0, 1) := by decide +kernel
theorem dX7_takeFarm_65 : decode cX7_takeFarm 65 = .ok (.iconst 4, 1) := by decide +kernel
theorem dX7_takeFarm_66 : decode cX7_takeFarm 66 = .ok (.invokevirtual 131, 3) := by decide +kernel
theorem dX7_takeFarm_69 : decode cX7_takeFarm 69 = .ok (.istore_n 2, 1) := by decide +kernel
theorem dX7_takeFarm_70 : decode cX7_takeFarm 70 = .ok (.iload_n 2, 1) := by decide +kernel
theorem dX7_takeFarm_71 : decode cX7_takeFarm 71 = .ok (.ifCond .le 7, 3) := by decide +kernel
theorem dX7_takeFarm_74 : decode cX7_takeFarm 74 = .ok (.iload_n 2, 1) := by decide +kernel
theorem dX7_takeFarm_75 : decode cX7_takeFarm 75 = .ok (.goto 19, 3) := by decide +kernel
theorem dX7_takeFarm_78 : decode cX7_takeFarm 78 = .ok (.aload_n 0, 1) := by decide +kernel
theorem dX7_takeFarm_79 : decode cX7_takeFarm 79 = .ok (.aload_n 0, 1) := by decide +kernel
theorem dX7_takeFarm_80 : decode cX7_takeFarm 80 = .ok (.getfield 41, 3) := by decide +kernel
theorem dX7_takeFarm_83 : decode cX7_takeFarm 83 = .ok (.iload_n 1, 1) := by decide +kernel
theorem dX7_takeFarm_84 : decode cX7_takeFarm 84 = .ok (.iconst 0, 1) := by decide +kernel
theorem dX7_takeFarm_85 : decode cX7_takeFarm 85 = .ok (.aload_n 0, 1) := by decide +kernel
theorem dX7_takeFarm_86 : decode cX7_takeFarm 86 = .ok (.getfield 122, 3) := by decide +kernel
theorem dX7_takeFarm_89 : decode cX7_takeFarm 89 = .ok (.iconst 1, 1) := by decide +kernel
theorem dX7_takeFarm_90 : decode cX7_takeFarm 90 = .ok (.isub, 1) := by decide +kernel
theorem dX7_takeFarm_91 : decode cX7_takeFarm 91 = .ok (.invokevirtual 131, 3) := by decide +kernel
theorem dX7_takeFarm_94 : decode cX7_takeFarm 94 = .ok (.ireturn, 1) := by decide +kernel
theorem dX7_takeClause_0 : decode cX7_takeClause 0 = .ok (.aload_n 0, 1) := by decide +kernel
theorem dX7_takeClause_1 : decode cX7_takeClause 1 = .ok (.invokevirtual 101, 3) := by decide +kernel
theorem dX7_takeClause_4 : decode cX7_takeClause 4 = .ok (.istore_n 1, 1) := by decide +kernel
theorem dX7_takeClause_5 : decode cX7_takeClause 5 = .ok (.iload_n 1, 1) := by decide +kernel
theorem dX7_takeClause_6 : decode cX7_takeClause 6 = .ok (.bipush 98, 2) := by decide +kernel
theorem dX7_takeClause_8 : decode cX7_takeClause 8 = .ok (.if_icmp .ne 7, 3) := by decide +kernel
theorem dX7_takeClause_11 : decode cX7_takeClause 11 = .ok (.iconst 0, 1) := by decide +kernel
theorem dX7_takeClause_12 : decode cX7_takeClause 12 = .ok (.goto 14, 3) := by decide +kernel
theorem dX7_takeClause_15 : decode cX7_takeClause 15 = .ok (.iload_n 1, 1) := by decide +kernel
theorem dX7_takeClause_16 : decode cX7_takeClause 16 = .ok (.bipush 102, 2) := by decide +kernel
theorem dX7_takeClause_18 : decode cX7_takeClause 18 = .ok (.if_icmp .ne 7, 3) := by decide +kernel
theorem dX7_takeClause_21 : decode cX7_takeClause 21 = .ok (.iconst 1, 1) := by decide +kernel
theorem dX7_takeClause_22 : decode cX7_takeClause 22 = .ok (.goto 4, 3) := by decide +kernel
theorem dX7_takeClause_25 : decode cX7_takeClause 25 = .ok (.iconst (-1), 1) := by decide +kernel
theorem dX7_takeClause_26 : decode cX7_takeClause 26 = .ok (.istore_n 2, 1) := by decide +kernel
theorem dX7_takeClause_27 : decode cX7_takeClause 27 = .ok (.iload_n 2, 1) := by decide +kernel
theorem dX7_takeClause_28 : decode cX7_takeClause 28 = .ok (.ifCond .lt 15, 3) := by decide +kernel
theorem dX7_takeClause_31 : decode cX7_takeClause 31 = .ok (.iload_n 2, 1) := by decide +kernel
theorem dX7_takeClause_32 : decode cX7_takeClause 32 = .ok (.iconst 1, 1) := by decide +kernel
theorem dX7_takeClause_33 : decode cX7_takeClause 33 = .ok (.if_icmp .ne 20, 3) := by decide +kernel
theorem dX7_takeClause_36 : decode cX7_takeClause 36 = .ok (.aload_n 0, 1) := by decide +kernel
theorem dX7_takeClause_37 : decode cX7_takeClause 37 = .ok (.getfield 125, 3) := by decide +kernel
theorem dX7_takeClause_40 : decode cX7_takeClause 40 = .ok (.ifCond .ne 13, 3) := by decide +kernel
theorem dX7_takeClause_43 : decode cX7_takeClause 43 = .ok (.aload_n 0, 1) := by decide +kernel
theorem dX7_takeClause_44 : decode cX7_takeClause 44 = .ok (.iconst 1, 1) := by decide +kernel
theorem dX7_takeClause_45 : decode cX7_takeClause 45 = .ok (.aload_n 0, 1) := by decide +kernel
theorem dX7_takeClause_46 : decode cX7_takeClause 46 = .ok (.getfield 98, 3) := by decide +kernel
theorem dX7_takeClause_49 : decode cX7_takeClause 49 = .ok (.invokevirtual 109, 3) := by decide +kernel
theorem dX7_takeClause_52 : decode cX7_takeClause 52 = .ok (.ireturn, 1) := by decide +kernel
theorem dX7_takeClause_53 : decode cX7_takeClause 53 = .ok (.iload_n 2, 1) := by decide +kernel
theorem dX7_takeClause_54 : decode cX7_takeClause 54 = .ok (.ifCond .ne 18, 3) := by decide +kernel
theorem dX7_takeClause_57 : decode cX7_takeClause 57 = .ok (.aload_n 0, 1) := by decide +kernel
theorem dX7_takeClause_58 : decode cX7_takeClause 58 = .ok (.getfield 125, 3) := by decide +kernel
theorem dX7_takeClause_61 : decode cX7_takeClause 61 = .ok (.ifCond .le 7, 3) := by decide +kernel
theorem dX7_takeClause_64 : decode cX7_takeClause 64 = .ok (.iconst 1, 1) := by decide +kernel
theorem dX7_takeClause_65 : decode cX7_takeClause 65 = .ok (.goto 21, 3) := by decide +kernel
theorem dX7_takeClause_68 : decode cX7_takeClause 68 = .ok (.iconst 0, 1) := by decide +kernel
theorem dX7_takeClause_69 : decode cX7_takeClause 69 = .ok (.goto 17, 3) := by decide +kernel
theorem dX7_takeClause_72 : decode cX7_takeClause 72 = .ok (.aload_n 0, 1) := by decide +kernel
theorem dX7_takeClause_73 : decode cX7_takeClause 73 = .ok (.getfield 125, 3) := by decide +kernel
theorem dX7_takeClause_76 : decode cX7_takeClause 76 = .ok (.bipush 9, 2) := by decide +kernel
theorem dX7_takeClause_78 : decode cX7_takeClause 78 = .ok (.if_icmp .ne 7, 3) := by decide +kernel
theorem dX7_takeClause_81 : decode cX7_takeClause 81 = .ok (.iconst 1, 1) := by decide +kernel
theorem dX7_takeClause_82 : decode cX7_takeClause 82 = .ok (.goto 4, 3) := by decide +kernel
theorem dX7_takeClause_85 : decode cX7_takeClause 85 = .ok (.iconst 0, 1) := by decide +kernel
theorem dX7_takeClause_86 : decode cX7_takeClause 86 = .ok (.istore_n 3, 1) := by decide +kernel
theorem dX7_takeClause_87 : decode cX7_takeClause 87 = .ok (.iload_n 3, 1) := by decide +kernel
theorem dX7_takeClause_88 : decode cX7_takeClause 88 = .ok (.ifCond .eq 13, 3) := by decide +kernel
theorem dX7_takeClause_91 : decode cX7_takeClause 91 = .ok (.aload_n 0, 1) := by decide +kernel
theorem dX7_takeClause_92 : decode cX7_takeClause 92 = .ok (.iconst 3, 1) := by decide +kernel
theorem dX7_takeClause_93 : decode cX7_takeClause 93 = .ok (.aload_n 0, 1) := by decide +kernel
theorem dX7_takeClause_94 : decode cX7_takeClause 94 = .ok (.getfield 98, 3) := by decide +kernel
theorem dX7_takeClause_97 : decode cX7_takeClause 97 = .ok (.invokevirtual 109, 3) := by decide +kernel
theorem dX7_takeClause_100 : decode cX7_takeClause 100 = .ok (.ireturn, 1) := by decide +kernel
theorem dX7_takeClause_101 : decode cX7_takeClause 101 = .ok (.aload_n 0, 1) := by decide +kernel
theorem dX7_takeClause_102 : decode cX7_takeClause 102 = .ok (.dup, 1) := by decide +kernel
theorem dX7_takeClause_103 : decode cX7_takeClause 103 = .ok (.getfield 98, 3) := by decide +kernel
theorem dX7_takeClause_106 : decode cX7_takeClause 106 = .ok (.iconst 1, 1) := by decide +kernel
theorem dX7_takeClause_107 : decode cX7_takeClause 107 = .ok (.iadd, 1) := by decide +kernel
theorem dX7_takeClause_108 : decode cX7_takeClause 108 = .ok (.putfield 98, 3) := by decide +kernel
theorem dX7_takeClause_111 : decode cX7_takeClause 111 = .ok (.iload_n 2, 1) := by decide +kernel
theorem dX7_takeClause_112 : decode cX7_takeClause 112 = .ok (.ifCond .ne 10, 3) := by decide +kernel
theorem dX7_takeClause_115 : decode cX7_takeClause 115 = .ok (.aload_n 0, 1) := by decide +kernel
theorem dX7_takeClause_116 : decode cX7_takeClause 116 = .ok (.invokevirtual 135, 3) := by decide +kernel
theorem dX7_takeClause_119 : decode cX7_takeClause 119 = .ok (.goto 7, 3) := by decide +kernel
theorem dX7_takeClause_122 : decode cX7_takeClause 122 = .ok (.aload_n 0, 1) := by decide +kernel
theorem dX7_takeClause_123 : decode cX7_takeClause 123 = .ok (.invokevirtual 138, 3) := by decide +kernel
theorem dX7_takeClause_126 : decode cX7_takeClause 126 = .ok (.istore 4, 2) := by decide +kernel
theorem dX7_takeClause_128 : decode cX7_takeClause 128 = .ok (.iload 4, 2) := by decide +kernel
theorem dX7_takeClause_130 : decode cX7_takeClause 130 = .ok (.ifCond .ne 22, 3) := by decide +kernel
theorem dX7_takeClause_133 : decode cX7_takeClause 133 = .ok (.aload_n 0, 1) := by decide +kernel
theorem dX7_takeClause_134 : decode cX7_takeClause 134 = .ok (.invokevirtual 101, 3) := by decide +kernel
theorem dX7_takeClause_137 : decode cX7_takeClause 137 = .ok (.bipush 59, 2) := by decide +kernel
theorem dX7_takeClause_139 : decode cX7_takeClause 139 = .ok (.if_icmp .eq 13, 3) := by decide +kernel
theorem dX7_takeClause_142 : decode cX7_takeClause 142 = .ok (.aload_n 0, 1) := by decide +kernel
theorem dX7_takeClause_143 : decode cX7_takeClause 143 = .ok (.iconst 1, 1) := by decide +kernel
theorem dX7_takeClause_144 : decode cX7_takeClause 144 = .ok (.aload_n 0, 1) := by decide +kernel
theorem dX7_takeClause_145 : decode cX7_takeClause 145 = .ok (.getfield 98, 3) := by decide +kernel
theorem dX7_takeClause_148 : decode cX7_takeClause 148 = .ok (.invokevirtual 109, 3) := by decide +kernel
theorem dX7_takeClause_151 : decode cX7_takeClause 151 = .ok (.ireturn, 1) := by decide +kernel
theorem dX7_takeClause_152 : decode cX7_takeClause 152 = .ok (.aload_n 0, 1) := by decide +kernel
theorem dX7_takeClause_153 : decode cX7_takeClause 153 = .ok (.dup, 1) := by decide +kernel
theorem dX7_takeClause_154 : decode cX7_takeClause 154 = .ok (.getfield 98, 3) := by decide +kernel
theorem dX7_takeClause_157 : decode cX7_takeClause 157 = .ok (.iconst 1, 1) := by decide +kernel
theorem dX7_takeClause_158 : decode cX7_takeClause 158 = .ok (.iadd, 1) := by decide +kernel
theorem dX7_takeClause_159 : decode cX7_takeClause 159 = .ok (.putfield 98, 3) := by decide +kernel
theorem dX7_takeClause_162 : decode cX7_takeClause 162 = .ok (.iload 4, 2) := by decide +kernel
theorem dX7_takeClause_164 : decode cX7_takeClause 164 = .ok (.ireturn, 1) := by decide +kernel
theorem dX7_takeRead_0 : decode cX7_takeRead 0 = .ok (.aload_n 0, 1) := by decide +kernel
theorem dX7_takeRead_1 : decode cX7_takeRead 1 = .ok (.aload_n 0, 1) := by decide +kernel
theorem dX7_takeRead_2 : decode cX7_takeRead 2 = .ok (.getfield 125, 3) := by decide +kernel
theorem dX7_takeRead_5 : decode cX7_takeRead 5 = .ok (.ifCond .ne 7, 3) := by decide +kernel
theorem dX7_takeRead_8 : decode cX7_takeRead 8 = .ok (.iconst 0, 1) := by decide +kernel
theorem dX7_takeRead_9 : decode cX7_takeRead 9 = .ok (.goto 7, 3) := by decide +kernel
theorem dX7_takeRead_12 : decode cX7_takeRead 12 = .ok (.aload_n 0, 1) := by decide +kernel
theorem dX7_takeRead_13 : decode cX7_takeRead 13 = .ok (.getfield 122, 3) := by decide +kernel
theorem dX7_takeRead_16 : decode cX7_takeRead 16 = .ok (.putfield 88, 3) := by decide +kernel
theorem dX7_takeRead_19 : decode cX7_takeRead 19 = .ok (.aload_n 0, 1) := by decide +kernel
theorem dX7_takeRead_20 : decode cX7_takeRead 20 = .ok (.aload_n 0, 1) := by decide +kernel
theorem dX7_takeRead_21 : decode cX7_takeRead 21 = .ok (.getfield 125, 3) := by decide +kernel
theorem dX7_takeRead_24 : decode cX7_takeRead 24 = .ok (.putfield 81, 3) := by decide +kernel
theorem dX7_takeRead_27 : decode cX7_takeRead 27 = .ok (.aload_n 0, 1) := by decide +kernel
theorem dX7_takeRead_28 : decode cX7_takeRead 28 = .ok (.aload_n 0, 1) := by decide +kernel
theorem dX7_takeRead_29 : decode cX7_takeRead 29 = .ok (.getfield 125, 3) := by decide +kernel
theorem dX7_takeRead_32 : decode cX7_takeRead 32 = .ok (.ifCond .ne 7, 3) := by decide +kernel
theorem dX7_takeRead_35 : decode cX7_takeRead 35 = .ok (.iconst 0, 1) := by decide +kernel
theorem dX7_takeRead_36 : decode cX7_takeRead 36 = .ok (.goto 7, 3) := by decide +kernel
theorem dX7_takeRead_39 : decode cX7_takeRead 39 = .ok (.aload_n 0, 1) := by decide +kernel
theorem dX7_takeRead_40 : decode cX7_takeRead 40 = .ok (.getfield 128, 3) := by decide +kernel
theorem dX7_takeRead_43 : decode cX7_takeRead 43 = .ok (.putfield 141, 3) := by decide +kernel
theorem dX7_takeRead_46 : decode cX7_takeRead 46 = .ok (.aload_n 0, 1) := by decide +kernel
theorem dX7_takeRead_47 : decode cX7_takeRead 47 = .ok (.invokevirtual 78, 3) := by decide +kernel
theorem dX7_takeRead_50 : decode cX7_takeRead 50 = .ok (.iconst 1, 1) := by decide +kernel
theorem dX7_takeRead_51 : decode cX7_takeRead 51 = .ok (.istore_n 1, 1) := by decide +kernel
theorem dX7_takeRead_52 : decode cX7_takeRead 52 = .ok (.iload_n 1, 1) := by decide +kernel
theorem dX7_takeRead_53 : decode cX7_takeRead 53 = .ok (.aload_n 0, 1) := by decide +kernel
theorem dX7_takeRead_54 : decode cX7_takeRead 54 = .ok (.getfield 81, 3) := by decide +kernel
theorem dX7_takeRead_57 : decode cX7_takeRead 57 = .ok (.if_icmp .ge 71, 3) := by decide +kernel
theorem dX7_takeRead_60 : decode cX7_takeRead 60 = .ok (.aload_n 0, 1) := by decide +kernel
theorem dX7_takeRead_61 : decode cX7_takeRead 61 = .ok (.getfield 7, 3) := by decide +kernel
theorem dX7_takeRead_64 : decode cX7_takeRead 64 = .ok (.iload_n 1, 1) := by decide +kernel
theorem dX7_takeRead_65 : decode cX7_takeRead 65 = .ok (.aload_n 0, 1) := by decide +kernel
theorem dX7_takeRead_66 : decode cX7_takeRead 66 = .ok (.getfield 32, 3) := by decide +kernel
theorem dX7_takeRead_69 : decode cX7_takeRead 69 = .ok (.iload_n 1, 1) := by decide +kernel
theorem dX7_takeRead_70 : decode cX7_takeRead 70 = .ok (.iaload, 1) := by decide +kernel
theorem dX7_takeRead_71 : decode cX7_takeRead 71 = .ok (.iastore, 1) := by decide +kernel
theorem dX7_takeRead_72 : decode cX7_takeRead 72 = .ok (.aload_n 0, 1) := by decide +kernel
theorem dX7_takeRead_73 : decode cX7_takeRead 73 = .ok (.getfield 13, 3) := by decide +kernel
theorem dX7_takeRead_76 : decode cX7_takeRead 76 = .ok (.iload_n 1, 1) := by decide +kernel
theorem dX7_takeRead_77 : decode cX7_takeRead 77 = .ok (.aload_n 0, 1) := by decide +kernel
theorem dX7_takeRead_78 : decode cX7_takeRead 78 = .ok (.getfield 35, 3) := by decide +kernel
theorem dX7_takeRead_81 : decode cX7_takeRead 81 = .ok (.iload_n 1, 1) := by decide +kernel
theorem dX7_takeRead_82 : decode cX7_takeRead 82 = .ok (.iaload, 1) := by decide +kernel
theorem dX7_takeRead_83 : decode cX7_takeRead 83 = .ok (.iastore, 1) := by decide +kernel
theorem dX7_takeRead_84 : decode cX7_takeRead 84 = .ok (.aload_n 0, 1) := by decide +kernel
theorem dX7_takeRead_85 : decode cX7_takeRead 85 = .ok (.getfield 16, 3) := by decide +kernel
theorem dX7_takeRead_88 : decode cX7_takeRead 88 = .ok (.iload_n 1, 1) := by decide +kernel
theorem dX7_takeRead_89 : decode cX7_takeRead 89 = .ok (.aload_n 0, 1) := by decide +kernel
theorem dX7_takeRead_90 : decode cX7_takeRead 90 = .ok (.getfield 38, 3) := by decide +kernel
theorem dX7_takeRead_93 : decode cX7_takeRead 93 = .ok (.iload_n 1, 1) := by decide +kernel
theorem dX7_takeRead_94 : decode cX7_takeRead 94 = .ok (.iaload, 1) := by decide +kernel
theorem dX7_takeRead_95 : decode cX7_takeRead 95 = .ok (.iastore, 1) := by decide +kernel
theorem dX7_takeRead_96 : decode cX7_takeRead 96 = .ok (.aload_n 0, 1) := by decide +kernel
theorem dX7_takeRead_97 : decode cX7_takeRead 97 = .ok (.getfield 19, 3) := by decide +kernel
theorem dX7_takeRead_100 : decode cX7_takeRead 100 = .ok (.iload_n 1, 1) := by decide +kernel
theorem dX7_takeRead_101 : decode cX7_takeRead 101 = .ok (.aload_n 0, 1) := by decide +kernel
theorem dX7_takeRead_102 : decode cX7_takeRead 102 = .ok (.getfield 41, 3) := by decide +kernel
theorem dX7_takeRead_105 : decode cX7_takeRead 105 = .ok (.iload_n 1, 1) := by decide +kernel
theorem dX7_takeRead_106 : decode cX7_takeRead 106 = .ok (.iaload, 1) := by decide +kernel
theorem dX7_takeRead_107 : decode cX7_takeRead 107 = .ok (.iastore, 1) := by decide +kernel
theorem dX7_takeRead_108 : decode cX7_takeRead 108 = .ok (.aload_n 0, 1) := by decide +kernel
theorem dX7_takeRead_109 : decode cX7_takeRead 109 = .ok (.getfield 22, 3) := by decide +kernel
theorem dX7_takeRead_112 : decode cX7_takeRead 112 = .ok (.iconst 0, 1) := by decide +kernel
theorem dX7_takeRead_113 : decode cX7_takeRead 113 = .ok (.iload_n 1, 1) := by decide +kernel
theorem dX7_takeRead_114 : decode cX7_takeRead 114 = .ok (.iadd, 1) := by decide +kernel
theorem dX7_takeRead_115 : decode cX7_takeRead 115 = .ok (.aload_n 0, 1) := by decide +kernel
theorem dX7_takeRead_116 : decode cX7_takeRead 116 = .ok (.getfield 16, 3) := by decide +kernel
theorem dX7_takeRead_119 : decode cX7_takeRead 119 = .ok (.iload_n 1, 1) := by decide +kernel
theorem dX7_takeRead_120 : decode cX7_takeRead 120 = .ok (.iaload, 1) := by decide +kernel
theorem dX7_takeRead_121 : decode cX7_takeRead 121 = .ok (.iastore, 1) := by decide +kernel
theorem dX7_takeRead_122 : decode cX7_takeRead 122 = .ok (.iinc 1 1, 3) := by decide +kernel
theorem dX7_takeRead_125 : decode cX7_takeRead 125 = .ok (.goto (-73), 3) := by decide +kernel
theorem dX7_takeRead_128 : decode cX7_takeRead 128 = .ok (.aload_n 0, 1) := by decide +kernel
theorem dX7_takeRead_129 : decode cX7_takeRead 129 = .ok (.getfield 22, 3) := by decide +kernel
theorem dX7_takeRead_132 : decode cX7_takeRead 132 = .ok (.bipush 10, 2) := by decide +kernel
theorem dX7_takeRead_134 : decode cX7_takeRead 134 = .ok (.aload_n 0, 1) := by decide +kernel
theorem dX7_takeRead_135 : decode cX7_takeRead 135 = .ok (.getfield 141, 3) := by decide +kernel
theorem dX7_takeRead_138 : decode cX7_takeRead 138 = .ok (.iastore, 1) := by decide +kernel
theorem dX7_takeRead_139 : decode cX7_takeRead 139 = .ok (.return_, 1) := by decide +kernel
theorem dX7_dale_0 : decode cX7_dale 0 = .ok (.aload_n 0, 1) := by decide +kernel
theorem dX7_dale_1 : decode cX7_dale 1 = .ok (.iconst (-1), 1) := by decide +kernel
theorem dX7_dale_2 : decode cX7_dale 2 = .ok (.putfield 28, 3) := by decide +kernel
theorem dX7_dale_5 : decode cX7_dale 5 = .ok (.aload_n 0, 1) := by decide +kernel
theorem dX7_dale_6 : decode cX7_dale 6 = .ok (.iconst 0, 1) := by decide +kernel
theorem dX7_dale_7 : decode cX7_dale 7 = .ok (.putfield 98, 3) := by decide +kernel
theorem dX7_dale_10 : decode cX7_dale 10 = .ok (.aload_n 0, 1) := by decide +kernel
theorem dX7_dale_11 : decode cX7_dale 11 = .ok (.iconst 0, 1) := by decide +kernel
theorem dX7_dale_12 : decode cX7_dale 12 = .ok (.putfield 125, 3) := by decide +kernel
theorem dX7_dale_15 : decode cX7_dale 15 = .ok (.iconst 0, 1) := by decide +kernel
theorem dX7_dale_16 : decode cX7_dale 16 = .ok (.istore_n 1, 1) := by decide +kernel
theorem dX7_dale_17 : decode cX7_dale 17 = .ok (.iload_n 1, 1) := by decide +kernel
theorem dX7_dale_18 : decode cX7_dale 18 = .ok (.ifCond .ne 18, 3) := by decide +kernel
theorem dX7_dale_21 : decode cX7_dale 21 = .ok (.aload_n 0, 1) := by decide +kernel
theorem dX7_dale_22 : decode cX7_dale 22 = .ok (.invokevirtual 101, 3) := by decide +kernel
theorem dX7_dale_25 : decode cX7_dale 25 = .ok (.ifCond .lt 11, 3) := by decide +kernel
theorem dX7_dale_28 : decode cX7_dale 28 = .ok (.aload_n 0, 1) := by decide +kernel
theorem dX7_dale_29 : decode cX7_dale 29 = .ok (.invokevirtual 144, 3) := by decide +kernel
theorem dX7_dale_32 : decode cX7_dale 32 = .ok (.istore_n 1, 1) := by decide +kernel
theorem dX7_dale_33 : decode cX7_dale 33 = .ok (.goto (-16), 3) := by decide +kernel
theorem dX7_dale_36 : decode cX7_dale 36 = .ok (.aload_n 0, 1) := by decide +kernel
theorem dX7_dale_37 : decode cX7_dale 37 = .ok (.iconst 0, 1) := by decide +kernel
theorem dX7_dale_38 : decode cX7_dale 38 = .ok (.putfield 94, 3) := by decide +kernel
theorem dX7_dale_41 : decode cX7_dale 41 = .ok (.iload_n 1, 1) := by decide +kernel
theorem dX7_dale_42 : decode cX7_dale 42 = .ok (.ifCond .le 8, 3) := by decide +kernel
theorem dX7_dale_45 : decode cX7_dale 45 = .ok (.bipush (-10), 2) := by decide +kernel
theorem dX7_dale_47 : decode cX7_dale 47 = .ok (.iload_n 1, 1) := by decide +kernel
theorem dX7_dale_48 : decode cX7_dale 48 = .ok (.isub, 1) := by decide +kernel
theorem dX7_dale_49 : decode cX7_dale 49 = .ok (.ireturn, 1) := by decide +kernel
theorem dX7_dale_50 : decode cX7_dale 50 = .ok (.aload_n 0, 1) := by decide +kernel
theorem dX7_dale_51 : decode cX7_dale 51 = .ok (.invokevirtual 147, 3) := by decide +kernel
theorem dX7_dale_54 : decode cX7_dale 54 = .ok (.aload_n 0, 1) := by decide +kernel
theorem dX7_dale_55 : decode cX7_dale 55 = .ok (.iconst 0, 1) := by decide +kernel
theorem dX7_dale_56 : decode cX7_dale 56 = .ok (.putfield 150, 3) := by decide +kernel
theorem dX7_dale_59 : decode cX7_dale 59 = .ok (.aload_n 0, 1) := by decide +kernel
theorem dX7_dale_60 : decode cX7_dale 60 = .ok (.iconst 0, 1) := by decide +kernel
theorem dX7_dale_61 : decode cX7_dale 61 = .ok (.putfield 153, 3) := by decide +kernel
theorem dX7_dale_64 : decode cX7_dale 64 = .ok (.aload_n 0, 1) := by decide +kernel
theorem dX7_dale_65 : decode cX7_dale 65 = .ok (.iconst 0, 1) := by decide +kernel
theorem dX7_dale_66 : decode cX7_dale 66 = .ok (.putfield 156, 3) := by decide +kernel
theorem dX7_dale_69 : decode cX7_dale 69 = .ok (.aload_n 0, 1) := by decide +kernel
theorem dX7_dale_70 : decode cX7_dale 70 = .ok (.getfield 75, 3) := by decide +kernel
theorem dX7_dale_73 : decode cX7_dale 73 = .ok (.iconst 0, 1) := by decide +kernel
theorem dX7_dale_74 : decode cX7_dale 74 = .ok (.iconst 0, 1) := by decide +kernel
theorem dX7_dale_75 : decode cX7_dale 75 = .ok (.bastore, 1) := by decide +kernel
theorem dX7_dale_76 : decode cX7_dale 76 = .ok (.aload_n 0, 1) := by decide +kernel
theorem dX7_dale_77 : decode cX7_dale 77 = .ok (.getfield 75, 3) := by decide +kernel
theorem dX7_dale_80 : decode cX7_dale 80 = .ok (.iconst 1, 1) := by decide +kernel
theorem dX7_dale_81 : decode cX7_dale 81 = .ok (.iconst 0, 1) := by decide +kernel
theorem dX7_dale_82 : decode cX7_dale 82 = .ok (.bastore, 1) := by decide +kernel
theorem dX7_dale_83 : decode cX7_dale 83 = .ok (.aload_n 0, 1) := by decide +kernel
theorem dX7_dale_84 : decode cX7_dale 84 = .ok (.getfield 81, 3) := by decide +kernel
theorem dX7_dale_87 : decode cX7_dale 87 = .ok (.ireturn, 1) := by decide +kernel
theorem dX7_fault_0 : decode cX7_fault 0 = .ok (.aload_n 0, 1) := by decide +kernel
theorem dX7_fault_1 : decode cX7_fault 1 = .ok (.getfield 28, 3) := by decide +kernel
theorem dX7_fault_4 : decode cX7_fault 4 = .ok (.ireturn, 1) := by decide +kernel
theorem dX7_garbleBy_0 : decode cX7_garbleBy 0 = .ok (.iload_n 1, 1) := by decide +kernel
theorem dX7_garbleBy_1 : decode cX7_garbleBy 1 = .ok (.tableswitch 71 1 4 #[31, 40, 51, 60], 31) := by decide +kernel
theorem dX7_garbleBy_32 : decode cX7_garbleBy 32 = .ok (.iload_n 3, 1) := by decide +kernel
theorem dX7_garbleBy_33 : decode cX7_garbleBy 33 = .ok (.iload_n 2, 1) := by decide +kernel
theorem dX7_garbleBy_34 : decode cX7_garbleBy 34 = .ok (.iadd, 1) := by decide +kernel
theorem dX7_garbleBy_35 : decode cX7_garbleBy 35 = .ok (.aload_n 0, 1) := by decide +kernel
theorem dX7_garbleBy_36 : decode cX7_garbleBy 36 = .ok (.getfield 88, 3) := by decide +kernel
theorem dX7_garbleBy_39 : decode cX7_garbleBy 39 = .ok (.irem, 1) := by decide +kernel
theorem dX7_garbleBy_40 : decode cX7_garbleBy 40 = .ok (.ireturn, 1) := by decide +kernel
theorem dX7_garbleBy_41 : decode cX7_garbleBy 41 = .ok (.iload_n 3, 1) := by decide +kernel
theorem dX7_garbleBy_42 : decode cX7_garbleBy 42 = .ok (.iload_n 2, 1) := by decide +kernel
theorem dX7_garbleBy_43 : decode cX7_garbleBy 43 = .ok (.if_icmp .le 7, 3) := by decide +kernel
theorem dX7_garbleBy_46 : decode cX7_garbleBy 46 = .ok (.iload_n 2, 1) := by decide +kernel
theorem dX7_garbleBy_47 : decode cX7_garbleBy 47 = .ok (.goto 4, 3) := by decide +kernel
theorem dX7_garbleBy_50 : decode cX7_garbleBy 50 = .ok (.iload_n 3, 1) := by decide +kernel
theorem dX7_garbleBy_51 : decode cX7_garbleBy 51 = .ok (.ireturn, 1) := by decide +kernel
theorem dX7_garbleBy_52 : decode cX7_garbleBy 52 = .ok (.aload_n 0, 1) := by decide +kernel
theorem dX7_garbleBy_53 : decode cX7_garbleBy 53 = .ok (.getfield 88, 3) := by decide +kernel
theorem dX7_garbleBy_56 : decode cX7_garbleBy 56 = .ok (.iconst 1, 1) := by decide +kernel
theorem dX7_garbleBy_57 : decode cX7_garbleBy 57 = .ok (.isub, 1) := by decide +kernel
theorem dX7_garbleBy_58 : decode cX7_garbleBy 58 = .ok (.iload_n 3, 1) := by decide +kernel
theorem dX7_garbleBy_59 : decode cX7_garbleBy 59 = .ok (.isub, 1) := by decide +kernel
theorem dX7_garbleBy_60 : decode cX7_garbleBy 60 = .ok (.ireturn, 1) := by decide +kernel
theorem dX7_garbleBy_61 : decode cX7_garbleBy 61 = .ok (.iload_n 3, 1) := by decide +kernel
theorem dX7_garbleBy_62 : decode cX7_garbleBy 62 = .ok (.iload_n 2, 1) := by decide +kernel
theorem dX7_garbleBy_63 : decode cX7_garbleBy 63 = .ok (.if_icmp .ge 7, 3) := by decide +kernel
theorem dX7_garbleBy_66 : decode cX7_garbleBy 66 = .ok (.iload_n 2, 1) := by decide +kernel
theorem dX7_garbleBy_67 : decode cX7_garbleBy 67 = .ok (.goto 4, 3) := by decide +kernel
theorem dX7_garbleBy_70 : decode cX7_garbleBy 70 = .ok (.iload_n 3, 1) := by decide +kernel
theorem dX7_garbleBy_71 : decode cX7_garbleBy 71 = .ok (.ireturn, 1) := by decide +kernel
theorem dX7_garbleBy_72 : decode cX7_garbleBy 72 = .ok (.iload_n 3, 1) := by decide +kernel
theorem dX7_garbleBy_73 : decode cX7_garbleBy 73 = .ok (.ireturn, 1) := by decide +kernel
theorem dX7_overFall_0 : decode cX7_overFall 0 = .ok (.aload_n 0, 1) := by decide +kernel
theorem dX7_overFall_1 : decode cX7_overFall 1 = .ok (.aload_n 0, 1) := by decide +kernel
theorem dX7_overFall_2 : decode cX7_overFall 2 = .ok (.getfield 22, 3) := by decide +kernel
theorem dX7_overFall_5 : decode cX7_overFall 5 = .ok (.iconst 0, 1) := by decide +kernel
theorem dX7_overFall_6 : decode cX7_overFall 6 = .ok (.iload_n 1, 1) := by decide +kernel
theorem dX7_overFall_7 : decode cX7_overFall 7 = .ok (.iadd, 1) := by decide +kernel
theorem dX7_overFall_8 : decode cX7_overFall 8 = .ok (.iaload, 1) := by decide +kernel
theorem dX7_overFall_9 : decode cX7_overFall 9 = .ok (.aload_n 0, 1) := by decide +kernel
theorem dX7_overFall_10 : decode cX7_overFall 10 = .ok (.getfield 19, 3) := by decide +kernel
theorem dX7_overFall_13 : decode cX7_overFall 13 = .ok (.iload_n 1, 1) := by decide +kernel
theorem dX7_overFall_14 : decode cX7_overFall 14 = .ok (.iaload, 1) := by decide +kernel
theorem dX7_overFall_15 : decode cX7_overFall 15 = .ok (.iload_n 2, 1) := by decide +kernel
theorem dX7_overFall_16 : decode cX7_overFall 16 = .ok (.invokevirtual 159, 3) := by decide +kernel
theorem dX7_overFall_19 : decode cX7_overFall 19 = .ok (.istore_n 3, 1) := by decide +kernel
theorem dX7_overFall_20 : decode cX7_overFall 20 = .ok (.aload_n 0, 1) := by decide +kernel
theorem dX7_overFall_21 : decode cX7_overFall 21 = .ok (.getfield 22, 3) := by decide +kernel
theorem dX7_overFall_24 : decode cX7_overFall 24 = .ok (.bipush 10, 2) := by decide +kernel
theorem dX7_overFall_26 : decode cX7_overFall 26 = .ok (.iaload, 1) := by decide +kernel
theorem dX7_overFall_27 : decode cX7_overFall 27 = .ok (.bipush 7, 2) := by decide +kernel
theorem dX7_overFall_29 : decode cX7_overFall 29 = .ok (.if_icmp .lt 25, 3) := by decide +kernel
theorem dX7_overFall_32 : decode cX7_overFall 32 = .ok (.aload_n 0, 1) := by decide +kernel
theorem dX7_overFall_33 : decode cX7_overFall 33 = .ok (.aload_n 0, 1) := by decide +kernel
theorem dX7_overFall_34 : decode cX7_overFall 34 = .ok (.getfield 22, 3) := by decide +kernel
theorem dX7_overFall_37 : decode cX7_overFall 37 = .ok (.iconst 0, 1) := by decide +kernel
theorem dX7_overFall_38 : decode cX7_overFall 38 = .ok (.iload_n 1, 1) := by decide +kernel
theorem dX7_overFall_39 : decode cX7_overFall 39 = .ok (.iadd, 1) := by decide +kernel
theorem dX7_overFall_40 : decode cX7_overFall 40 = .ok (.iaload, 1) := by decide +kernel
theorem dX7_overFall_41 : decode cX7_overFall 41 = .ok (.aload_n 0, 1) := by decide +kernel
theorem dX7_overFall_42 : decode cX7_overFall 42 = .ok (.getfield 19, 3) := by decide +kernel
theorem dX7_overFall_45 : decode cX7_overFall 45 = .ok (.iload_n 1, 1) := by decide +kernel
theorem dX7_overFall_46 : decode cX7_overFall 46 = .ok (.iaload, 1) := by decide +kernel
theorem dX7_overFall_47 : decode cX7_overFall 47 = .ok (.iload_n 3, 1) := by decide +kernel
theorem dX7_overFall_48 : decode cX7_overFall 48 = .ok (.invokevirtual 159, 3) := by decide +kernel
theorem dX7_overFall_51 : decode cX7_overFall 51 = .ok (.goto 4, 3) := by decide +kernel
theorem dX7_overFall_54 : decode cX7_overFall 54 = .ok (.iload_n 3, 1) := by decide +kernel
theorem dX7_overFall_55 : decode cX7_overFall 55 = .ok (.ireturn, 1) := by decide +kernel
theorem dX7_stopsAt_0 : decode cX7_stopsAt 0 = .ok (.iload_n 1, 1) := by decide +kernel
theorem dX7_stopsAt_1 : decode cX7_stopsAt 1 = .ok (.ifCond .eq 17, 3) := by decide +kernel
theorem dX7_stopsAt_4 : decode cX7_stopsAt 4 = .ok (.aload_n 0, 1) := by decide +kernel
theorem dX7_stopsAt_5 : decode cX7_stopsAt 5 = .ok (.getfield 22, 3) := by decide +kernel
theorem dX7_stopsAt_8 : decode cX7_stopsAt 8 = .ok (.bipush 9, 2) := by decide +kernel
theorem dX7_stopsAt_10 : decode cX7_stopsAt 10 = .ok (.iaload, 1) := by decide +kernel
theorem dX7_stopsAt_11 : decode cX7_stopsAt 11 = .ok (.iload_n 1, 1) := by decide +kernel
theorem dX7_stopsAt_12 : decode cX7_stopsAt 12 = .ok (.invokestatic 163, 3) := by decide +kernel
theorem dX7_stopsAt_15 : decode cX7_stopsAt 15 = .ok (.ifCond .eq 7, 3) := by decide +kernel
theorem dX7_stopsAt_18 : decode cX7_stopsAt 18 = .ok (.iconst 1, 1) := by decide +kernel
theorem dX7_stopsAt_19 : decode cX7_stopsAt 19 = .ok (.goto 4, 3) := by decide +kernel
theorem dX7_stopsAt_22 : decode cX7_stopsAt 22 = .ok (.iconst 0, 1) := by decide +kernel
theorem dX7_stopsAt_23 : decode cX7_stopsAt 23 = .ok (.ireturn, 1) := by decide +kernel
theorem dX7_toGo_0 : decode cX7_toGo 0 = .ok (.aload_n 0, 1) := by decide +kernel
theorem dX7_toGo_1 : decode cX7_toGo 1 = .ok (.getfield 22, 3) := by decide +kernel
theorem dX7_toGo_4 : decode cX7_toGo 4 = .ok (.bipush 33, 2) := by decide +kernel
theorem dX7_toGo_6 : decode cX7_toGo 6 = .ok (.iload_n 1, 1) := by decide +kernel
theorem dX7_toGo_7 : decode cX7_toGo 7 = .ok (.iadd, 1) := by decide +kernel
theorem dX7_toGo_8 : decode cX7_toGo 8 = .ok (.iaload, 1) := by decide +kernel
theorem dX7_toGo_9 : decode cX7_toGo 9 = .ok (.sipush 1000, 3) := by decide +kernel
theorem dX7_toGo_12 : decode cX7_toGo 12 = .ok (.idiv, 1) := by decide +kernel
theorem dX7_toGo_13 : decode cX7_toGo 13 = .ok (.ireturn, 1) := by decide +kernel
theorem dX7_goesFrom_0 : decode cX7_goesFrom 0 = .ok (.aload_n 0, 1) := by decide +kernel
theorem dX7_goesFrom_1 : decode cX7_goesFrom 1 = .ok (.getfield 22, 3) := by decide +kernel
theorem dX7_goesFrom_4 : decode cX7_goesFrom 4 = .ok (.bipush 33, 2) := by decide +kernel
theorem dX7_goesFrom_6 : decode cX7_goesFrom 6 = .ok (.iload_n 1, 1) := by decide +kernel
theorem dX7_goesFrom_7 : decode cX7_goesFrom 7 = .ok (.iadd, 1) := by decide +kernel
theorem dX7_goesFrom_8 : decode cX7_goesFrom 8 = .ok (.iaload, 1) := by decide +kernel
theorem dX7_goesFrom_9 : decode cX7_goesFrom 9 = .ok (.bipush 100, 2) := by decide +kernel
theorem dX7_goesFrom_11 : decode cX7_goesFrom 11 = .ok (.idiv, 1) := by decide +kernel
theorem dX7_goesFrom_12 : decode cX7_goesFrom 12 = .ok (.bipush 10, 2) := by decide +kernel
theorem dX7_goesFrom_14 : decode cX7_goesFrom 14 = .ok (.irem, 1) := by decide +kernel
theorem dX7_goesFrom_15 : decode cX7_goesFrom 15 = .ok (.ireturn, 1) := by decide +kernel
theorem dX7_wordOf_0 : decode cX7_wordOf 0 = .ok (.aload_n 0, 1) := by decide +kernel
theorem dX7_wordOf_1 : decode cX7_wordOf 1 = .ok (.getfield 22, 3) := by decide +kernel
theorem dX7_wordOf_4 : decode cX7_wordOf 4 = .ok (.bipush 33, 2) := by decide +kernel
theorem dX7_wordOf_6 : decode cX7_wordOf 6 = .ok (.iload_n 1, 1) := by decide +kernel
theorem dX7_wordOf_7 : decode cX7_wordOf 7 = .ok (.iadd, 1) := by decide +kernel
theorem dX7_wordOf_8 : decode cX7_wordOf 8 = .ok (.iaload, 1) := by decide +kernel
theorem dX7_wordOf_9 : decode cX7_wordOf 9 = .ok (.bipush 10, 2) := by decide +kernel
theorem dX7_wordOf_11 : decode cX7_wordOf 11 = .ok (.idiv, 1) := by decide +kernel
theorem dX7_wordOf_12 : decode cX7_wordOf 12 = .ok (.bipush 10, 2) := by decide +kernel
theorem dX7_wordOf_14 : decode cX7_wordOf 14 = .ok (.irem, 1) := by decide +kernel
theorem dX7_wordOf_15 : decode cX7_wordOf 15 = .ok (.ireturn, 1) := by decide +kernel
theorem dX7_saidAt_0 : decode cX7_saidAt 0 = .ok (.aload_n 0, 1) := by decide +kernel
theorem dX7_saidAt_1 : decode cX7_saidAt 1 = .ok (.getfield 22, 3) := by decide +kernel
theorem dX7_saidAt_4 : decode cX7_saidAt 4 = .ok (.bipush 33, 2) := by decide +kernel
theorem dX7_saidAt_6 : decode cX7_saidAt 6 = .ok (.iload_n 1, 1) := by decide +kernel
theorem dX7_saidAt_7 : decode cX7_saidAt 7 = .ok (.iadd, 1) := by decide +kernel
theorem dX7_saidAt_8 : decode cX7_saidAt 8 = .ok (.iaload, 1) := by decide +kernel
theorem dX7_saidAt_9 : decode cX7_saidAt 9 = .ok (.bipush 10, 2) := by decide +kernel
theorem dX7_saidAt_11 : decode cX7_saidAt 11 = .ok (.irem, 1) := by decide +kernel
theorem dX7_saidAt_12 : decode cX7_saidAt 12 = .ok (.ireturn, 1) := by decide +kernel
theorem dX7_packed_0 : decode cX7_packed 0 = .ok (.sipush 1000, 3) := by decide +kernel
theorem dX7_packed_3 : decode cX7_packed 3 = .ok (.iload_n 0, 1) := by decide +kernel
theorem dX7_packed_4 : decode cX7_packed 4 = .ok (.imul, 1) := by decide +kernel
theorem dX7_packed_5 : decode cX7_packed 5 = .ok (.bipush 100, 2) := by decide +kernel
theorem dX7_packed_7 : decode cX7_packed 7 = .ok (.iload_n 1, 1) := by decide +kernel
theorem dX7_packed_8 : decode cX7_packed 8 = .ok (.imul, 1) := by decide +kernel
theorem dX7_packed_9 : decode cX7_packed 9 = .ok (.iadd, 1) := by decide +kernel
theorem dX7_packed_10 : decode cX7_packed 10 = .ok (.bipush 10, 2) := by decide +kernel
theorem dX7_packed_12 : decode cX7_packed 12 = .ok (.iload_n 2, 1) := by decide +kernel
theorem dX7_packed_13 : decode cX7_packed 13 = .ok (.imul, 1) := by decide +kernel
theorem dX7_packed_14 : decode cX7_packed 14 = .ok (.iadd, 1) := by decide +kernel
theorem dX7_packed_15 : decode cX7_packed 15 = .ok (.iload_n 3, 1) := by decide +kernel
theorem dX7_packed_16 : decode cX7_packed 16 = .ok (.iadd, 1) := by decide +kernel
theorem dX7_packed_17 : decode cX7_packed 17 = .ok (.ireturn, 1) := by decide +kernel
theorem dX7_takeOff_0 : decode cX7_takeOff 0 = .ok (.aload_n 0, 1) := by decide +kernel
theorem dX7_takeOff_1 : decode cX7_takeOff 1 = .ok (.getfield 22, 3) := by decide +kernel
theorem dX7_takeOff_4 : decode cX7_takeOff 4 = .ok (.bipush 32, 2) := by decide +kernel
theorem dX7_takeOff_6 : decode cX7_takeOff 6 = .ok (.dup2, 1) := by decide +kernel
theorem dX7_takeOff_7 : decode cX7_takeOff 7 = .ok (.iaload, 1) := by decide +kernel
theorem dX7_takeOff_8 : decode cX7_takeOff 8 = .ok (.iconst 1, 1) := by decide +kernel
theorem dX7_takeOff_9 : decode cX7_takeOff 9 = .ok (.isub, 1) := by decide +kernel
theorem dX7_takeOff_10 : decode cX7_takeOff 10 = .ok (.iastore, 1) := by decide +kernel
theorem dX7_takeOff_11 : decode cX7_takeOff 11 = .ok (.iload_n 1, 1) := by decide +kernel
theorem dX7_takeOff_12 : decode cX7_takeOff 12 = .ok (.istore_n 2, 1) := by decide +kernel
theorem dX7_takeOff_13 : decode cX7_takeOff 13 = .ok (.iload_n 2, 1) := by decide +kernel
theorem dX7_takeOff_14 : decode cX7_takeOff 14 = .ok (.aload_n 0, 1) := by decide +kernel
theorem dX7_takeOff_15 : decode cX7_takeOff 15 = .ok (.getfield 22, 3) := by decide +kernel
theorem dX7_takeOff_18 : decode cX7_takeOff 18 = .ok (.bipush 32, 2) := by decide +kernel
theorem dX7_takeOff_20 : decode cX7_takeOff 20 = .ok (.iaload, 1) := by decide +kernel
theorem dX7_takeOff_21 : decode cX7_takeOff 21 = .ok (.if_icmp .ge 29, 3) := by decide +kernel
theorem dX7_takeOff_24 : decode cX7_takeOff 24 = .ok (.aload_n 0, 1) := by decide +kernel
theorem dX7_takeOff_25 : decode cX7_takeOff 25 = .ok (.getfield 22, 3) := by decide +kernel
theorem dX7_takeOff_28 : decode cX7_takeOff 28 = .ok (.bipush 33, 2) := by decide +kernel
theorem dX7_takeOff_30 : decode cX7_takeOff 30 = .ok (.iload_n 2, 1) := by decide +kernel
theorem dX7_takeOff_31 : decode cX7_takeOff 31 = .ok (.iadd, 1) := by decide +kernel
theorem dX7_takeOff_32 : decode cX7_takeOff 32 = .ok (.aload_n 0, 1) := by decide +kernel
theorem dX7_takeOff_33 : decode cX7_takeOff 33 = .ok (.getfield 22, 3) := by decide +kernel
theorem dX7_takeOff_36 : decode cX7_takeOff 36 = .ok (.bipush 33, 2) := by decide +kernel
theorem dX7_takeOff_38 : decode cX7_takeOff 38 = .ok (.iload_n 2, 1) := by decide +kernel
theorem dX7_takeOff_39 : decode cX7_takeOff 39 = .ok (.iadd, 1) := by decide +kernel
theorem dX7_takeOff_40 : decode cX7_takeOff 40 = .ok (.iconst 1, 1) := by decide +kernel
theorem dX7_takeOff_41 : decode cX7_takeOff 41 = .ok (.iadd, 1) := by decide +kernel
theorem dX7_takeOff_42 : decode cX7_takeOff 42 = .ok (.iaload, 1) := by decide +kernel
theorem dX7_takeOff_43 : decode cX7_takeOff 43 = .ok (.iastore, 1) := by decide +kernel
theorem dX7_takeOff_44 : decode cX7_takeOff 44 = .ok (.iinc 2 1, 3) := by decide +kernel
theorem dX7_takeOff_47 : decode cX7_takeOff 47 = .ok (.goto (-34), 3) := by decide +kernel
theorem dX7_takeOff_50 : decode cX7_takeOff 50 = .ok (.aload_n 0, 1) := by decide +kernel
theorem dX7_takeOff_51 : decode cX7_takeOff 51 = .ok (.getfield 22, 3) := by decide +kernel
theorem dX7_takeOff_54 : decode cX7_takeOff 54 = .ok (.bipush 33, 2) := by decide +kernel
theorem dX7_takeOff_56 : decode cX7_takeOff 56 = .ok (.aload_n 0, 1) := by decide +kernel
theorem dX7_takeOff_57 : decode cX7_takeOff 57 = .ok (.getfield 22, 3) := by decide +kernel
theorem dX7_takeOff_60 : decode cX7_takeOff 60 = .ok (.bipush 32, 2) := by decide +kernel
theorem dX7_takeOff_62 : decode cX7_takeOff 62 = .ok (.iaload, 1) := by decide +kernel
theorem dX7_takeOff_63 : decode cX7_takeOff 63 = .ok (.iadd, 1) := by decide +kernel
theorem dX7_takeOff_64 : decode cX7_takeOff 64 = .ok (.iconst 0, 1) := by decide +kernel
theorem dX7_takeOff_65 : decode cX7_takeOff 65 = .ok (.iastore, 1) := by decide +kernel
theorem dX7_takeOff_66 : decode cX7_takeOff 66 = .ok (.return_, 1) := by decide +kernel
theorem dX7_hears_0 : decode cX7_hears 0 = .ok (.aload_n 0, 1) := by decide +kernel
theorem dX7_hears_1 : decode cX7_hears 1 = .ok (.getfield 22, 3) := by decide +kernel
theorem dX7_hears_4 : decode cX7_hears 4 = .ok (.bipush 14, 2) := by decide +kernel
theorem dX7_hears_6 : decode cX7_hears 6 = .ok (.iload_n 1, 1) := by decide +kernel
theorem dX7_hears_7 : decode cX7_hears 7 = .ok (.iadd, 1) := by decide +kernel
theorem dX7_hears_8 : decode cX7_hears 8 = .ok (.iload_n 2, 1) := by decide +kernel
theorem dX7_hears_9 : decode cX7_hears 9 = .ok (.iastore, 1) := by decide +kernel
theorem dX7_hears_10 : decode cX7_hears 10 = .ok (.aload_n 0, 1) := by decide +kernel
theorem dX7_hears_11 : decode cX7_hears 11 = .ok (.getfield 22, 3) := by decide +kernel
theorem dX7_hears_14 : decode cX7_hears 14 = .ok (.bipush 23, 2) := by decide +kernel
theorem dX7_hears_16 : decode cX7_hears 16 = .ok (.iload_n 1, 1) := by decide +kernel
theorem dX7_hears_17 : decode cX7_hears 17 = .ok (.iadd, 1) := by decide +kernel
theorem dX7_hears_18 : decode cX7_hears 18 = .ok (.dup2, 1) := by decide +kernel
theorem dX7_hears_19 : decode cX7_hears 19 = .ok (.iaload, 1) := by decide +kernel
theorem dX7_hears_20 : decode cX7_hears 20 = .ok (.aload_n 0, 1) := by decide +kernel
theorem dX7_hears_21 : decode cX7_hears 21 = .ok (.getfield 22, 3) := by decide +kernel
theorem dX7_hears_24 : decode cX7_hears 24 = .ok (.bipush 23, 2) := by decide +kernel
theorem dX7_hears_26 : decode cX7_hears 26 = .ok (.iload_n 1, 1) := by decide +kernel
theorem dX7_hears_27 : decode cX7_hears 27 = .ok (.iadd, 1) := by decide +kernel
theorem dX7_hears_28 : decode cX7_hears 28 = .ok (.iaload, 1) := by decide +kernel
theorem dX7_hears_29 : decode cX7_hears 29 = .ok (.ldc 167, 2) := by decide +kernel
theorem dX7_hears_31 : decode cX7_hears 31 = .ok (.if_icmp .ge 7, 3) := by decide +kernel
theorem dX7_hears_34 : decode cX7_hears 34 = .ok (.iconst 1, 1) := by decide +kernel
theorem dX7_hears_35 : decode cX7_hears 35 = .ok (.goto 4, 3) := by decide +kernel
theorem dX7_hears_38 : decode cX7_hears 38 = .ok (.iconst 0, 1) := by decide +kernel
theorem dX7_hears_39 : decode cX7_hears 39 = .ok (.iadd, 1) := by decide +kernel
theorem dX7_hears_40 : decode cX7_hears 40 = .ok (.iastore, 1) := by decide +kernel
theorem dX7_hears_41 : decode cX7_hears 41 = .ok (.aload_n 0, 1) := by decide +kernel
theorem dX7_hears_42 : decode cX7_hears 42 = .ok (.getfield 47, 3) := by decide +kernel
theorem dX7_hears_45 : decode cX7_hears 45 = .ok (.iload_n 1, 1) := by decide +kernel
theorem dX7_hears_46 : decode cX7_hears 46 = .ok (.aload_n 0, 1) := by decide +kernel
theorem dX7_hears_47 : decode cX7_hears 47 = .ok (.getfield 47, 3) := by decide +kernel
theorem dX7_hears_50 : decode cX7_hears 50 = .ok (.iload_n 1, 1) := by decide +kernel
theorem dX7_hears_51 : decode cX7_hears 51 = .ok (.baload, 1) := by decide +kernel
theorem dX7_hears_52 : decode cX7_hears 52 = .ok (.ifCond .ne 22, 3) := by decide +kernel
theorem dX7_hears_55 : decode cX7_hears 55 = .ok (.aload_n 0, 1) := by decide +kernel
theorem dX7_hears_56 : decode cX7_hears 56 = .ok (.getfield 44, 3) := by decide +kernel
theorem dX7_hears_59 : decode cX7_hears 59 = .ok (.iload_n 1, 1) := by decide +kernel
theorem dX7_hears_60 : decode cX7_hears 60 = .ok (.iaload, 1) := by decide +kernel
theorem dX7_hears_61 : decode cX7_hears 61 = .ok (.ifCond .lt 17, 3) := by decide +kernel
theorem dX7_hears_64 : decode cX7_hears 64 = .ok (.aload_n 0, 1) := by decide +kernel
theorem dX7_hears_65 : decode cX7_hears 65 = .ok (.getfield 44, 3) := by decide +kernel
theorem dX7_hears_68 : decode cX7_hears 68 = .ok (.iload_n 1, 1) := by decide +kernel
theorem dX7_hears_69 : decode cX7_hears 69 = .ok (.iaload, 1) := by decide +kernel
theorem dX7_hears_70 : decode cX7_hears 70 = .ok (.iload_n 2, 1) := by decide +kernel
theorem dX7_hears_71 : decode cX7_hears 71 = .ok (.if_icmp .eq 7, 3) := by decide +kernel
theorem dX7_hears_74 : decode cX7_hears 74 = .ok (.iconst 1, 1) := by decide +kernel
theorem dX7_hears_75 : decode cX7_hears 75 = .ok (.goto 4, 3) := by decide +kernel
theorem dX7_hears_78 : decode cX7_hears 78 = .ok (.iconst 0, 1) := by decide +kernel
theorem dX7_hears_79 : decode cX7_hears 79 = .ok (.bastore, 1) := by decide +kernel
theorem dX7_hears_80 : decode cX7_hears 80 = .ok (.aload_n 0, 1) := by decide +kernel
theorem dX7_hears_81 : decode cX7_hears 81 = .ok (.getfield 44, 3) := by decide +kernel
theorem dX7_hears_84 : decode cX7_hears 84 = .ok (.iload_n 1, 1) := by decide +kernel
theorem dX7_hears_85 : decode cX7_hears 85 = .ok (.iload_n 2, 1) := by decide +kernel
theorem dX7_hears_86 : decode cX7_hears 86 = .ok (.iastore, 1) := by decide +kernel
theorem dX7_hears_87 : decode cX7_hears 87 = .ok (.aload_n 0, 1) := by decide +kernel
theorem dX7_hears_88 : decode cX7_hears 88 = .ok (.getfield 22, 3) := by decide +kernel
theorem dX7_hears_91 : decode cX7_hears 91 = .ok (.bipush 45, 2) := by decide +kernel
theorem dX7_hears_93 : decode cX7_hears 93 = .ok (.iaload, 1) := by decide +kernel
theorem dX7_hears_94 : decode cX7_hears 94 = .ok (.bipush 20, 2) := by decide +kernel
theorem dX7_hears_96 : decode cX7_hears 96 = .ok (.if_icmp .ne 52, 3) := by decide +kernel
theorem dX7_hears_99 : decode cX7_hears 99 = .ok (.iconst 1, 1) := by decide +kernel
theorem dX7_hears_100 : decode cX7_hears 100 = .ok (.istore 4, 2) := by decide +kernel
theorem dX7_hears_102 : decode cX7_hears 102 = .ok (.iload 4, 2) := by decide +kernel
theorem dX7_hears_104 : decode cX7_hears 104 = .ok (.bipush 20, 2) := by decide +kernel
theorem dX7_hears_106 : decode cX7_hears 106 = .ok (.if_icmp .ge 31, 3) := by decide +kernel
theorem dX7_hears_109 : decode cX7_hears 109 = .ok (.aload_n 0, 1) := by decide +kernel
theorem dX7_hears_110 : decode cX7_hears 110 = .ok (.getfield 22, 3) := by decide +kernel
theorem dX7_hears_113 : decode cX7_hears 113 = .ok (.bipush 46, 2) := by decide +kernel
theorem dX7_hears_115 : decode cX7_hears 115 = .ok (.iload 4, 2) := by decide +kernel
theorem dX7_hears_117 : decode cX7_hears 117 = .ok (.iadd, 1) := by decide +kernel
theorem dX7_hears_118 : decode cX7_hears 118 = .ok (.iconst 1, 1) := by decide +kernel
theorem dX7_hears_119 : decode cX7_hears 119 = .ok (.isub, 1) := by decide +kernel
theorem dX7_hears_120 : decode cX7_hears 120 = .ok (.aload_n 0, 1) := by decide +kernel
theorem dX7_hears_121 : decode cX7_hears 121 = .ok (.getfield 22, 3) := by decide +kernel
theorem dX7_hears_124 : decode cX7_hears 124 = .ok (.bipush 46, 2) := by decide +kernel
theorem dX7_hears_126 : decode cX7_hears 126 = .ok (.iload 4, 2) := by decide +kernel
theorem dX7_hears_128 : decode cX7_hears 128 = .ok (.iadd, 1) := by decide +kernel
theorem dX7_hears_129 : decode cX7_hears 129 = .ok (.iaload, 1) := by decide +kernel
theorem dX7_hears_130 : decode cX7_hears 130 = .ok (.iastore, 1) := by decide +kernel
theorem dX7_hears_131 : decode cX7_hears 131 = .ok (.iinc 4 1, 3) := by decide +kernel
theorem dX7_hears_134 : decode cX7_hears 134 = .ok (.goto (-32), 3) := by decide +kernel
theorem dX7_hears_137 : decode cX7_hears 137 = .ok (.aload_n 0, 1) := by decide +kernel
theorem dX7_hears_138 : decode cX7_hears 138 = .ok (.getfield 22, 3) := by decide +kernel
theorem dX7_hears_141 : decode cX7_hears 141 = .ok (.bipush 45, 2) := by decide +kernel
theorem dX7_hears_143 : decode cX7_hears 143 = .ok (.dup2, 1) := by decide +kernel
theorem dX7_hears_144 : decode cX7_hears 144 = .ok (.iaload, 1) := by decide +kernel
theorem dX7_hears_145 : decode cX7_hears 145 = .ok (.iconst 1, 1) := by decide +kernel
theorem dX7_hears_146 : decode cX7_hears 146 = .ok (.isub, 1) := by decide +kernel
theorem dX7_hears_147 : decode cX7_hears 147 = .ok (.iastore, 1) := by decide +kernel
theorem dX7_hears_148 : decode cX7_hears 148 = .ok (.aload_n 0, 1) := by decide +kernel
theorem dX7_hears_149 : decode cX7_hears 149 = .ok (.getfield 22, 3) := by decide +kernel
theorem dX7_hears_152 : decode cX7_hears 152 = .ok (.bipush 46, 2) := by decide +kernel
theorem dX7_hears_154 : decode cX7_hears 154 = .ok (.aload_n 0, 1) := by decide +kernel
theorem dX7_hears_155 : decode cX7_hears 155 = .ok (.getfield 22, 3) := by decide +kernel
theorem dX7_hears_158 : decode cX7_hears 158 = .ok (.bipush 45, 2) := by decide +kernel
theorem dX7_hears_160 : decode cX7_hears 160 = .ok (.iaload, 1) := by decide +kernel
theorem dX7_hears_161 : decode cX7_hears 161 = .ok (.iadd, 1) := by decide +kernel
theorem dX7_hears_162 : decode cX7_hears 162 = .ok (.sipush 1000, 3) := by decide +kernel
theorem dX7_hears_165 : decode cX7_hears 165 = .ok (.aload_n 0, 1) := by decide +kernel
theorem dX7_hears_166 : decode cX7_hears 166 = .ok (.getfield 22, 3) := by decide +kernel
theorem dX7_hears_169 : decode cX7_hears 169 = .ok (.bipush 12, 2) := by decide +kernel
theorem dX7_hears_171 : decode cX7_hears 171 = .ok (.iaload, 1) := by decide +kernel
theorem dX7_hears_172 : decode cX7_hears 172 = .ok (.imul, 1) := by decide +kernel
theorem dX7_hears_173 : decode cX7_hears 173 = .ok (.bipush 100, 2) := by decide +kernel
theorem dX7_hears_175 : decode cX7_hears 175 = .ok (.iload_n 1, 1) := by decide +kernel
theorem dX7_hears_176 : decode cX7_hears 176 = .ok (.imul, 1) := by decide +kernel
theorem dX7_hears_177 : decode cX7_hears 177 = .ok (.iadd, 1) := by decide +kernel
theorem dX7_hears_178 : decode cX7_hears 178 = .ok (.bipush 10, 2) := by decide +kernel
theorem dX7_hears_180 : decode cX7_hears 180 = .ok (.iload_n 2, 1) := by decide +kernel
theorem dX7_hears_181 : decode cX7_hears 181 = .ok (.imul, 1) := by decide +kernel
theorem dX7_hears_182 : decode cX7_hears 182 = .ok (.iadd, 1) := by decide +kernel
theorem dX7_hears_183 : decode cX7_hears 183 = .ok (.iload_n 3, 1) := by decide +kernel
theorem dX7_hears_184 : decode cX7_hears 184 = .ok (.iadd, 1) := by decide +kernel
theorem dX7_hears_185 : decode cX7_hears 185 = .ok (.iastore, 1) := by decide +kernel
theorem dX7_hears_186 : decode cX7_hears 186 = .ok (.aload_n 0, 1) := by decide +kernel
theorem dX7_hears_187 : decode cX7_hears 187 = .ok (.getfield 22, 3) := by decide +kernel
theorem dX7_hears_190 : decode cX7_hears 190 = .ok (.bipush 45, 2) := by decide +kernel
theorem dX7_hears_192 : decode cX7_hears 192 = .ok (.dup2, 1) := by decide +kernel
theorem dX7_hears_193 : decode cX7_hears 193 = .ok (.iaload, 1) := by decide +kernel
theorem dX7_hears_194 : decode cX7_hears 194 = .ok (.iconst 1, 1) := by decide +kernel
theorem dX7_hears_195 : decode cX7_hears 195 = .ok (.iadd, 1) := by decide +kernel
theorem dX7_hears_196 : decode cX7_hears 196 = .ok (.iastore, 1) := by decide +kernel
theorem dX7_hears_197 : decode cX7_hears 197 = .ok (.return_, 1) := by decide +kernel
theorem dX7_go_0 : decode cX7_go 0 = .ok (.aload_n 0, 1) := by decide +kernel
theorem dX7_go_1 : decode cX7_go 1 = .ok (.iload_n 1, 1) := by decide +kernel
theorem dX7_go_2 : decode cX7_go 2 = .ok (.invokevirtual 168, 3) := by decide +kernel
theorem dX7_go_5 : decode cX7_go 5 = .ok (.aload_n 0, 1) := by decide +kernel
theorem dX7_go_6 : decode cX7_go 6 = .ok (.getfield 22, 3) := by decide +kernel
theorem dX7_go_9 : decode cX7_go 9 = .ok (.bipush 10, 2) := by decide +kernel
theorem dX7_go_11 : decode cX7_go 11 = .ok (.iaload, 1) := by decide +kernel
theorem dX7_go_12 : decode cX7_go 12 = .ok (.isub, 1) := by decide +kernel
theorem dX7_go_13 : decode cX7_go 13 = .ok (.istore_n 2, 1) := by decide +kernel
theorem dX7_go_14 : decode cX7_go 14 = .ok (.aload_n 0, 1) := by decide +kernel
theorem dX7_go_15 : decode cX7_go 15 = .ok (.iload_n 1, 1) := by decide +kernel
theorem dX7_go_16 : decode cX7_go 16 = .ok (.invokevirtual 172, 3) := by decide +kernel
theorem dX7_go_19 : decode cX7_go 19 = .ok (.istore_n 3, 1) := by decide +kernel
theorem dX7_go_20 : decode cX7_go 20 = .ok (.iload_n 2, 1) := by decide +kernel
theorem dX7_go_21 : decode cX7_go 21 = .ok (.ifCond .le 29, 3) := by decide +kernel
theorem dX7_go_24 : decode cX7_go 24 = .ok (.aload_n 0, 1) := by decide +kernel
theorem dX7_go_25 : decode cX7_go 25 = .ok (.getfield 22, 3) := by decide +kernel
theorem dX7_go_28 : decode cX7_go 28 = .ok (.bipush 33, 2) := by decide +kernel
theorem dX7_go_30 : decode cX7_go 30 = .ok (.iload_n 1, 1) := by decide +kernel
theorem dX7_go_31 : decode cX7_go 31 = .ok (.iadd, 1) := by decide +kernel
theorem dX7_go_32 : decode cX7_go 32 = .ok (.iload_n 2, 1) := by decide +kernel
theorem dX7_go_33 : decode cX7_go 33 = .ok (.iload_n 3, 1) := by decide +kernel
theorem dX7_go_34 : decode cX7_go 34 = .ok (.aload_n 0, 1) := by decide +kernel
theorem dX7_go_35 : decode cX7_go 35 = .ok (.iload_n 1, 1) := by decide +kernel
theorem dX7_go_36 : decode cX7_go 36 = .ok (.invokevirtual 175, 3) := by decide +kernel
theorem dX7_go_39 : decode cX7_go 39 = .ok (.aload_n 0, 1) := by decide +kernel
theorem dX7_go_40 : decode cX7_go 40 = .ok (.iload_n 1, 1) := by decide +kernel
theorem dX7_go_41 : decode cX7_go 41 = .ok (.invokevirtual 178, 3) := by decide +kernel
theorem dX7_go_44 : decode cX7_go 44 = .ok (.invokestatic 181, 3) := by decide +kernel
theorem dX7_go_47 : decode cX7_go 47 = .ok (.iastore, 1) := by decide +kernel
theorem dX7_go_48 : decode cX7_go 48 = .ok (.iconst 1, 1) := by decide +kernel
theorem dX7_go_49 : decode cX7_go 49 = .ok (.ireturn, 1) := by decide +kernel
theorem dX7_go_50 : decode cX7_go 50 = .ok (.aload_n 0, 1) := by decide +kernel
theorem dX7_go_51 : decode cX7_go 51 = .ok (.getfield 7, 3) := by decide +kernel
theorem dX7_go_54 : decode cX7_go 54 = .ok (.iload_n 3, 1) := by decide +kernel
theorem dX7_go_55 : decode cX7_go 55 = .ok (.iaload, 1) := by decide +kernel
theorem dX7_go_56 : decode cX7_go 56 = .ok (.istore 4, 2) := by decide +kernel
theorem dX7_go_58 : decode cX7_go 58 = .ok (.aload_n 0, 1) := by decide +kernel
theorem dX7_go_59 : decode cX7_go 59 = .ok (.iload_n 3, 1) := by decide +kernel
theorem dX7_go_60 : decode cX7_go 60 = .ok (.aload_n 0, 1) := by decide +kernel
theorem dX7_go_61 : decode cX7_go 61 = .ok (.iload_n 1, 1) := by decide +kernel
theorem dX7_go_62 : decode cX7_go 62 = .ok (.invokevirtual 175, 3) := by decide +kernel
theorem dX7_go_65 : decode cX7_go 65 = .ok (.invokevirtual 185, 3) := by decide +kernel
theorem dX7_go_68 : decode cX7_go 68 = .ok (.istore 5, 2) := by decide +kernel
theorem dX7_go_70 : decode cX7_go 70 = .ok (.aload_n 0, 1) := by decide +kernel
theorem dX7_go_71 : decode cX7_go 71 = .ok (.iload 4, 2) := by decide +kernel
theorem dX7_go_73 : decode cX7_go 73 = .ok (.iload 5, 2) := by decide +kernel
theorem dX7_go_75 : decode cX7_go 75 = .ok (.aload_n 0, 1) := by decide +kernel
theorem dX7_go_76 : decode cX7_go 76 = .ok (.iload_n 1, 1) := by decide +kernel
theorem dX7_go_77 : decode cX7_go 77 = .ok (.invokevirtual 178, 3) := by decide +kernel
theorem dX7_go_80 : decode cX7_go 80 = .ok (.invokevirtual 188, 3) := by decide +kernel
theorem dX7_go_83 : decode cX7_go 83 = .ok (.aload_n 0, 1) := by decide +kernel
theorem dX7_go_84 : decode cX7_go 84 = .ok (.getfield 22, 3) := by decide +kernel
theorem dX7_go_87 : decode cX7_go 87 = .ok (.bipush 33, 2) := by decide +kernel
theorem dX7_go_89 : decode cX7_go 89 = .ok (.iload_n 1, 1) := by decide +kernel
theorem dX7_go_90 : decode cX7_go 90 = .ok (.iadd, 1) := by decide +kernel
theorem dX7_go_91 : decode cX7_go 91 = .ok (.iconst 4, 1) := by decide +kernel
theorem dX7_go_92 : decode cX7_go 92 = .ok (.aload_n 0, 1) := by decide +kernel
theorem dX7_go_93 : decode cX7_go 93 = .ok (.getfield 13, 3) := by decide +kernel
theorem dX7_go_96 : decode cX7_go 96 = .ok (.iload 4, 2) := by decide +kernel
theorem dX7_go_98 : decode cX7_go 98 = .ok (.iaload, 1) := by decide +kernel
theorem dX7_go_99 : decode cX7_go 99 = .ok (.imul, 1) := by decide +kernel
theorem dX7_go_100 : decode cX7_go 100 = .ok (.iload 4, 2) := by decide +kernel
theorem dX7_go_102 : decode cX7_go 102 = .ok (.iload 5, 2) := by decide +kernel
theorem dX7_go_104 : decode cX7_go 104 = .ok (.aload_n 0, 1) := by decide +kernel
theorem dX7_go_105 : decode cX7_go 105 = .ok (.iload_n 1, 1) := by decide +kernel
theorem dX7_go_106 : decode cX7_go 106 = .ok (.invokevirtual 178, 3) := by decide +kernel
theorem dX7_go_109 : decode cX7_go 109 = .ok (.invokestatic 181, 3) := by decide +kernel
theorem dX7_go_112 : decode cX7_go 112 = .ok (.iastore, 1) := by decide +kernel
theorem dX7_go_113 : decode cX7_go 113 = .ok (.aload_n 0, 1) := by decide +kernel
theorem dX7_go_114 : decode cX7_go 114 = .ok (.iload 4, 2) := by decide +kernel
theorem dX7_go_116 : decode cX7_go 116 = .ok (.invokevirtual 192, 3) := by decide +kernel
theorem dX7_go_119 : decode cX7_go 119 = .ok (.ifCond .ne 7, 3) := by decide +kernel
theorem dX7_go_122 : decode cX7_go 122 = .ok (.iconst 1, 1) := by decide +kernel
theorem dX7_go_123 : decode cX7_go 123 = .ok (.goto 4, 3) := by decide +kernel
theorem dX7_go_126 : decode cX7_go 126 = .ok (.iconst 0, 1) := by decide +kernel
theorem dX7_go_127 : decode cX7_go 127 = .ok (.ireturn, 1) := by decide +kernel
theorem dX7_goAll_0 : decode cX7_goAll 0 = .ok (.iconst 0, 1) := by decide +kernel
theorem dX7_goAll_1 : decode cX7_goAll 1 = .ok (.istore_n 1, 1) := by decide +kernel
theorem dX7_goAll_2 : decode cX7_goAll 2 = .ok (.iload_n 1, 1) := by decide +kernel
theorem dX7_goAll_3 : decode cX7_goAll 3 = .ok (.bipush 9, 2) := by decide +kernel
theorem dX7_goAll_5 : decode cX7_goAll 5 = .ok (.if_icmp .ge 23, 3) := by decide +kernel
theorem dX7_goAll_8 : decode cX7_goAll 8 = .ok (.aload_n 0, 1) := by decide +kernel
theorem dX7_goAll_9 : decode cX7_goAll 9 = .ok (.getfield 44, 3) := by decide +kernel
theorem dX7_goAll_12 : decode cX7_goAll 12 = .ok (.iload_n 1, 1) := by decide +kernel
theorem dX7_goAll_13 : decode cX7_goAll 13 = .ok (.iconst (-1), 1) := by decide +kernel
theorem dX7_goAll_14 : decode cX7_goAll 14 = .ok (.iastore, 1) := by decide +kernel
theorem dX7_goAll_15 : decode cX7_goAll 15 = .ok (.aload_n 0, 1) := by decide +kernel
theorem dX7_goAll_16 : decode cX7_goAll 16 = .ok (.getfield 47, 3) := by decide +kernel
theorem dX7_goAll_19 : decode cX7_goAll 19 = .ok (.iload_n 1, 1) := by decide +kernel
theorem dX7_goAll_20 : decode cX7_goAll 20 = .ok (.iconst 0, 1) := by decide +kernel
theorem dX7_goAll_21 : decode cX7_goAll 21 = .ok (.bastore, 1) := by decide +kernel
theorem dX7_goAll_22 : decode cX7_goAll 22 = .ok (.iinc 1 1, 3) := by decide +kernel
theorem dX7_goAll_25 : decode cX7_goAll 25 = .ok (.goto (-23), 3) := by decide +kernel
theorem dX7_goAll_28 : decode cX7_goAll 28 = .ok (.iconst 0, 1) := by decide +kernel
theorem dX7_goAll_29 : decode cX7_goAll 29 = .ok (.istore_n 1, 1) := by decide +kernel
theorem dX7_goAll_30 : decode cX7_goAll 30 = .ok (.iload_n 1, 1) := by decide +kernel
theorem dX7_goAll_31 : decode cX7_goAll 31 = .ok (.aload_n 0, 1) := by decide +kernel
theorem dX7_goAll_32 : decode cX7_goAll 32 = .ok (.getfield 22, 3) := by decide +kernel
theorem dX7_goAll_35 : decode cX7_goAll 35 = .ok (.bipush 32, 2) := by decide +kernel
theorem dX7_goAll_37 : decode cX7_goAll 37 = .ok (.iaload, 1) := by decide +kernel
theorem dX7_goAll_38 : decode cX7_goAll 38 = .ok (.if_icmp .ge 25, 3) := by decide +kernel
theorem dX7_goAll_41 : decode cX7_goAll 41 = .ok (.aload_n 0, 1) := by decide +kernel
theorem dX7_goAll_42 : decode cX7_goAll 42 = .ok (.iload_n 1, 1) := by decide +kernel
theorem dX7_goAll_43 : decode cX7_goAll 43 = .ok (.invokevirtual 196, 3) := by decide +kernel
theorem dX7_goAll_46 : decode cX7_goAll 46 = .ok (.ifCond .eq 9, 3) := by decide +kernel
theorem dX7_goAll_49 : decode cX7_goAll 49 = .ok (.iinc 1 1, 3) := by decide +kernel
theorem dX7_goAll_52 : decode cX7_goAll 52 = .ok (.goto (-22), 3) := by decide +kernel
theorem dX7_goAll_55 : decode cX7_goAll 55 = .ok (.aload_n 0, 1) := by decide +kernel
theorem dX7_goAll_56 : decode cX7_goAll 56 = .ok (.iload_n 1, 1) := by decide +kernel
theorem dX7_goAll_57 : decode cX7_goAll 57 = .ok (.invokevirtual 199, 3) := by decide +kernel
theorem dX7_goAll_60 : decode cX7_goAll 60 = .ok (.goto (-30), 3) := by decide +kernel
theorem dX7_goAll_63 : decode cX7_goAll 63 = .ok (.iconst 0, 1) := by decide +kernel
theorem dX7_goAll_64 : decode cX7_goAll 64 = .ok (.istore_n 2, 1) := by decide +kernel
theorem dX7_goAll_65 : decode cX7_goAll 65 = .ok (.iload_n 2, 1) := by decide +kernel
theorem dX7_goAll_66 : decode cX7_goAll 66 = .ok (.bipush 9, 2) := by decide +kernel
theorem dX7_goAll_68 : decode cX7_goAll 68 = .ok (.if_icmp .ge 45, 3) := by decide +kernel
theorem dX7_goAll_71 : decode cX7_goAll 71 = .ok (.aload_n 0, 1) := by decide +kernel
theorem dX7_goAll_72 : decode cX7_goAll 72 = .ok (.getfield 22, 3) := by decide +kernel
theorem dX7_goAll_75 : decode cX7_goAll 75 = .ok (.bipush 13, 2) := by decide +kernel
theorem dX7_goAll_77 : decode cX7_goAll 77 = .ok (.dup2, 1) := by decide +kernel
theorem dX7_goAll_78 : decode cX7_goAll 78 = .ok (.iaload, 1) := by decide +kernel
theorem dX7_goAll_79 : decode cX7_goAll 79 = .ok (.aload_n 0, 1) := by decide +kernel
theorem dX7_goAll_80 : decode cX7_goAll 80 = .ok (.getfield 47, 3) := by decide +kernel
theorem dX7_goAll_83 : decode cX7_goAll 83 = .ok (.iload_n 2, 1) := by decide +kernel
theorem dX7_goAll_84 : decode cX7_goAll 84 = .ok (.baload, 1) := by decide +kernel
theorem dX7_goAll_85 : decode cX7_goAll 85 = .ok (.ifCond .eq 19, 3) := by decide +kernel
theorem dX7_goAll_88 : decode cX7_goAll 88 = .ok (.aload_n 0, 1) := by decide +kernel
theorem dX7_goAll_89 : decode cX7_goAll 89 = .ok (.getfield 22, 3) := by decide +kernel
theorem dX7_goAll_92 : decode cX7_goAll 92 = .ok (.bipush 13, 2) := by decide +kernel
theorem dX7_goAll_94 : decode cX7_goAll 94 = .ok (.iaload, 1) := by decide +kernel
theorem dX7_goAll_95 : decode cX7_goAll 95 = .ok (.ldc 167, 2) := by decide +kernel
theorem dX7_goAll_97 : decode cX7_goAll 97 = .ok (.if_icmp .ge 7, 3) := by decide +kernel
theorem dX7_goAll_100 : decode cX7_goAll 100 = .ok (.iconst 1, 1) := by decide +kernel
theorem dX7_goAll_101 : decode cX7_goAll 101 = .ok (.goto 4, 3) := by decide +kernel
theorem dX7_goAll_104 : decode cX7_goAll 104 = .ok (.iconst 0, 1) := by decide +kernel
theorem dX7_goAll_105 : decode cX7_goAll 105 = .ok (.iadd, 1) := by decide +kernel
theorem dX7_goAll_106 : decode cX7_goAll 106 = .ok (.iastore, 1) := by decide +kernel
theorem dX7_goAll_107 : decode cX7_goAll 107 = .ok (.iinc 2 1, 3) := by decide +kernel
theorem dX7_goAll_110 : decode cX7_goAll 110 = .ok (.goto (-45), 3) := by decide +kernel
theorem dX7_goAll_113 : decode cX7_goAll 113 = .ok (.return_, 1) := by decide +kernel
theorem dX7_pass_0 : decode cX7_pass 0 = .ok (.aload_n 0, 1) := by decide +kernel
theorem dX7_pass_1 : decode cX7_pass 1 = .ok (.getfield 22, 3) := by decide +kernel
theorem dX7_pass_4 : decode cX7_pass 4 = .ok (.bipush 11, 2) := by decide +kernel
theorem dX7_pass_6 : decode cX7_pass 6 = .ok (.iaload, 1) := by decide +kernel
theorem dX7_pass_7 : decode cX7_pass 7 = .ok (.ifCond .ne 17, 3) := by decide +kernel
theorem dX7_pass_10 : decode cX7_pass 10 = .ok (.aload_n 0, 1) := by decide +kernel
theorem dX7_pass_11 : decode cX7_pass 11 = .ok (.getfield 22, 3) := by decide +kernel
theorem dX7_pass_14 : decode cX7_pass 14 = .ok (.bipush 10, 2) := by decide +kernel
theorem dX7_pass_16 : decode cX7_pass 16 = .ok (.iaload, 1) := by decide +kernel
theorem dX7_pass_17 : decode cX7_pass 17 = .ok (.ifCond .le 7, 3) := by decide +kernel
theorem dX7_pass_20 : decode cX7_pass 20 = .ok (.aload_n 0, 1) := by decide +kernel
theorem dX7_pass_21 : decode cX7_pass 21 = .ok (.invokevirtual 203, 3) := by decide +kernel
theorem dX7_pass_24 : decode cX7_pass 24 = .ok (.aload_n 0, 1) := by decide +kernel
theorem dX7_pass_25 : decode cX7_pass 25 = .ok (.getfield 22, 3) := by decide +kernel
theorem dX7_pass_28 : decode cX7_pass 28 = .ok (.bipush 10, 2) := by decide +kernel
theorem dX7_pass_30 : decode cX7_pass 30 = .ok (.dup2, 1) := by decide +kernel
theorem dX7_pass_31 : decode cX7_pass 31 = .ok (.iaload, 1) := by decide +kernel
theorem dX7_pass_32 : decode cX7_pass 32 = .ok (.aload_n 0, 1) := by decide +kernel
theorem dX7_pass_33 : decode cX7_pass 33 = .ok (.getfield 22, 3) := by decide +kernel
theorem dX7_pass_36 : decode cX7_pass 36 = .ok (.bipush 12, 2) := by decide +kernel
theorem dX7_pass_38 : decode cX7_pass 38 = .ok (.iaload, 1) := by decide +kernel
theorem dX7_pass_39 : decode cX7_pass 39 = .ok (.bipush 6, 2) := by decide +kernel
theorem dX7_pass_41 : decode cX7_pass 41 = .ok (.irem, 1) := by decide +kernel
theorem dX7_pass_42 : decode cX7_pass 42 = .ok (.iconst 5, 1) := by decide +kernel
theorem dX7_pass_43 : decode cX7_pass 43 = .ok (.if_icmp .ne 17, 3) := by decide +kernel
theorem dX7_pass_46 : decode cX7_pass 46 = .ok (.aload_n 0, 1) := by decide +kernel
theorem dX7_pass_47 : decode cX7_pass 47 = .ok (.getfield 22, 3) := by decide +kernel
theorem dX7_pass_50 : decode cX7_pass 50 = .ok (.bipush 10, 2) := by decide +kernel
theorem dX7_pass_52 : decode cX7_pass 52 = .ok (.iaload, 1) := by decide +kernel
theorem dX7_pass_53 : decode cX7_pass 53 = .ok (.ifCond .le 7, 3) := by decide +kernel
theorem dX7_pass_56 : decode cX7_pass 56 = .ok (.iconst 1, 1) := by decide +kernel
theorem dX7_pass_57 : decode cX7_pass 57 = .ok (.goto 4, 3) := by decide +kernel
theorem dX7_pass_60 : decode cX7_pass 60 = .ok (.iconst 0, 1) := by decide +kernel
theorem dX7_pass_61 : decode cX7_pass 61 = .ok (.isub, 1) := by decide +kernel
theorem dX7_pass_62 : decode cX7_pass 62 = .ok (.iastore, 1) := by decide +kernel
theorem dX7_pass_63 : decode cX7_pass 63 = .ok (.aload_n 0, 1) := by decide +kernel
theorem dX7_pass_64 : decode cX7_pass 64 = .ok (.getfield 22, 3) := by decide +kernel
theorem dX7_pass_67 : decode cX7_pass 67 = .ok (.bipush 12, 2) := by decide +kernel
theorem dX7_pass_69 : decode cX7_pass 69 = .ok (.dup2, 1) := by decide +kernel
theorem dX7_pass_70 : decode cX7_pass 70 = .ok (.iaload, 1) := by decide +kernel
theorem dX7_pass_71 : decode cX7_pass 71 = .ok (.iconst 1, 1) := by decide +kernel
theorem dX7_pass_72 : decode cX7_pass 72 = .ok (.iadd, 1) := by decide +kernel
theorem dX7_pass_73 : decode cX7_pass 73 = .ok (.iastore, 1) := by decide +kernel
theorem dX7_pass_74 : decode cX7_pass 74 = .ok (.return_, 1) := by decide +kernel
theorem dX7_downOf_0 : decode cX7_downOf 0 = .ok (.iconst 0, 1) := by decide +kernel
theorem dX7_downOf_1 : decode cX7_downOf 1 = .ok (.istore_n 2, 1) := by decide +kernel
theorem dX7_downOf_2 : decode cX7_downOf 2 = .ok (.iload_n 1, 1) := by decide +kernel
theorem dX7_downOf_3 : decode cX7_downOf 3 = .ok (.istore_n 3, 1) := by decide +kernel
theorem dX7_downOf_4 : decode cX7_downOf 4 = .ok (.iload_n 1, 1) := by decide +kernel
theorem dX7_downOf_5 : decode cX7_downOf 5 = .ok (.ifCond .eq 7, 3) := by decide +kernel
theorem dX7_downOf_8 : decode cX7_downOf 8 = .ok (.iconst 1, 1) := by decide +kernel
theorem dX7_downOf_9 : decode cX7_downOf 9 = .ok (.goto 4, 3) := by decide +kernel
theorem dX7_downOf_12 : decode cX7_downOf 12 = .ok (.iconst 0, 1) := by decide +kernel
theorem dX7_downOf_13 : decode cX7_downOf 13 = .ok (.istore 4, 2) := by decide +kernel
theorem dX7_downOf_15 : decode cX7_downOf 15 = .ok (.iload 4, 2) := by decide +kernel
theorem dX7_downOf_17 : decode cX7_downOf 17 = .ok (.ifCond .eq 34, 3) := by decide +kernel
theorem dX7_downOf_20 : decode cX7_downOf 20 = .ok (.aload_n 0, 1) := by decide +kernel
theorem dX7_downOf_21 : decode cX7_downOf 21 = .ok (.getfield 7, 3) := by decide +kernel
theorem dX7_downOf_24 : decode cX7_downOf 24 = .ok (.iload_n 3, 1) := by decide +kernel
theorem dX7_downOf_25 : decode cX7_downOf 25 = .ok (.iaload, 1) := by decide +kernel
theorem dX7_downOf_26 : decode cX7_downOf 26 = .ok (.istore_n 3, 1) := by decide +kernel
theorem dX7_downOf_27 : decode cX7_downOf 27 = .ok (.iload_n 2, 1) := by decide +kernel
theorem dX7_downOf_28 : decode cX7_downOf 28 = .ok (.iconst 1, 1) := by decide +kernel
theorem dX7_downOf_29 : decode cX7_downOf 29 = .ok (.iload_n 3, 1) := by decide +kernel
theorem dX7_downOf_30 : decode cX7_downOf 30 = .ok (.ishl, 1) := by decide +kernel
theorem dX7_downOf_31 : decode cX7_downOf 31 = .ok (.ior, 1) := by decide +kernel
theorem dX7_downOf_32 : decode cX7_downOf 32 = .ok (.istore_n 2, 1) := by decide +kernel
theorem dX7_downOf_33 : decode cX7_downOf 33 = .ok (.aload_n 0, 1) := by decide +kernel
theorem dX7_downOf_34 : decode cX7_downOf 34 = .ok (.iload_n 3, 1) := by decide +kernel
theorem dX7_downOf_35 : decode cX7_downOf 35 = .ok (.invokevirtual 192, 3) := by decide +kernel
theorem dX7_downOf_38 : decode cX7_downOf 38 = .ok (.ifCond .ne 7, 3) := by decide +kernel
theorem dX7_downOf_41 : decode cX7_downOf 41 = .ok (.iconst 1, 1) := by decide +kernel
theorem dX7_downOf_42 : decode cX7_downOf 42 = .ok (.goto 4, 3) := by decide +kernel
theorem dX7_downOf_45 : decode cX7_downOf 45 = .ok (.iconst 0, 1) := by decide +kernel
theorem dX7_downOf_46 : decode cX7_downOf 46 = .ok (.istore 4, 2) := by decide +kernel
theorem dX7_downOf_48 : decode cX7_downOf 48 = .ok (.goto (-33), 3) := by decide +kernel
theorem dX7_downOf_51 : decode cX7_downOf 51 = .ok (.iload_n 2, 1) := by decide +kernel
theorem dX7_downOf_52 : decode cX7_downOf 52 = .ok (.ireturn, 1) := by decide +kernel
theorem dX7_upOf_0 : decode cX7_upOf 0 = .ok (.iconst 0, 1) := by decide +kernel
theorem dX7_upOf_1 : decode cX7_upOf 1 = .ok (.istore_n 2, 1) := by decide +kernel
theorem dX7_upOf_2 : decode cX7_upOf 2 = .ok (.iconst 0, 1) := by decide +kernel
theorem dX7_upOf_3 : decode cX7_upOf 3 = .ok (.istore_n 3, 1) := by decide +kernel
theorem dX7_upOf_4 : decode cX7_upOf 4 = .ok (.iload_n 3, 1) := by decide +kernel
theorem dX7_upOf_5 : decode cX7_upOf 5 = .ok (.aload_n 0, 1) := by decide +kernel
theorem dX7_upOf_6 : decode cX7_upOf 6 = .ok (.getfield 81, 3) := by decide +kernel
theorem dX7_upOf_9 : decode cX7_upOf 9 = .ok (.if_icmp .ge 31, 3) := by decide +kernel
theorem dX7_upOf_12 : decode cX7_upOf 12 = .ok (.iload_n 2, 1) := by decide +kernel
theorem dX7_upOf_13 : decode cX7_upOf 13 = .ok (.aload_n 0, 1) := by decide +kernel
theorem dX7_upOf_14 : decode cX7_upOf 14 = .ok (.iload_n 3, 1) := by decide +kernel
theorem dX7_upOf_15 : decode cX7_upOf 15 = .ok (.invokevirtual 206, 3) := by decide +kernel
theorem dX7_upOf_18 : decode cX7_upOf 18 = .ok (.iload_n 1, 1) := by decide +kernel
theorem dX7_upOf_19 : decode cX7_upOf 19 = .ok (.invokestatic 163, 3) := by decide +kernel
theorem dX7_upOf_22 : decode cX7_upOf 22 = .ok (.ifCond .eq 9, 3) := by decide +kernel
theorem dX7_upOf_25 : decode cX7_upOf 25 = .ok (.iconst 1, 1) := by decide +kernel
theorem dX7_upOf_26 : decode cX7_upOf 26 = .ok (.iload_n 3, 1) := by decide +kernel
theorem dX7_upOf_27 : decode cX7_upOf 27 = .ok (.ishl, 1) := by decide +kernel
theorem dX7_upOf_28 : decode cX7_upOf 28 = .ok (.goto 4, 3) := by decide +kernel
theorem dX7_upOf_31 : decode cX7_upOf 31 = .ok (.iconst 0, 1) := by decide +kernel
theorem dX7_upOf_32 : decode cX7_upOf 32 = .ok (.ior, 1) := by decide +kernel
theorem dX7_upOf_33 : decode cX7_upOf 33 = .ok (.istore_n 2, 1) := by decide +kernel
theorem dX7_upOf_34 : decode cX7_upOf 34 = .ok (.iinc 3 1, 3) := by decide +kernel
theorem dX7_upOf_37 : decode cX7_upOf 37 = .ok (.goto (-33), 3) := by decide +kernel
theorem dX7_upOf_40 : decode cX7_upOf 40 = .ok (.iload_n 2, 1) := by decide +kernel
theorem dX7_upOf_41 : decode cX7_upOf 41 = .ok (.ireturn, 1) := by decide +kernel
theorem dX7_wordAt_0 : decode cX7_wordAt 0 = .ok (.iload_n 1, 1) := by decide +kernel
theorem dX7_wordAt_1 : decode cX7_wordAt 1 = .ok (.istore 4, 2) := by decide +kernel
theorem dX7_wordAt_3 : decode cX7_wordAt 3 = .ok (.iload_n 3, 1) := by decide +kernel
theorem dX7_wordAt_4 : decode cX7_wordAt 4 = .ok (.istore 5, 2) := by decide +kernel
theorem dX7_wordAt_6 : decode cX7_wordAt 6 = .ok (.iload 4, 2) := by decide +kernel
theorem dX7_wordAt_8 : decode cX7_wordAt 8 = .ok (.iload_n 2, 1) := by decide +kernel
theorem dX7_wordAt_9 : decode cX7_wordAt 9 = .ok (.if_icmp .eq 25, 3) := by decide +kernel
theorem dX7_wordAt_12 : decode cX7_wordAt 12 = .ok (.aload_n 0, 1) := by decide +kernel
theorem dX7_wordAt_13 : decode cX7_wordAt 13 = .ok (.iload 4, 2) := by decide +kernel
theorem dX7_wordAt_15 : decode cX7_wordAt 15 = .ok (.iload 5, 2) := by decide +kernel
theorem dX7_wordAt_17 : decode cX7_wordAt 17 = .ok (.invokevirtual 185, 3) := by decide +kernel
theorem dX7_wordAt_20 : decode cX7_wordAt 20 = .ok (.istore 5, 2) := by decide +kernel
theorem dX7_wordAt_22 : decode cX7_wordAt 22 = .ok (.aload_n 0, 1) := by decide +kernel
theorem dX7_wordAt_23 : decode cX7_wordAt 23 = .ok (.getfield 7, 3) := by decide +kernel
theorem dX7_wordAt_26 : decode cX7_wordAt 26 = .ok (.iload 4, 2) := by decide +kernel
theorem dX7_wordAt_28 : decode cX7_wordAt 28 = .ok (.iaload, 1) := by decide +kernel
theorem dX7_wordAt_29 : decode cX7_wordAt 29 = .ok (.istore 4, 2) := by decide +kernel
theorem dX7_wordAt_31 : decode cX7_wordAt 31 = .ok (.goto (-25), 3) := by decide +kernel
theorem dX7_wordAt_34 : decode cX7_wordAt 34 = .ok (.iload 5, 2) := by decide +kernel
theorem dX7_wordAt_36 : decode cX7_wordAt 36 = .ok (.ireturn, 1) := by decide +kernel
theorem dX7_hoursTo_0 : decode cX7_hoursTo 0 = .ok (.iload_n 1, 1) := by decide +kernel
theorem dX7_hoursTo_1 : decode cX7_hoursTo 1 = .ok (.istore_n 3, 1) := by decide +kernel
theorem dX7_hoursTo_2 : decode cX7_hoursTo 2 = .ok (.iconst 0, 1) := by decide +kernel
theorem dX7_hoursTo_3 : decode cX7_hoursTo 3 = .ok (.istore 4, 2) := by decide +kernel
theorem dX7_hoursTo_5 : decode cX7_hoursTo 5 = .ok (.iload_n 3, 1) := by decide +kernel
theorem dX7_hoursTo_6 : decode cX7_hoursTo 6 = .ok (.iload_n 2, 1) := by decide +kernel
theorem dX7_hoursTo_7 : decode cX7_hoursTo 7 = .ok (.if_icmp .eq 44, 3) := by decide +kernel
theorem dX7_hoursTo_10 : decode cX7_hoursTo 10 = .ok (.iload 4, 2) := by decide +kernel
theorem dX7_hoursTo_12 : decode cX7_hoursTo 12 = .ok (.iconst 4, 1) := by decide +kernel
theorem dX7_hoursTo_13 : decode cX7_hoursTo 13 = .ok (.aload_n 0, 1) := by decide +kernel
theorem dX7_hoursTo_14 : decode cX7_hoursTo 14 = .ok (.getfield 13, 3) := by decide +kernel
theorem dX7_hoursTo_17 : decode cX7_hoursTo 17 = .ok (.iload_n 3, 1) := by decide +kernel
theorem dX7_hoursTo_18 : decode cX7_hoursTo 18 = .ok (.iaload, 1) := by decide +kernel
theorem dX7_hoursTo_19 : decode cX7_hoursTo 19 = .ok (.imul, 1) := by decide +kernel
theorem dX7_hoursTo_20 : decode cX7_hoursTo 20 = .ok (.aload_n 0, 1) := by decide +kernel
theorem dX7_hoursTo_21 : decode cX7_hoursTo 21 = .ok (.getfield 22, 3) := by decide +kernel
theorem dX7_hoursTo_24 : decode cX7_hoursTo 24 = .ok (.bipush 10, 2) := by decide +kernel
theorem dX7_hoursTo_26 : decode cX7_hoursTo 26 = .ok (.iaload, 1) := by decide +kernel
theorem dX7_hoursTo_27 : decode cX7_hoursTo 27 = .ok (.iadd, 1) := by decide +kernel
theorem dX7_hoursTo_28 : decode cX7_hoursTo 28 = .ok (.iconst 1, 1) := by decide +kernel
theorem dX7_hoursTo_29 : decode cX7_hoursTo 29 = .ok (.isub, 1) := by decide +kernel
theorem dX7_hoursTo_30 : decode cX7_hoursTo 30 = .ok (.aload_n 0, 1) := by decide +kernel
theorem dX7_hoursTo_31 : decode cX7_hoursTo 31 = .ok (.getfield 22, 3) := by decide +kernel
theorem dX7_hoursTo_34 : decode cX7_hoursTo 34 = .ok (.bipush 10, 2) := by decide +kernel
theorem dX7_hoursTo_36 : decode cX7_hoursTo 36 = .ok (.iaload, 1) := by decide +kernel
theorem dX7_hoursTo_37 : decode cX7_hoursTo 37 = .ok (.idiv, 1) := by decide +kernel
theorem dX7_hoursTo_38 : decode cX7_hoursTo 38 = .ok (.iadd, 1) := by decide +kernel
theorem dX7_hoursTo_39 : decode cX7_hoursTo 39 = .ok (.istore 4, 2) := by decide +kernel
theorem dX7_hoursTo_41 : decode cX7_hoursTo 41 = .ok (.aload_n 0, 1) := by decide +kernel
theorem dX7_hoursTo_42 : decode cX7_hoursTo 42 = .ok (.getfield 7, 3) := by decide +kernel
theorem dX7_hoursTo_45 : decode cX7_hoursTo 45 = .ok (.iload_n 3, 1) := by decide +kernel
theorem dX7_hoursTo_46 : decode cX7_hoursTo 46 = .ok (.iaload, 1) := by decide +kernel
theorem dX7_hoursTo_47 : decode cX7_hoursTo 47 = .ok (.istore_n 3, 1) := by decide +kernel
theorem dX7_hoursTo_48 : decode cX7_hoursTo 48 = .ok (.goto (-43), 3) := by decide +kernel
theorem dX7_hoursTo_51 : decode cX7_hoursTo 51 = .ok (.iload 4, 2) := by decide +kernel
theorem dX7_hoursTo_53 : decode cX7_hoursTo 53 = .ok (.ireturn, 1) := by decide +kernel
theorem dX7_loudest_0 : decode cX7_loudest 0 = .ok (.iconst (-1), 1) := by decide +kernel
theorem dX7_loudest_1 : decode cX7_loudest 1 = .ok (.istore_n 1, 1) := by decide +kernel
theorem dX7_loudest_2 : decode cX7_loudest 2 = .ok (.iconst 0, 1) := by decide +kernel
theorem dX7_loudest_3 : decode cX7_loudest 3 = .ok (.istore_n 2, 1) := by decide +kernel
theorem dX7_loudest_4 : decode cX7_loudest 4 = .ok (.iconst 0, 1) := by decide +kernel
theorem dX7_loudest_5 : decode cX7_loudest 5 = .ok (.istore_n 3, 1) := by decide +kernel
theorem dX7_loudest_6 : decode cX7_loudest 6 = .ok (.iload_n 3, 1) := by decide +kernel
theorem dX7_loudest_7 : decode cX7_loudest 7 = .ok (.aload_n 0, 1) := by decide +kernel
theorem dX7_loudest_8 : decode cX7_loudest 8 = .ok (.getfield 81, 3) := by decide +kernel
theorem dX7_loudest_11 : decode cX7_loudest 11 = .ok (.if_icmp .ge 55, 3) := by decide +kernel
theorem dX7_loudest_14 : decode cX7_loudest 14 = .ok (.aload_n 0, 1) := by decide +kernel
theorem dX7_loudest_15 : decode cX7_loudest 15 = .ok (.getfield 22, 3) := by decide +kernel
theorem dX7_loudest_18 : decode cX7_loudest 18 = .ok (.bipush 23, 2) := by decide +kernel
theorem dX7_loudest_20 : decode cX7_loudest 20 = .ok (.iload_n 3, 1) := by decide +kernel
theorem dX7_loudest_21 : decode cX7_loudest 21 = .ok (.iadd, 1) := by decide +kernel
theorem dX7_loudest_22 : decode cX7_loudest 22 = .ok (.iaload, 1) := by decide +kernel
theorem dX7_loudest_23 : decode cX7_loudest 23 = .ok (.iload_n 2, 1) := by decide +kernel
theorem dX7_loudest_24 : decode cX7_loudest 24 = .ok (.if_icmp .le 7, 3) := by decide +kernel
theorem dX7_loudest_27 : decode cX7_loudest 27 = .ok (.iload_n 3, 1) := by decide +kernel
theorem dX7_loudest_28 : decode cX7_loudest 28 = .ok (.goto 4, 3) := by decide +kernel
theorem dX7_loudest_31 : decode cX7_loudest 31 = .ok (.iload_n 1, 1) := by decide +kernel
theorem dX7_loudest_32 : decode cX7_loudest 32 = .ok (.istore_n 1, 1) := by decide +kernel
theorem dX7_loudest_33 : decode cX7_loudest 33 = .ok (.aload_n 0, 1) := by decide +kernel
theorem dX7_loudest_34 : decode cX7_loudest 34 = .ok (.getfield 22, 3) := by decide +kernel
theorem dX7_loudest_37 : decode cX7_loudest 37 = .ok (.bipush 23, 2) := by decide +kernel
theorem dX7_loudest_39 : decode cX7_loudest 39 = .ok (.iload_n 3, 1) := by decide +kernel
theorem dX7_loudest_40 : decode cX7_loudest 40 = .ok (.iadd, 1) := by decide +kernel
theorem dX7_loudest_41 : decode cX7_loudest 41 = .ok (.iaload, 1) := by decide +kernel
theorem dX7_loudest_42 : decode cX7_loudest 42 = .ok (.iload_n 2, 1) := by decide +kernel
theorem dX7_loudest_43 : decode cX7_loudest 43 = .ok (.if_icmp .le 15, 3) := by decide +kernel
theorem dX7_loudest_46 : decode cX7_loudest 46 = .ok (.aload_n 0, 1) := by decide +kernel
theorem dX7_loudest_47 : decode cX7_loudest 47 = .ok (.getfield 22, 3) := by decide +kernel
theorem dX7_loudest_50 : decode cX7_loudest 50 = .ok (.bipush 23, 2) := by decide +kernel
theorem dX7_loudest_52 : decode cX7_loudest 52 = .ok (.iload_n 3, 1) := by decide +kernel
theorem dX7_loudest_53 : decode cX7_loudest 53 = .ok (.iadd, 1) := by decide +kernel
theorem dX7_loudest_54 : decode cX7_loudest 54 = .ok (.iaload, 1) := by decide +kernel
theorem dX7_loudest_55 : decode cX7_loudest 55 = .ok (.goto 4, 3) := by decide +kernel
theorem dX7_loudest_58 : decode cX7_loudest 58 = .ok (.iload_n 2, 1) := by decide +kernel
theorem dX7_loudest_59 : decode cX7_loudest 59 = .ok (.istore_n 2, 1) := by decide +kernel
theorem dX7_loudest_60 : decode cX7_loudest 60 = .ok (.iinc 3 1, 3) := by decide +kernel
theorem dX7_loudest_63 : decode cX7_loudest 63 = .ok (.goto (-57), 3) := by decide +kernel
theorem dX7_loudest_66 : decode cX7_loudest 66 = .ok (.iload_n 1, 1) := by decide +kernel
theorem dX7_loudest_67 : decode cX7_loudest 67 = .ok (.ireturn, 1) := by decide +kernel
theorem dX7_bottom_0 : decode cX7_bottom 0 = .ok (.iconst (-1), 1) := by decide +kernel
theorem dX7_bottom_1 : decode cX7_bottom 1 = .ok (.istore_n 1, 1) := by decide +kernel
theorem dX7_bottom_2 : decode cX7_bottom 2 = .ok (.iconst (-1), 1) := by decide +kernel
theorem dX7_bottom_3 : decode cX7_bottom 3 = .ok (.istore_n 2, 1) := by decide +kernel
theorem dX7_bottom_4 : decode cX7_bottom 4 = .ok (.iconst 1, 1) := by decide +kernel
theorem dX7_bottom_5 : decode cX7_bottom 5 = .ok (.istore_n 3, 1) := by decide +kernel
theorem dX7_bottom_6 : decode cX7_bottom 6 = .ok (.iload_n 3, 1) := by decide +kernel
theorem dX7_bottom_7 : decode cX7_bottom 7 = .ok (.aload_n 0, 1) := by decide +kernel
theorem dX7_bottom_8 : decode cX7_bottom 8 = .ok (.getfield 81, 3) := by decide +kernel
theorem dX7_bottom_11 : decode cX7_bottom 11 = .ok (.if_icmp .ge 44, 3) := by decide +kernel
theorem dX7_bottom_14 : decode cX7_bottom 14 = .ok (.aload_n 0, 1) := by decide +kernel
theorem dX7_bottom_15 : decode cX7_bottom 15 = .ok (.iload_n 3, 1) := by decide +kernel
theorem dX7_bottom_16 : decode cX7_bottom 16 = .ok (.invokevirtual 209, 3) := by decide +kernel
theorem dX7_bottom_19 : decode cX7_bottom 19 = .ok (.invokestatic 212, 3) := by decide +kernel
theorem dX7_bottom_22 : decode cX7_bottom 22 = .ok (.istore 4, 2) := by decide +kernel
theorem dX7_bottom_24 : decode cX7_bottom 24 = .ok (.iload 4, 2) := by decide +kernel
theorem dX7_bottom_26 : decode cX7_bottom 26 = .ok (.iload_n 2, 1) := by decide +kernel
theorem dX7_bottom_27 : decode cX7_bottom 27 = .ok (.if_icmp .le 7, 3) := by decide +kernel
theorem dX7_bottom_30 : decode cX7_bottom 30 = .ok (.iload_n 3, 1) := by decide +kernel
theorem dX7_bottom_31 : decode cX7_bottom 31 = .ok (.goto 4, 3) := by decide +kernel
theorem dX7_bottom_34 : decode cX7_bottom 34 = .ok (.iload_n 1, 1) := by decide +kernel
theorem dX7_bottom_35 : decode cX7_bottom 35 = .ok (.istore_n 1, 1) := by decide +kernel
theorem dX7_bottom_36 : decode cX7_bottom 36 = .ok (.iload 4, 2) := by decide +kernel
theorem dX7_bottom_38 : decode cX7_bottom 38 = .ok (.iload_n 2, 1) := by decide +kernel
theorem dX7_bottom_39 : decode cX7_bottom 39 = .ok (.if_icmp .le 8, 3) := by decide +kernel
theorem dX7_bottom_42 : decode cX7_bottom 42 = .ok (.iload 4, 2) := by decide +kernel
theorem dX7_bottom_44 : decode cX7_bottom 44 = .ok (.goto 4, 3) := by decide +kernel
theorem dX7_bottom_47 : decode cX7_bottom 47 = .ok (.iload_n 2, 1) := by decide +kernel
theorem dX7_bottom_48 : decode cX7_bottom 48 = .ok (.istore_n 2, 1) := by decide +kernel
theorem dX7_bottom_49 : decode cX7_bottom 49 = .ok (.iinc 3 1, 3) := by decide +kernel
theorem dX7_bottom_52 : decode cX7_bottom 52 = .ok (.goto (-46), 3) := by decide +kernel
theorem dX7_bottom_55 : decode cX7_bottom 55 = .ok (.iload_n 1, 1) := by decide +kernel
theorem dX7_bottom_56 : decode cX7_bottom 56 = .ok (.ireturn, 1) := by decide +kernel
theorem dX7_even_0 : decode cX7_even 0 = .ok (.iconst 0, 1) := by decide +kernel
theorem dX7_even_1 : decode cX7_even 1 = .ok (.istore_n 1, 1) := by decide +kernel
theorem dX7_even_2 : decode cX7_even 2 = .ok (.iconst 1, 1) := by decide +kernel
theorem dX7_even_3 : decode cX7_even 3 = .ok (.istore_n 2, 1) := by decide +kernel
theorem dX7_even_4 : decode cX7_even 4 = .ok (.iload_n 2, 1) := by decide +kernel
theorem dX7_even_5 : decode cX7_even 5 = .ok (.aload_n 0, 1) := by decide +kernel
theorem dX7_even_6 : decode cX7_even 6 = .ok (.getfield 81, 3) := by decide +kernel
theorem dX7_even_9 : decode cX7_even 9 = .ok (.if_icmp .ge 74, 3) := by decide +kernel
theorem dX7_even_12 : decode cX7_even 12 = .ok (.aload_n 0, 1) := by decide +kernel
theorem dX7_even_13 : decode cX7_even 13 = .ok (.iload_n 2, 1) := by decide +kernel
theorem dX7_even_14 : decode cX7_even 14 = .ok (.invokevirtual 206, 3) := by decide +kernel
theorem dX7_even_17 : decode cX7_even 17 = .ok (.iconst 0, 1) := by decide +kernel
theorem dX7_even_18 : decode cX7_even 18 = .ok (.invokestatic 163, 3) := by decide +kernel
theorem dX7_even_21 : decode cX7_even 21 = .ok (.istore_n 3, 1) := by decide +kernel
theorem dX7_even_22 : decode cX7_even 22 = .ok (.iconst 0, 1) := by decide +kernel
theorem dX7_even_23 : decode cX7_even 23 = .ok (.istore 4, 2) := by decide +kernel
theorem dX7_even_25 : decode cX7_even 25 = .ok (.iload 4, 2) := by decide +kernel
theorem dX7_even_27 : decode cX7_even 27 = .ok (.aload_n 0, 1) := by decide +kernel
theorem dX7_even_28 : decode cX7_even 28 = .ok (.getfield 88, 3) := by decide +kernel
theorem dX7_even_31 : decode cX7_even 31 = .ok (.if_icmp .ge 32, 3) := by decide +kernel
theorem dX7_even_34 : decode cX7_even 34 = .ok (.iload_n 3, 1) := by decide +kernel
theorem dX7_even_35 : decode cX7_even 35 = .ok (.ifCond .eq 28, 3) := by decide +kernel
theorem dX7_even_38 : decode cX7_even 38 = .ok (.aload_n 0, 1) := by decide +kernel
theorem dX7_even_39 : decode cX7_even 39 = .ok (.iload_n 2, 1) := by decide +kernel
theorem dX7_even_40 : decode cX7_even 40 = .ok (.iconst 0, 1) := by decide +kernel
theorem dX7_even_41 : decode cX7_even 41 = .ok (.iload 4, 2) := by decide +kernel
theorem dX7_even_43 : decode cX7_even 43 = .ok (.invokevirtual 215, 3) := by decide +kernel
theorem dX7_even_46 : decode cX7_even 46 = .ok (.iload 4, 2) := by decide +kernel
theorem dX7_even_48 : decode cX7_even 48 = .ok (.if_icmp .ne 7, 3) := by decide +kernel
theorem dX7_even_51 : decode cX7_even 51 = .ok (.iconst 1, 1) := by decide +kernel
theorem dX7_even_52 : decode cX7_even 52 = .ok (.goto 4, 3) := by decide +kernel
theorem dX7_even_55 : decode cX7_even 55 = .ok (.iconst 0, 1) := by decide +kernel
theorem dX7_even_56 : decode cX7_even 56 = .ok (.istore_n 3, 1) := by decide +kernel
theorem dX7_even_57 : decode cX7_even 57 = .ok (.iinc 4 1, 3) := by decide +kernel
theorem dX7_even_60 : decode cX7_even 60 = .ok (.goto (-35), 3) := by decide +kernel
theorem dX7_even_63 : decode cX7_even 63 = .ok (.iload_n 1, 1) := by decide +kernel
theorem dX7_even_64 : decode cX7_even 64 = .ok (.iload_n 3, 1) := by decide +kernel
theorem dX7_even_65 : decode cX7_even 65 = .ok (.ifCond .eq 9, 3) := by decide +kernel
theorem dX7_even_68 : decode cX7_even 68 = .ok (.iconst 1, 1) := by decide +kernel
theorem dX7_even_69 : decode cX7_even 69 = .ok (.iload_n 2, 1) := by decide +kernel
theorem dX7_even_70 : decode cX7_even 70 = .ok (.ishl, 1) := by decide +kernel
theorem dX7_even_71 : decode cX7_even 71 = .ok (.goto 4, 3) := by decide +kernel
theorem dX7_even_74 : decode cX7_even 74 = .ok (.iconst 0, 1) := by decide +kernel
theorem dX7_even_75 : decode cX7_even 75 = .ok (.ior, 1) := by decide +kernel
theorem dX7_even_76 : decode cX7_even 76 = .ok (.istore_n 1, 1) := by decide +kernel
theorem dX7_even_77 : decode cX7_even 77 = .ok (.iinc 2 1, 3) := by decide +kernel
theorem dX7_even_80 : decode cX7_even 80 = .ok (.goto (-76), 3) := by decide +kernel
theorem dX7_even_83 : decode cX7_even 83 = .ok (.iload_n 1, 1) := by decide +kernel
theorem dX7_even_84 : decode cX7_even 84 = .ok (.ireturn, 1) := by decide +kernel
theorem dX7_longest_0 : decode cX7_longest 0 = .ok (.iconst (-1), 1) := by decide +kernel
theorem dX7_longest_1 : decode cX7_longest 1 = .ok (.istore_n 1, 1) := by decide +kernel
theorem dX7_longest_2 : decode cX7_longest 2 = .ok (.iconst 0, 1) := by decide +kernel
theorem dX7_longest_3 : decode cX7_longest 3 = .ok (.istore_n 2, 1) := by decide +kernel
theorem dX7_longest_4 : decode cX7_longest 4 = .ok (.iconst 1, 1) := by decide +kernel
theorem dX7_longest_5 : decode cX7_longest 5 = .ok (.istore_n 3, 1) := by decide +kernel
theorem dX7_longest_6 : decode cX7_longest 6 = .ok (.iload_n 3, 1) := by decide +kernel
theorem dX7_longest_7 : decode cX7_longest 7 = .ok (.aload_n 0, 1) := by decide +kernel
theorem dX7_longest_8 : decode cX7_longest 8 = .ok (.getfield 81, 3) := by decide +kernel
theorem dX7_longest_11 : decode cX7_longest 11 = .ok (.if_icmp .ge 68, 3) := by decide +kernel
theorem dX7_longest_14 : decode cX7_longest 14 = .ok (.aload_n 0, 1) := by decide +kernel
theorem dX7_longest_15 : decode cX7_longest 15 = .ok (.getfield 22, 3) := by decide +kernel
theorem dX7_longest_18 : decode cX7_longest 18 = .ok (.bipush 10, 2) := by decide +kernel
theorem dX7_longest_20 : decode cX7_longest 20 = .ok (.iaload, 1) := by decide +kernel
theorem dX7_longest_21 : decode cX7_longest 21 = .ok (.ifCond .le 58, 3) := by decide +kernel
theorem dX7_longest_24 : decode cX7_longest 24 = .ok (.aload_n 0, 1) := by decide +kernel
theorem dX7_longest_25 : decode cX7_longest 25 = .ok (.iload_n 3, 1) := by decide +kernel
theorem dX7_longest_26 : decode cX7_longest 26 = .ok (.invokevirtual 206, 3) := by decide +kernel
theorem dX7_longest_29 : decode cX7_longest 29 = .ok (.iconst 0, 1) := by decide +kernel
theorem dX7_longest_30 : decode cX7_longest 30 = .ok (.invokestatic 163, 3) := by decide +kernel
theorem dX7_longest_33 : decode cX7_longest 33 = .ok (.ifCond .eq 12, 3) := by decide +kernel
theorem dX7_longest_36 : decode cX7_longest 36 = .ok (.aload_n 0, 1) := by decide +kernel
theorem dX7_longest_37 : decode cX7_longest 37 = .ok (.iload_n 3, 1) := by decide +kernel
theorem dX7_longest_38 : decode cX7_longest 38 = .ok (.iconst 0, 1) := by decide +kernel
theorem dX7_longest_39 : decode cX7_longest 39 = .ok (.invokevirtual 218, 3) := by decide +kernel
theorem dX7_longest_42 : decode cX7_longest 42 = .ok (.goto 4, 3) := by decide +kernel
theorem dX7_longest_45 : decode cX7_longest 45 = .ok (.iconst 0, 1) := by decide +kernel
theorem dX7_longest_46 : decode cX7_longest 46 = .ok (.istore 4, 2) := by decide +kernel
theorem dX7_longest_48 : decode cX7_longest 48 = .ok (.iload 4, 2) := by decide +kernel
theorem dX7_longest_50 : decode cX7_longest 50 = .ok (.iload_n 2, 1) := by decide +kernel
theorem dX7_longest_51 : decode cX7_longest 51 = .ok (.if_icmp .le 7, 3) := by decide +kernel
theorem dX7_longest_54 : decode cX7_longest 54 = .ok (.iload_n 3, 1) := by decide +kernel
theorem dX7_longest_55 : decode cX7_longest 55 = .ok (.goto 4, 3) := by decide +kernel
theorem dX7_longest_58 : decode cX7_longest 58 = .ok (.iload_n 1, 1) := by decide +kernel
theorem dX7_longest_59 : decode cX7_longest 59 = .ok (.istore_n 1, 1) := by decide +kernel
theorem dX7_longest_60 : decode cX7_longest 60 = .ok (.iload 4, 2) := by decide +kernel
theorem dX7_longest_62 : decode cX7_longest 62 = .ok (.iload_n 2, 1) := by decide +kernel
theorem dX7_longest_63 : decode cX7_longest 63 = .ok (.if_icmp .le 8, 3) := by decide +kernel
theorem dX7_longest_66 : decode cX7_longest 66 = .ok (.iload 4, 2) := by decide +kernel
theorem dX7_longest_68 : decode cX7_longest 68 = .ok (.goto 4, 3) := by decide +kernel
theorem dX7_longest_71 : decode cX7_longest 71 = .ok (.iload_n 2, 1) := by decide +kernel
theorem dX7_longest_72 : decode cX7_longest 72 = .ok (.istore_n 2, 1) := by decide +kernel
theorem dX7_longest_73 : decode cX7_longest 73 = .ok (.iinc 3 1, 3) := by decide +kernel
theorem dX7_longest_76 : decode cX7_longest 76 = .ok (.goto (-70), 3) := by decide +kernel
theorem dX7_longest_79 : decode cX7_longest 79 = .ok (.iload_n 1, 1) := by decide +kernel
theorem dX7_longest_80 : decode cX7_longest 80 = .ok (.ireturn, 1) := by decide +kernel
theorem dX7_told_0 : decode cX7_told 0 = .ok (.iload_n 1, 1) := by decide +kernel
theorem dX7_told_1 : decode cX7_told 1 = .ok (.tableswitch 189 0 16 #[83, 88, 93, 98, 106, 114, 122, 130, 138, 146, 151, 156, 161, 166, 174, 179, 184], 83) := by decide +kernel
theorem dX7_told_84 : decode cX7_told 84 = .ok (.aload_n 0, 1) := by decide +kernel
theorem dX7_told_85 : decode cX7_told 85 = .ok (.getfield 88, 3) := by decide +kernel
theorem dX7_told_88 : decode cX7_told 88 = .ok (.ireturn, 1) := by decide +kernel
theorem dX7_told_89 : decode cX7_told 89 = .ok (.aload_n 0, 1) := by decide +kernel
theorem dX7_told_90 : decode cX7_told 90 = .ok (.getfield 81, 3) := by decide +kernel
theorem dX7_told_93 : decode cX7_told 93 = .ok (.ireturn, 1) := by decide +kernel
theorem dX7_told_94 : decode cX7_told 94 = .ok (.aload_n 0, 1) := by decide +kernel
theorem dX7_told_95 : decode cX7_told 95 = .ok (.getfield 94, 3) := by decide +kernel
theorem dX7_told_98 : decode cX7_told 98 = .ok (.ireturn, 1) := by decide +kernel
theorem dX7_told_99 : decode cX7_told 99 = .ok (.aload_n 0, 1) := by decide +kernel
theorem dX7_told_100 : decode cX7_told 100 = .ok (.getfield 22, 3) := by decide +kernel
theorem dX7_told_103 : decode cX7_told 103 = .ok (.bipush 12, 2) := by decide +kernel
theorem dX7_told_105 : decode cX7_told 105 = .ok (.iaload, 1) := by decide +kernel
theorem dX7_told_106 : decode cX7_told 106 = .ok (.ireturn, 1) := by decide +kernel
theorem dX7_told_107 : decode cX7_told 107 = .ok (.aload_n 0, 1) := by decide +kernel
theorem dX7_told_108 : decode cX7_told 108 = .ok (.getfield 22, 3) := by decide +kernel
theorem dX7_told_111 : decode cX7_told 111 = .ok (.bipush 10, 2) := by decide +kernel
theorem dX7_told_113 : decode cX7_told 113 = .ok (.iaload, 1) := by decide +kernel
theorem dX7_told_114 : decode cX7_told 114 = .ok (.ireturn, 1) := by decide +kernel
theorem dX7_told_115 : decode cX7_told 115 = .ok (.aload_n 0, 1) := by decide +kernel
theorem dX7_told_116 : decode cX7_told 116 = .ok (.getfield 22, 3) := by decide +kernel
theorem dX7_told_119 : decode cX7_told 119 = .ok (.bipush 11, 2) := by decide +kernel
theorem dX7_told_121 : decode cX7_told 121 = .ok (.iaload, 1) := by decide +kernel
theorem dX7_told_122 : decode cX7_told 122 = .ok (.ireturn, 1) := by decide +kernel
theorem dX7_told_123 : decode cX7_told 123 = .ok (.aload_n 0, 1) := by decide +kernel
theorem dX7_told_124 : decode cX7_told 124 = .ok (.getfield 22, 3) := by decide +kernel
theorem dX7_told_127 : decode cX7_told 127 = .ok (.bipush 9, 2) := by decide +kernel
theorem dX7_told_129 : decode cX7_told 129 = .ok (.iaload, 1) := by decide +kernel
theorem dX7_told_130 : decode cX7_told 130 = .ok (.ireturn, 1) := by decide +kernel
theorem dX7_told_131 : decode cX7_told 131 = .ok (.aload_n 0, 1) := by decide +kernel
theorem dX7_told_132 : decode cX7_told 132 = .ok (.getfield 22, 3) := by decide +kernel
theorem dX7_told_135 : decode cX7_told 135 = .ok (.bipush 32, 2) := by decide +kernel
theorem dX7_told_137 : decode cX7_told 137 = .ok (.iaload, 1) := by decide +kernel
theorem dX7_told_138 : decode cX7_told 138 = .ok (.ireturn, 1) := by decide +kernel
theorem dX7_told_139 : decode cX7_told 139 = .ok (.aload_n 0, 1) := by decide +kernel
theorem dX7_told_140 : decode cX7_told 140 = .ok (.getfield 22, 3) := by decide +kernel
theorem dX7_told_143 : decode cX7_told 143 = .ok (.bipush 13, 2) := by decide +kernel
theorem dX7_told_145 : decode cX7_told 145 = .ok (.iaload, 1) := by decide +kernel
theorem dX7_told_146 : decode cX7_told 146 = .ok (.ireturn, 1) := by decide +kernel
theorem dX7_told_147 : decode cX7_told 147 = .ok (.aload_n 0, 1) := by decide +kernel
theorem dX7_told_148 : decode cX7_told 148 = .ok (.invokevirtual 221, 3) := by decide +kernel
theorem dX7_told_151 : decode cX7_told 151 = .ok (.ireturn, 1) := by decide +kernel
theorem dX7_told_152 : decode cX7_told 152 = .ok (.aload_n 0, 1) := by decide +kernel
theorem dX7_told_153 : decode cX7_told 153 = .ok (.invokevirtual 224, 3) := by decide +kernel
theorem dX7_told_156 : decode cX7_told 156 = .ok (.ireturn, 1) := by decide +kernel
theorem dX7_told_157 : decode cX7_told 157 = .ok (.aload_n 0, 1) := by decide +kernel
theorem dX7_told_158 : decode cX7_told 158 = .ok (.invokevirtual 227, 3) := by decide +kernel
theorem dX7_told_161 : decode cX7_told 161 = .ok (.ireturn, 1) := by decide +kernel
theorem dX7_told_162 : decode cX7_told 162 = .ok (.aload_n 0, 1) := by decide +kernel
theorem dX7_told_163 : decode cX7_told 163 = .ok (.invokevirtual 230, 3) := by decide +kernel
theorem dX7_told_166 : decode cX7_told 166 = .ok (.ireturn, 1) := by decide +kernel
theorem dX7_told_167 : decode cX7_told 167 = .ok (.aload_n 0, 1) := by decide +kernel
theorem dX7_told_168 : decode cX7_told 168 = .ok (.getfield 22, 3) := by decide +kernel
theorem dX7_told_171 : decode cX7_told 171 = .ok (.bipush 45, 2) := by decide +kernel
theorem dX7_told_173 : decode cX7_told 173 = .ok (.iaload, 1) := by decide +kernel
theorem dX7_told_174 : decode cX7_told 174 = .ok (.ireturn, 1) := by decide +kernel
theorem dX7_told_175 : decode cX7_told 175 = .ok (.aload_n 0, 1) := by decide +kernel
theorem dX7_told_176 : decode cX7_told 176 = .ok (.getfield 150, 3) := by decide +kernel
theorem dX7_told_179 : decode cX7_told 179 = .ok (.ireturn, 1) := by decide +kernel
theorem dX7_told_180 : decode cX7_told 180 = .ok (.aload_n 0, 1) := by decide +kernel
theorem dX7_told_181 : decode cX7_told 181 = .ok (.getfield 153, 3) := by decide +kernel
theorem dX7_told_184 : decode cX7_told 184 = .ok (.ireturn, 1) := by decide +kernel
theorem dX7_told_185 : decode cX7_told 185 = .ok (.aload_n 0, 1) := by decide +kernel
theorem dX7_told_186 : decode cX7_told 186 = .ok (.getfield 156, 3) := by decide +kernel
theorem dX7_told_189 : decode cX7_told 189 = .ok (.ireturn, 1) := by decide +kernel
theorem dX7_told_190 : decode cX7_told 190 = .ok (.ldc 93, 2) := by decide +kernel
theorem dX7_told_192 : decode cX7_told 192 = .ok (.ireturn, 1) := by decide +kernel
theorem dX7_farm_0 : decode cX7_farm 0 = .ok (.aload_n 0, 1) := by decide +kernel
theorem dX7_farm_1 : decode cX7_farm 1 = .ok (.iload_n 1, 1) := by decide +kernel
theorem dX7_farm_2 : decode cX7_farm 2 = .ok (.invokevirtual 233, 3) := by decide +kernel
theorem dX7_farm_5 : decode cX7_farm 5 = .ok (.ifCond .ne 6, 3) := by decide +kernel
theorem dX7_farm_8 : decode cX7_farm 8 = .ok (.ldc 236, 2) := by decide +kernel
theorem dX7_farm_10 : decode cX7_farm 10 = .ok (.ireturn, 1) := by decide +kernel
theorem dX7_farm_11 : decode cX7_farm 11 = .ok (.iload_n 2, 1) := by decide +kernel
theorem dX7_farm_12 : decode cX7_farm 12 = .ok (.tableswitch 122 0 5 #[40, 55, 70, 87, 102, 112], 40) := by decide +kernel
theorem dX7_farm_52 : decode cX7_farm 52 = .ok (.iload_n 1, 1) := by decide +kernel
theorem dX7_farm_53 : decode cX7_farm 53 = .ok (.ifCond .ne 7, 3) := by decide +kernel
theorem dX7_farm_56 : decode cX7_farm 56 = .ok (.iconst (-1), 1) := by decide +kernel
theorem dX7_farm_57 : decode cX7_farm 57 = .ok (.goto 9, 3) := by decide +kernel
theorem dX7_farm_60 : decode cX7_farm 60 = .ok (.aload_n 0, 1) := by decide +kernel
theorem dX7_farm_61 : decode cX7_farm 61 = .ok (.getfield 7, 3) := by decide +kernel
theorem dX7_farm_64 : decode cX7_farm 64 = .ok (.iload_n 1, 1) := by decide +kernel
theorem dX7_farm_65 : decode cX7_farm 65 = .ok (.iaload, 1) := by decide +kernel
theorem dX7_farm_66 : decode cX7_farm 66 = .ok (.ireturn, 1) := by decide +kernel
theorem dX7_farm_67 : decode cX7_farm 67 = .ok (.iload_n 1, 1) := by decide +kernel
theorem dX7_farm_68 : decode cX7_farm 68 = .ok (.ifCond .ne 7, 3) := by decide +kernel
theorem dX7_farm_71 : decode cX7_farm 71 = .ok (.iconst 0, 1) := by decide +kernel
theorem dX7_farm_72 : decode cX7_farm 72 = .ok (.goto 9, 3) := by decide +kernel
theorem dX7_farm_75 : decode cX7_farm 75 = .ok (.aload_n 0, 1) := by decide +kernel
theorem dX7_farm_76 : decode cX7_farm 76 = .ok (.getfield 13, 3) := by decide +kernel
theorem dX7_farm_79 : decode cX7_farm 79 = .ok (.iload_n 1, 1) := by decide +kernel
theorem dX7_farm_80 : decode cX7_farm 80 = .ok (.iaload, 1) := by decide +kernel
theorem dX7_farm_81 : decode cX7_farm 81 = .ok (.ireturn, 1) := by decide +kernel
theorem dX7_farm_82 : decode cX7_farm 82 = .ok (.iload_n 1, 1) := by decide +kernel
theorem dX7_farm_83 : decode cX7_farm 83 = .ok (.ifCond .ne 7, 3) := by decide +kernel
theorem dX7_farm_86 : decode cX7_farm 86 = .ok (.iconst 0, 1) := by decide +kernel
theorem dX7_farm_87 : decode cX7_farm 87 = .ok (.goto 11, 3) := by decide +kernel
theorem dX7_farm_90 : decode cX7_farm 90 = .ok (.aload_n 0, 1) := by decide +kernel
theorem dX7_farm_91 : decode cX7_farm 91 = .ok (.getfield 22, 3) := by decide +kernel
theorem dX7_farm_94 : decode cX7_farm 94 = .ok (.iconst 0, 1) := by decide +kernel
theorem dX7_farm_95 : decode cX7_farm 95 = .ok (.iload_n 1, 1) := by decide +kernel
theorem dX7_farm_96 : decode cX7_farm 96 = .ok (.iadd, 1) := by decide +kernel
theorem dX7_farm_97 : decode cX7_farm 97 = .ok (.iaload, 1) := by decide +kernel
theorem dX7_farm_98 : decode cX7_farm 98 = .ok (.ireturn, 1) := by decide +kernel
theorem dX7_farm_99 : decode cX7_farm 99 = .ok (.iload_n 1, 1) := by decide +kernel
theorem dX7_farm_100 : decode cX7_farm 100 = .ok (.ifCond .ne 7, 3) := by decide +kernel
theorem dX7_farm_103 : decode cX7_farm 103 = .ok (.iconst 0, 1) := by decide +kernel
theorem dX7_farm_104 : decode cX7_farm 104 = .ok (.goto 9, 3) := by decide +kernel
theorem dX7_farm_107 : decode cX7_farm 107 = .ok (.aload_n 0, 1) := by decide +kernel
theorem dX7_farm_108 : decode cX7_farm 108 = .ok (.getfield 19, 3) := by decide +kernel
theorem dX7_farm_111 : decode cX7_farm 111 = .ok (.iload_n 1, 1) := by decide +kernel
theorem dX7_farm_112 : decode cX7_farm 112 = .ok (.iaload, 1) := by decide +kernel
theorem dX7_farm_113 : decode cX7_farm 113 = .ok (.ireturn, 1) := by decide +kernel
theorem dX7_farm_114 : decode cX7_farm 114 = .ok (.aload_n 0, 1) := by decide +kernel
theorem dX7_farm_115 : decode cX7_farm 115 = .ok (.getfield 22, 3) := by decide +kernel
theorem dX7_farm_118 : decode cX7_farm 118 = .ok (.bipush 14, 2) := by decide +kernel
theorem dX7_farm_120 : decode cX7_farm 120 = .ok (.iload_n 1, 1) := by decide +kernel
theorem dX7_farm_121 : decode cX7_farm 121 = .ok (.iadd, 1) := by decide +kernel
theorem dX7_farm_122 : decode cX7_farm 122 = .ok (.iaload, 1) := by decide +kernel
theorem dX7_farm_123 : decode cX7_farm 123 = .ok (.ireturn, 1) := by decide +kernel
theorem dX7_farm_124 : decode cX7_farm 124 = .ok (.aload_n 0, 1) := by decide +kernel
theorem dX7_farm_125 : decode cX7_farm 125 = .ok (.getfield 22, 3) := by decide +kernel
theorem dX7_farm_128 : decode cX7_farm 128 = .ok (.bipush 23, 2) := by decide +kernel
theorem dX7_farm_130 : decode cX7_farm 130 = .ok (.iload_n 1, 1) := by decide +kernel
theorem dX7_farm_131 : decode cX7_farm 131 = .ok (.iadd, 1) := by decide +kernel
theorem dX7_farm_132 : decode cX7_farm 132 = .ok (.iaload, 1) := by decide +kernel
theorem dX7_farm_133 : decode cX7_farm 133 = .ok (.ireturn, 1) := by decide +kernel
theorem dX7_farm_134 : decode cX7_farm 134 = .ok (.ldc 93, 2) := by decide +kernel
theorem dX7_farm_136 : decode cX7_farm 136 = .ok (.ireturn, 1) := by decide +kernel
theorem dX7_talk_0 : decode cX7_talk 0 = .ok (.iload_n 1, 1) := by decide +kernel
theorem dX7_talk_1 : decode cX7_talk 1 = .ok (.i2l, 1) := by decide +kernel
theorem dX7_talk_2 : decode cX7_talk 2 = .ok (.lconst 0, 1) := by decide +kernel
theorem dX7_talk_3 : decode cX7_talk 3 = .ok (.aload_n 0, 1) := by decide +kernel
theorem dX7_talk_4 : decode cX7_talk 4 = .ok (.getfield 22, 3) := by decide +kernel
theorem dX7_talk_7 : decode cX7_talk 7 = .ok (.bipush 32, 2) := by decide +kernel
theorem dX7_talk_9 : decode cX7_talk 9 = .ok (.iaload, 1) := by decide +kernel
theorem dX7_talk_10 : decode cX7_talk 10 = .ok (.iconst 1, 1) := by decide +kernel
theorem dX7_talk_11 : decode cX7_talk 11 = .ok (.isub, 1) := by decide +kernel
theorem dX7_talk_12 : decode cX7_talk 12 = .ok (.i2l, 1) := by decide +kernel
theorem dX7_talk_13 : decode cX7_talk 13 = .ok (.invokestatic 84, 3) := by decide +kernel
theorem dX7_talk_16 : decode cX7_talk 16 = .ok (.ifCond .ne 6, 3) := by decide +kernel
theorem dX7_talk_19 : decode cX7_talk 19 = .ok (.ldc 236, 2) := by decide +kernel
theorem dX7_talk_21 : decode cX7_talk 21 = .ok (.ireturn, 1) := by decide +kernel
theorem dX7_talk_22 : decode cX7_talk 22 = .ok (.iload_n 2, 1) := by decide +kernel
theorem dX7_talk_23 : decode cX7_talk 23 = .ok (.tableswitch 53 0 3 #[29, 35, 41, 47], 29) := by decide +kernel
theorem dX7_talk_52 : decode cX7_talk 52 = .ok (.aload_n 0, 1) := by decide +kernel
theorem dX7_talk_53 : decode cX7_talk 53 = .ok (.iload_n 1, 1) := by decide +kernel
theorem dX7_talk_54 : decode cX7_talk 54 = .ok (.invokevirtual 175, 3) := by decide +kernel
theorem dX7_talk_57 : decode cX7_talk 57 = .ok (.ireturn, 1) := by decide +kernel
theorem dX7_talk_58 : decode cX7_talk 58 = .ok (.aload_n 0, 1) := by decide +kernel
theorem dX7_talk_59 : decode cX7_talk 59 = .ok (.iload_n 1, 1) := by decide +kernel
theorem dX7_talk_60 : decode cX7_talk 60 = .ok (.invokevirtual 172, 3) := by decide +kernel
theorem dX7_talk_63 : decode cX7_talk 63 = .ok (.ireturn, 1) := by decide +kernel
theorem dX7_talk_64 : decode cX7_talk 64 = .ok (.aload_n 0, 1) := by decide +kernel
theorem dX7_talk_65 : decode cX7_talk 65 = .ok (.iload_n 1, 1) := by decide +kernel
theorem dX7_talk_66 : decode cX7_talk 66 = .ok (.invokevirtual 168, 3) := by decide +kernel
theorem dX7_talk_69 : decode cX7_talk 69 = .ok (.ireturn, 1) := by decide +kernel
theorem dX7_talk_70 : decode cX7_talk 70 = .ok (.aload_n 0, 1) := by decide +kernel
theorem dX7_talk_71 : decode cX7_talk 71 = .ok (.iload_n 1, 1) := by decide +kernel
theorem dX7_talk_72 : decode cX7_talk 72 = .ok (.invokevirtual 178, 3) := by decide +kernel
theorem dX7_talk_75 : decode cX7_talk 75 = .ok (.ireturn, 1) := by decide +kernel
theorem dX7_talk_76 : decode cX7_talk 76 = .ok (.ldc 93, 2) := by decide +kernel
theorem dX7_talk_78 : decode cX7_talk 78 = .ok (.ireturn, 1) := by decide +kernel
theorem dX7_logged_0 : decode cX7_logged 0 = .ok (.iload_n 2, 1) := by decide +kernel
theorem dX7_logged_1 : decode cX7_logged 1 = .ok (.i2l, 1) := by decide +kernel
theorem dX7_logged_2 : decode cX7_logged 2 = .ok (.lconst 0, 1) := by decide +kernel
theorem dX7_logged_3 : decode cX7_logged 3 = .ok (.ldc2_w 237, 3) := by decide +kernel
theorem dX7_logged_6 : decode cX7_logged 6 = .ok (.invokestatic 84, 3) := by decide +kernel
theorem dX7_logged_9 : decode cX7_logged 9 = .ok (.ifCond .ne 6, 3) := by decide +kernel
theorem dX7_logged_12 : decode cX7_logged 12 = .ok (.ldc 93, 2) := by decide +kernel
theorem dX7_logged_14 : decode cX7_logged 14 = .ok (.ireturn, 1) := by decide +kernel
theorem dX7_logged_15 : decode cX7_logged 15 = .ok (.iload_n 1, 1) := by decide +kernel
theorem dX7_logged_16 : decode cX7_logged 16 = .ok (.i2l, 1) := by decide +kernel
theorem dX7_logged_17 : decode cX7_logged 17 = .ok (.lconst 0, 1) := by decide +kernel
theorem dX7_logged_18 : decode cX7_logged 18 = .ok (.aload_n 0, 1) := by decide +kernel
theorem dX7_logged_19 : decode cX7_logged 19 = .ok (.getfield 22, 3) := by decide +kernel
theorem dX7_logged_22 : decode cX7_logged 22 = .ok (.bipush 45, 2) := by decide +kernel
theorem dX7_logged_24 : decode cX7_logged 24 = .ok (.iaload, 1) := by decide +kernel
theorem dX7_logged_25 : decode cX7_logged 25 = .ok (.iconst 1, 1) := by decide +kernel
theorem dX7_logged_26 : decode cX7_logged 26 = .ok (.isub, 1) := by decide +kernel
theorem dX7_logged_27 : decode cX7_logged 27 = .ok (.i2l, 1) := by decide +kernel
theorem dX7_logged_28 : decode cX7_logged 28 = .ok (.invokestatic 84, 3) := by decide +kernel
theorem dX7_logged_31 : decode cX7_logged 31 = .ok (.ifCond .ne 5, 3) := by decide +kernel
theorem dX7_logged_34 : decode cX7_logged 34 = .ok (.iconst (-1), 1) := by decide +kernel
theorem dX7_logged_35 : decode cX7_logged 35 = .ok (.ireturn, 1) := by decide +kernel
theorem dX7_logged_36 : decode cX7_logged 36 = .ok (.aload_n 0, 1) := by decide +kernel
theorem dX7_logged_37 : decode cX7_logged 37 = .ok (.getfield 22, 3) := by decide +kernel
theorem dX7_logged_40 : decode cX7_logged 40 = .ok (.bipush 46, 2) := by decide +kernel
theorem dX7_logged_42 : decode cX7_logged 42 = .ok (.aload_n 0, 1) := by decide +kernel
theorem dX7_logged_43 : decode cX7_logged 43 = .ok (.getfield 22, 3) := by decide +kernel
theorem dX7_logged_46 : decode cX7_logged 46 = .ok (.bipush 45, 2) := by decide +kernel
theorem dX7_logged_48 : decode cX7_logged 48 = .ok (.iaload, 1) := by decide +kernel
theorem dX7_logged_49 : decode cX7_logged 49 = .ok (.iadd, 1) := by decide +kernel
theorem dX7_logged_50 : decode cX7_logged 50 = .ok (.iconst 1, 1) := by decide +kernel
theorem dX7_logged_51 : decode cX7_logged 51 = .ok (.isub, 1) := by decide +kernel
theorem dX7_logged_52 : decode cX7_logged 52 = .ok (.iload_n 1, 1) := by decide +kernel
theorem dX7_logged_53 : decode cX7_logged 53 = .ok (.isub, 1) := by decide +kernel
theorem dX7_logged_54 : decode cX7_logged 54 = .ok (.iaload, 1) := by decide +kernel
theorem dX7_logged_55 : decode cX7_logged 55 = .ok (.istore_n 3, 1) := by decide +kernel
theorem dX7_logged_56 : decode cX7_logged 56 = .ok (.iload_n 2, 1) := by decide +kernel
theorem dX7_logged_57 : decode cX7_logged 57 = .ok (.ifCond .ne 13, 3) := by decide +kernel
theorem dX7_logged_60 : decode cX7_logged 60 = .ok (.iload_n 3, 1) := by decide +kernel
theorem dX7_logged_61 : decode cX7_logged 61 = .ok (.bipush 100, 2) := by decide +kernel
theorem dX7_logged_63 : decode cX7_logged 63 = .ok (.idiv, 1) := by decide +kernel
theorem dX7_logged_64 : decode cX7_logged 64 = .ok (.bipush 10, 2) := by decide +kernel
theorem dX7_logged_66 : decode cX7_logged 66 = .ok (.irem, 1) := by decide +kernel
theorem dX7_logged_67 : decode cX7_logged 67 = .ok (.goto 35, 3) := by decide +kernel
theorem dX7_logged_70 : decode cX7_logged 70 = .ok (.iload_n 2, 1) := by decide +kernel
theorem dX7_logged_71 : decode cX7_logged 71 = .ok (.iconst 1, 1) := by decide +kernel
theorem dX7_logged_72 : decode cX7_logged 72 = .ok (.if_icmp .ne 13, 3) := by decide +kernel
theorem dX7_logged_75 : decode cX7_logged 75 = .ok (.iload_n 3, 1) := by decide +kernel
theorem dX7_logged_76 : decode cX7_logged 76 = .ok (.bipush 10, 2) := by decide +kernel
theorem dX7_logged_78 : decode cX7_logged 78 = .ok (.idiv, 1) := by decide +kernel
theorem dX7_logged_79 : decode cX7_logged 79 = .ok (.bipush 10, 2) := by decide +kernel
theorem dX7_logged_81 : decode cX7_logged 81 = .ok (.irem, 1) := by decide +kernel
theorem dX7_logged_82 : decode cX7_logged 82 = .ok (.goto 20, 3) := by decide +kernel
theorem dX7_logged_85 : decode cX7_logged 85 = .ok (.iload_n 2, 1) := by decide +kernel
theorem dX7_logged_86 : decode cX7_logged 86 = .ok (.iconst 2, 1) := by decide +kernel
theorem dX7_logged_87 : decode cX7_logged 87 = .ok (.if_icmp .ne 11, 3) := by decide +kernel
theorem dX7_logged_90 : decode cX7_logged 90 = .ok (.iload_n 3, 1) := by decide +kernel
theorem dX7_logged_91 : decode cX7_logged 91 = .ok (.sipush 1000, 3) := by decide +kernel
theorem dX7_logged_94 : decode cX7_logged 94 = .ok (.idiv, 1) := by decide +kernel
theorem dX7_logged_95 : decode cX7_logged 95 = .ok (.goto 7, 3) := by decide +kernel
theorem dX7_logged_98 : decode cX7_logged 98 = .ok (.iload_n 3, 1) := by decide +kernel
theorem dX7_logged_99 : decode cX7_logged 99 = .ok (.bipush 10, 2) := by decide +kernel
theorem dX7_logged_101 : decode cX7_logged 101 = .ok (.irem, 1) := by decide +kernel
theorem dX7_logged_102 : decode cX7_logged 102 = .ok (.ireturn, 1) := by decide +kernel
theorem dX7_remember_0 : decode cX7_remember 0 = .ok (.aload_n 0, 1) := by decide +kernel
theorem dX7_remember_1 : decode cX7_remember 1 = .ok (.getfield 156, 3) := by decide +kernel
theorem dX7_remember_4 : decode cX7_remember 4 = .ok (.bipush 16, 2) := by decide +kernel
theorem dX7_remember_6 : decode cX7_remember 6 = .ok (.if_icmp .ne 44, 3) := by decide +kernel
theorem dX7_remember_9 : decode cX7_remember 9 = .ok (.bipush 66, 2) := by decide +kernel
theorem dX7_remember_11 : decode cX7_remember 11 = .ok (.istore_n 1, 1) := by decide +kernel
theorem dX7_remember_12 : decode cX7_remember 12 = .ok (.iload_n 1, 1) := by decide +kernel
theorem dX7_remember_13 : decode cX7_remember 13 = .ok (.sipush 1056, 3) := by decide +kernel
theorem dX7_remember_16 : decode cX7_remember 16 = .ok (.if_icmp .ge 24, 3) := by decide +kernel
theorem dX7_remember_19 : decode cX7_remember 19 = .ok (.aload_n 0, 1) := by decide +kernel
theorem dX7_remember_20 : decode cX7_remember 20 = .ok (.getfield 51, 3) := by decide +kernel
theorem dX7_remember_23 : decode cX7_remember 23 = .ok (.iload_n 1, 1) := by decide +kernel
theorem dX7_remember_24 : decode cX7_remember 24 = .ok (.bipush 66, 2) := by decide +kernel
theorem dX7_remember_26 : decode cX7_remember 26 = .ok (.isub, 1) := by decide +kernel
theorem dX7_remember_27 : decode cX7_remember 27 = .ok (.aload_n 0, 1) := by decide +kernel
theorem dX7_remember_28 : decode cX7_remember 28 = .ok (.getfield 51, 3) := by decide +kernel
theorem dX7_remember_31 : decode cX7_remember 31 = .ok (.iload_n 1, 1) := by decide +kernel
theorem dX7_remember_32 : decode cX7_remember 32 = .ok (.iaload, 1) := by decide +kernel
theorem dX7_remember_33 : decode cX7_remember 33 = .ok (.iastore, 1) := by decide +kernel
theorem dX7_remember_34 : decode cX7_remember 34 = .ok (.iinc 1 1, 3) := by decide +kernel
theorem dX7_remember_37 : decode cX7_remember 37 = .ok (.goto (-25), 3) := by decide +kernel
theorem dX7_remember_40 : decode cX7_remember 40 = .ok (.aload_n 0, 1) := by decide +kernel
theorem dX7_remember_41 : decode cX7_remember 41 = .ok (.dup, 1) := by decide +kernel
theorem dX7_remember_42 : decode cX7_remember 42 = .ok (.getfield 156, 3) := by decide +kernel
theorem dX7_remember_45 : decode cX7_remember 45 = .ok (.iconst 1, 1) := by decide +kernel
theorem dX7_remember_46 : decode cX7_remember 46 = .ok (.isub, 1) := by decide +kernel
theorem dX7_remember_47 : decode cX7_remember 47 = .ok (.putfield 156, 3) := by decide +kernel
theorem dX7_remember_50 : decode cX7_remember 50 = .ok (.iconst 0, 1) := by decide +kernel
theorem dX7_remember_51 : decode cX7_remember 51 = .ok (.istore_n 1, 1) := by decide +kernel
theorem dX7_remember_52 : decode cX7_remember 52 = .ok (.iload_n 1, 1) := by decide +kernel
theorem dX7_remember_53 : decode cX7_remember 53 = .ok (.bipush 66, 2) := by decide +kernel
theorem dX7_remember_55 : decode cX7_remember 55 = .ok (.if_icmp .ge 29, 3) := by decide +kernel
theorem dX7_remember_58 : decode cX7_remember 58 = .ok (.aload_n 0, 1) := by decide +kernel
theorem dX7_remember_59 : decode cX7_remember 59 = .ok (.getfield 51, 3) := by decide +kernel
theorem dX7_remember_62 : decode cX7_remember 62 = .ok (.bipush 66, 2) := by decide +kernel
theorem dX7_remember_64 : decode cX7_remember 64 = .ok (.aload_n 0, 1) := by decide +kernel
theorem dX7_remember_65 : decode cX7_remember 65 = .ok (.getfield 156, 3) := by decide +kernel
theorem dX7_remember_68 : decode cX7_remember 68 = .ok (.imul, 1) := by decide +kernel
theorem dX7_remember_69 : decode cX7_remember 69 = .ok (.iload_n 1, 1) := by decide +kernel
theorem dX7_remember_70 : decode cX7_remember 70 = .ok (.iadd, 1) := by decide +kernel
theorem dX7_remember_71 : decode cX7_remember 71 = .ok (.aload_n 0, 1) := by decide +kernel
theorem dX7_remember_72 : decode cX7_remember 72 = .ok (.getfield 22, 3) := by decide +kernel
theorem dX7_remember_75 : decode cX7_remember 75 = .ok (.iload_n 1, 1) := by decide +kernel
theorem dX7_remember_76 : decode cX7_remember 76 = .ok (.iaload, 1) := by decide +kernel
theorem dX7_remember_77 : decode cX7_remember 77 = .ok (.iastore, 1) := by decide +kernel
theorem dX7_remember_78 : decode cX7_remember 78 = .ok (.iinc 1 1, 3) := by decide +kernel
theorem dX7_remember_81 : decode cX7_remember 81 = .ok (.goto (-29), 3) := by decide +kernel
theorem dX7_remember_84 : decode cX7_remember 84 = .ok (.aload_n 0, 1) := by decide +kernel
theorem dX7_remember_85 : decode cX7_remember 85 = .ok (.dup, 1) := by decide +kernel
theorem dX7_remember_86 : decode cX7_remember 86 = .ok (.getfield 156, 3) := by decide +kernel
theorem dX7_remember_89 : decode cX7_remember 89 = .ok (.iconst 1, 1) := by decide +kernel
theorem dX7_remember_90 : decode cX7_remember 90 = .ok (.iadd, 1) := by decide +kernel
theorem dX7_remember_91 : decode cX7_remember 91 = .ok (.putfield 156, 3) := by decide +kernel
theorem dX7_remember_94 : decode cX7_remember 94 = .ok (.return_, 1) := by decide +kernel
theorem dX7_hoursRefused_0 : decode cX7_hoursRefused 0 = .ok (.iload_n 1, 1) := by decide +kernel
theorem dX7_hoursRefused_1 : decode cX7_hoursRefused 1 = .ok (.i2l, 1) := by decide +kernel
theorem dX7_hoursRefused_2 : decode cX7_hoursRefused 2 = .ok (.lconst 1, 1) := by decide +kernel
theorem dX7_hoursRefused_3 : decode cX7_hoursRefused 3 = .ok (.ldc2_w 239, 3) := by decide +kernel
theorem dX7_hoursRefused_6 : decode cX7_hoursRefused 6 = .ok (.invokestatic 84, 3) := by decide +kernel
theorem dX7_hoursRefused_9 : decode cX7_hoursRefused 9 = .ok (.ifCond .ne 6, 3) := by decide +kernel
theorem dX7_hoursRefused_12 : decode cX7_hoursRefused 12 = .ok (.ldc 93, 2) := by decide +kernel
theorem dX7_hoursRefused_14 : decode cX7_hoursRefused 14 = .ok (.ireturn, 1) := by decide +kernel
theorem dX7_hoursRefused_15 : decode cX7_hoursRefused 15 = .ok (.aload_n 0, 1) := by decide +kernel
theorem dX7_hoursRefused_16 : decode cX7_hoursRefused 16 = .ok (.getfield 81, 3) := by decide +kernel
theorem dX7_hoursRefused_19 : decode cX7_hoursRefused 19 = .ok (.ifCond .ne 8, 3) := by decide +kernel
theorem dX7_hoursRefused_22 : decode cX7_hoursRefused 22 = .ok (.ldc 241, 2) := by decide +kernel
theorem dX7_hoursRefused_24 : decode cX7_hoursRefused 24 = .ok (.goto 22, 3) := by decide +kernel
theorem dX7_hoursRefused_27 : decode cX7_hoursRefused 27 = .ok (.aload_n 0, 1) := by decide +kernel
theorem dX7_hoursRefused_28 : decode cX7_hoursRefused 28 = .ok (.getfield 22, 3) := by decide +kernel
theorem dX7_hoursRefused_31 : decode cX7_hoursRefused 31 = .ok (.bipush 12, 2) := by decide +kernel
theorem dX7_hoursRefused_33 : decode cX7_hoursRefused 33 = .ok (.iaload, 1) := by decide +kernel
theorem dX7_hoursRefused_34 : decode cX7_hoursRefused 34 = .ok (.sipush 9000, 3) := by decide +kernel
theorem dX7_hoursRefused_37 : decode cX7_hoursRefused 37 = .ok (.if_icmp .le 8, 3) := by decide +kernel
theorem dX7_hoursRefused_40 : decode cX7_hoursRefused 40 = .ok (.ldc 97, 2) := by decide +kernel
theorem dX7_hoursRefused_42 : decode cX7_hoursRefused 42 = .ok (.goto 4, 3) := by decide +kernel
theorem dX7_hoursRefused_45 : decode cX7_hoursRefused 45 = .ok (.iconst 0, 1) := by decide +kernel
theorem dX7_hoursRefused_46 : decode cX7_hoursRefused 46 = .ok (.ireturn, 1) := by decide +kernel
theorem dX7_hour_0 : decode cX7_hour 0 = .ok (.aload_n 0, 1) := by decide +kernel
theorem dX7_hour_1 : decode cX7_hour 1 = .ok (.iload_n 1, 1) := by decide +kernel
theorem dX7_hour_2 : decode cX7_hour 2 = .ok (.invokevirtual 242, 3) := by decide +kernel
theorem dX7_hour_5 : decode cX7_hour 5 = .ok (.istore_n 2, 1) := by decide +kernel
theorem dX7_hour_6 : decode cX7_hour 6 = .ok (.iload_n 2, 1) := by decide +kernel
theorem dX7_hour_7 : decode cX7_hour 7 = .ok (.ifCond .eq 5, 3) := by decide +kernel
theorem dX7_hour_10 : decode cX7_hour 10 = .ok (.iload_n 2, 1) := by decide +kernel
theorem dX7_hour_11 : decode cX7_hour 11 = .ok (.ireturn, 1) := by decide +kernel
theorem dX7_hour_12 : decode cX7_hour 12 = .ok (.aload_n 0, 1) := by decide +kernel
theorem dX7_hour_13 : decode cX7_hour 13 = .ok (.invokevirtual 245, 3) := by decide +kernel
theorem dX7_hour_16 : decode cX7_hour 16 = .ok (.iconst 0, 1) := by decide +kernel
theorem dX7_hour_17 : decode cX7_hour 17 = .ok (.istore_n 3, 1) := by decide +kernel
theorem dX7_hour_18 : decode cX7_hour 18 = .ok (.iload_n 3, 1) := by decide +kernel
theorem dX7_hour_19 : decode cX7_hour 19 = .ok (.iload_n 1, 1) := by decide +kernel
theorem dX7_hour_20 : decode cX7_hour 20 = .ok (.if_icmp .ge 13, 3) := by decide +kernel
theorem dX7_hour_23 : decode cX7_hour 23 = .ok (.aload_n 0, 1) := by decide +kernel
theorem dX7_hour_24 : decode cX7_hour 24 = .ok (.invokevirtual 248, 3) := by decide +kernel
theorem dX7_hour_27 : decode cX7_hour 27 = .ok (.iinc 3 1, 3) := by decide +kernel
theorem dX7_hour_30 : decode cX7_hour 30 = .ok (.goto (-12), 3) := by decide +kernel
theorem dX7_hour_33 : decode cX7_hour 33 = .ok (.aload_n 0, 1) := by decide +kernel
theorem dX7_hour_34 : decode cX7_hour 34 = .ok (.getfield 22, 3) := by decide +kernel
theorem dX7_hour_37 : decode cX7_hour 37 = .ok (.bipush 32, 2) := by decide +kernel
theorem dX7_hour_39 : decode cX7_hour 39 = .ok (.iaload, 1) := by decide +kernel
theorem dX7_hour_40 : decode cX7_hour 40 = .ok (.ireturn, 1) := by decide +kernel
theorem dX7_sayNow_0 : decode cX7_sayNow 0 = .ok (.aload_n 0, 1) := by decide +kernel
theorem dX7_sayNow_1 : decode cX7_sayNow 1 = .ok (.getfield 22, 3) := by decide +kernel
theorem dX7_sayNow_4 : decode cX7_sayNow 4 = .ok (.bipush 33, 2) := by decide +kernel
theorem dX7_sayNow_6 : decode cX7_sayNow 6 = .ok (.aload_n 0, 1) := by decide +kernel
theorem dX7_sayNow_7 : decode cX7_sayNow 7 = .ok (.getfield 22, 3) := by decide +kernel
theorem dX7_sayNow_10 : decode cX7_sayNow 10 = .ok (.bipush 32, 2) := by decide +kernel
theorem dX7_sayNow_12 : decode cX7_sayNow 12 = .ok (.iaload, 1) := by decide +kernel
theorem dX7_sayNow_13 : decode cX7_sayNow 13 = .ok (.iadd, 1) := by decide +kernel
theorem dX7_sayNow_14 : decode cX7_sayNow 14 = .ok (.iconst 4, 1) := by decide +kernel
theorem dX7_sayNow_15 : decode cX7_sayNow 15 = .ok (.aload_n 0, 1) := by decide +kernel
theorem dX7_sayNow_16 : decode cX7_sayNow 16 = .ok (.getfield 13, 3) := by decide +kernel
theorem dX7_sayNow_19 : decode cX7_sayNow 19 = .ok (.iload_n 1, 1) := by decide +kernel
theorem dX7_sayNow_20 : decode cX7_sayNow 20 = .ok (.iaload, 1) := by decide +kernel
theorem dX7_sayNow_21 : decode cX7_sayNow 21 = .ok (.imul, 1) := by decide +kernel
theorem dX7_sayNow_22 : decode cX7_sayNow 22 = .ok (.iload_n 1, 1) := by decide +kernel
theorem dX7_sayNow_23 : decode cX7_sayNow 23 = .ok (.iload_n 2, 1) := by decide +kernel
theorem dX7_sayNow_24 : decode cX7_sayNow 24 = .ok (.iload_n 1, 1) := by decide +kernel
theorem dX7_sayNow_25 : decode cX7_sayNow 25 = .ok (.invokestatic 181, 3) := by decide +kernel
theorem dX7_sayNow_28 : decode cX7_sayNow 28 = .ok (.iastore, 1) := by decide +kernel
theorem dX7_sayNow_29 : decode cX7_sayNow 29 = .ok (.aload_n 0, 1) := by decide +kernel
theorem dX7_sayNow_30 : decode cX7_sayNow 30 = .ok (.getfield 22, 3) := by decide +kernel
theorem dX7_sayNow_33 : decode cX7_sayNow 33 = .ok (.bipush 32, 2) := by decide +kernel
theorem dX7_sayNow_35 : decode cX7_sayNow 35 = .ok (.dup2, 1) := by decide +kernel
theorem dX7_sayNow_36 : decode cX7_sayNow 36 = .ok (.iaload, 1) := by decide +kernel
theorem dX7_sayNow_37 : decode cX7_sayNow 37 = .ok (.iconst 1, 1) := by decide +kernel
theorem dX7_sayNow_38 : decode cX7_sayNow 38 = .ok (.iadd, 1) := by decide +kernel
theorem dX7_sayNow_39 : decode cX7_sayNow 39 = .ok (.iastore, 1) := by decide +kernel
theorem dX7_sayNow_40 : decode cX7_sayNow 40 = .ok (.return_, 1) := by decide +kernel
theorem dX7_say_0 : decode cX7_say 0 = .ok (.aload_n 0, 1) := by decide +kernel
theorem dX7_say_1 : decode cX7_say 1 = .ok (.iload_n 1, 1) := by decide +kernel
theorem dX7_say_2 : decode cX7_say 2 = .ok (.invokevirtual 233, 3) := by decide +kernel
theorem dX7_say_5 : decode cX7_say 5 = .ok (.ifCond .eq 11, 3) := by decide +kernel
theorem dX7_say_8 : decode cX7_say 8 = .ok (.aload_n 0, 1) := by decide +kernel
theorem dX7_say_9 : decode cX7_say 9 = .ok (.iload_n 2, 1) := by decide +kernel
theorem dX7_say_10 : decode cX7_say 10 = .ok (.invokevirtual 251, 3) := by decide +kernel
theorem dX7_say_13 : decode cX7_say 13 = .ok (.ifCond .ne 6, 3) := by decide +kernel
theorem dX7_say_16 : decode cX7_say 16 = .ok (.ldc 236, 2) := by decide +kernel
theorem dX7_say_18 : decode cX7_say 18 = .ok (.ireturn, 1) := by decide +kernel
theorem dX7_say_19 : decode cX7_say 19 = .ok (.iload_n 1, 1) := by decide +kernel
theorem dX7_say_20 : decode cX7_say 20 = .ok (.ifCond .ne 6, 3) := by decide +kernel
theorem dX7_say_23 : decode cX7_say 23 = .ok (.ldc 241, 2) := by decide +kernel
theorem dX7_say_25 : decode cX7_say 25 = .ok (.ireturn, 1) := by decide +kernel
theorem dX7_say_26 : decode cX7_say 26 = .ok (.aload_n 0, 1) := by decide +kernel
theorem dX7_say_27 : decode cX7_say 27 = .ok (.getfield 22, 3) := by decide +kernel
theorem dX7_say_30 : decode cX7_say 30 = .ok (.bipush 32, 2) := by decide +kernel
theorem dX7_say_32 : decode cX7_say 32 = .ok (.iaload, 1) := by decide +kernel
theorem dX7_say_33 : decode cX7_say 33 = .ok (.bipush 12, 2) := by decide +kernel
theorem dX7_say_35 : decode cX7_say 35 = .ok (.if_icmp .ne 6, 3) := by decide +kernel
theorem dX7_say_38 : decode cX7_say 38 = .ok (.ldc 97, 2) := by decide +kernel
theorem dX7_say_40 : decode cX7_say 40 = .ok (.ireturn, 1) := by decide +kernel
theorem dX7_say_41 : decode cX7_say 41 = .ok (.aload_n 0, 1) := by decide +kernel
theorem dX7_say_42 : decode cX7_say 42 = .ok (.invokevirtual 245, 3) := by decide +kernel
theorem dX7_say_45 : decode cX7_say 45 = .ok (.aload_n 0, 1) := by decide +kernel
theorem dX7_say_46 : decode cX7_say 46 = .ok (.iload_n 1, 1) := by decide +kernel
theorem dX7_say_47 : decode cX7_say 47 = .ok (.iload_n 2, 1) := by decide +kernel
theorem dX7_say_48 : decode cX7_say 48 = .ok (.invokevirtual 254, 3) := by decide +kernel
theorem dX7_say_51 : decode cX7_say 51 = .ok (.aload_n 0, 1) := by decide +kernel
theorem dX7_say_52 : decode cX7_say 52 = .ok (.getfield 22, 3) := by decide +kernel
theorem dX7_say_55 : decode cX7_say 55 = .ok (.bipush 32, 2) := by decide +kernel
theorem dX7_say_57 : decode cX7_say 57 = .ok (.iaload, 1) := by decide +kernel
theorem dX7_say_58 : decode cX7_say 58 = .ok (.ireturn, 1) := by decide +kernel
theorem dX7_rain_0 : decode cX7_rain 0 = .ok (.iload_n 1, 1) := by decide +kernel
theorem dX7_rain_1 : decode cX7_rain 1 = .ok (.i2l, 1) := by decide +kernel
theorem dX7_rain_2 : decode cX7_rain 2 = .ok (.lconst 0, 1) := by decide +kernel
theorem dX7_rain_3 : decode cX7_rain 3 = .ok (.ldc2_w 258, 3) := by decide +kernel
theorem dX7_rain_6 : decode cX7_rain 6 = .ok (.invokestatic 84, 3) := by decide +kernel
theorem dX7_rain_9 : decode cX7_rain 9 = .ok (.ifCond .ne 6, 3) := by decide +kernel
theorem dX7_rain_12 : decode cX7_rain 12 = .ok (.ldc 93, 2) := by decide +kernel
theorem dX7_rain_14 : decode cX7_rain 14 = .ok (.ireturn, 1) := by decide +kernel
theorem dX7_rain_15 : decode cX7_rain 15 = .ok (.aload_n 0, 1) := by decide +kernel
theorem dX7_rain_16 : decode cX7_rain 16 = .ok (.getfield 81, 3) := by decide +kernel
theorem dX7_rain_19 : decode cX7_rain 19 = .ok (.ifCond .ne 6, 3) := by decide +kernel
theorem dX7_rain_22 : decode cX7_rain 22 = .ok (.ldc 241, 2) := by decide +kernel
theorem dX7_rain_24 : decode cX7_rain 24 = .ok (.ireturn, 1) := by decide +kernel
theorem dX7_rain_25 : decode cX7_rain 25 = .ok (.aload_n 0, 1) := by decide +kernel
theorem dX7_rain_26 : decode cX7_rain 26 = .ok (.invokevirtual 245, 3) := by decide +kernel
theorem dX7_rain_29 : decode cX7_rain 29 = .ok (.aload_n 0, 1) := by decide +kernel
theorem dX7_rain_30 : decode cX7_rain 30 = .ok (.getfield 22, 3) := by decide +kernel
theorem dX7_rain_33 : decode cX7_rain 33 = .ok (.bipush 10, 2) := by decide +kernel
theorem dX7_rain_35 : decode cX7_rain 35 = .ok (.iaload, 1) := by decide +kernel
theorem dX7_rain_36 : decode cX7_rain 36 = .ok (.istore_n 2, 1) := by decide +kernel
theorem dX7_rain_37 : decode cX7_rain 37 = .ok (.aload_n 0, 1) := by decide +kernel
theorem dX7_rain_38 : decode cX7_rain 38 = .ok (.getfield 22, 3) := by decide +kernel
theorem dX7_rain_41 : decode cX7_rain 41 = .ok (.bipush 10, 2) := by decide +kernel
theorem dX7_rain_43 : decode cX7_rain 43 = .ok (.iload_n 1, 1) := by decide +kernel
theorem dX7_rain_44 : decode cX7_rain 44 = .ok (.iastore, 1) := by decide +kernel
theorem dX7_rain_45 : decode cX7_rain 45 = .ok (.iload_n 2, 1) := by decide +kernel
theorem dX7_rain_46 : decode cX7_rain 46 = .ok (.ireturn, 1) := by decide +kernel
theorem dX7_frost_0 : decode cX7_frost 0 = .ok (.aload_n 0, 1) := by decide +kernel
theorem dX7_frost_1 : decode cX7_frost 1 = .ok (.getfield 81, 3) := by decide +kernel
theorem dX7_frost_4 : decode cX7_frost 4 = .ok (.ifCond .ne 6, 3) := by decide +kernel
theorem dX7_frost_7 : decode cX7_frost 7 = .ok (.ldc 241, 2) := by decide +kernel
theorem dX7_frost_9 : decode cX7_frost 9 = .ok (.ireturn, 1) := by decide +kernel
theorem dX7_frost_10 : decode cX7_frost 10 = .ok (.aload_n 0, 1) := by decide +kernel
theorem dX7_frost_11 : decode cX7_frost 11 = .ok (.invokevirtual 245, 3) := by decide +kernel
theorem dX7_frost_14 : decode cX7_frost 14 = .ok (.aload_n 0, 1) := by decide +kernel
theorem dX7_frost_15 : decode cX7_frost 15 = .ok (.getfield 22, 3) := by decide +kernel
theorem dX7_frost_18 : decode cX7_frost 18 = .ok (.bipush 11, 2) := by decide +kernel
theorem dX7_frost_20 : decode cX7_frost 20 = .ok (.iaload, 1) := by decide +kernel
theorem dX7_frost_21 : decode cX7_frost 21 = .ok (.istore_n 2, 1) := by decide +kernel
theorem dX7_frost_22 : decode cX7_frost 22 = .ok (.aload_n 0, 1) := by decide +kernel
theorem dX7_frost_23 : decode cX7_frost 23 = .ok (.getfield 22, 3) := by decide +kernel
theorem dX7_frost_26 : decode cX7_frost 26 = .ok (.bipush 11, 2) := by decide +kernel
theorem dX7_frost_28 : decode cX7_frost 28 = .ok (.iload_n 1, 1) := by decide +kernel
theorem dX7_frost_29 : decode cX7_frost 29 = .ok (.ifCond .eq 7, 3) := by decide +kernel
theorem dX7_frost_32 : decode cX7_frost 32 = .ok (.iconst 1, 1) := by decide +kernel
theorem dX7_frost_33 : decode cX7_frost 33 = .ok (.goto 4, 3) := by decide +kernel
theorem dX7_frost_36 : decode cX7_frost 36 = .ok (.iconst 0, 1) := by decide +kernel
theorem dX7_frost_37 : decode cX7_frost 37 = .ok (.iastore, 1) := by decide +kernel
theorem dX7_frost_38 : decode cX7_frost 38 = .ok (.iload_n 2, 1) := by decide +kernel
theorem dX7_frost_39 : decode cX7_frost 39 = .ok (.ireturn, 1) := by decide +kernel
theorem dX7_dam_0 : decode cX7_dam 0 = .ok (.aload_n 0, 1) := by decide +kernel
theorem dX7_dam_1 : decode cX7_dam 1 = .ok (.iload_n 1, 1) := by decide +kernel
theorem dX7_dam_2 : decode cX7_dam 2 = .ok (.invokevirtual 233, 3) := by decide +kernel
theorem dX7_dam_5 : decode cX7_dam 5 = .ok (.ifCond .ne 6, 3) := by decide +kernel
theorem dX7_dam_8 : decode cX7_dam 8 = .ok (.ldc 236, 2) := by decide +kernel
theorem dX7_dam_10 : decode cX7_dam 10 = .ok (.ireturn, 1) := by decide +kernel
theorem dX7_dam_11 : decode cX7_dam 11 = .ok (.iload_n 1, 1) := by decide +kernel
theorem dX7_dam_12 : decode cX7_dam 12 = .ok (.ifCond .ne 6, 3) := by decide +kernel
theorem dX7_dam_15 : decode cX7_dam 15 = .ok (.ldc 241, 2) := by decide +kernel
theorem dX7_dam_17 : decode cX7_dam 17 = .ok (.ireturn, 1) := by decide +kernel
theorem dX7_dam_18 : decode cX7_dam 18 = .ok (.aload_n 0, 1) := by decide +kernel
theorem dX7_dam_19 : decode cX7_dam 19 = .ok (.invokevirtual 245, 3) := by decide +kernel
theorem dX7_dam_22 : decode cX7_dam 22 = .ok (.aload_n 0, 1) := by decide +kernel
theorem dX7_dam_23 : decode cX7_dam 23 = .ok (.getfield 22, 3) := by decide +kernel
theorem dX7_dam_26 : decode cX7_dam 26 = .ok (.bipush 9, 2) := by decide +kernel
theorem dX7_dam_28 : decode cX7_dam 28 = .ok (.iaload, 1) := by decide +kernel
theorem dX7_dam_29 : decode cX7_dam 29 = .ok (.iload_n 1, 1) := by decide +kernel
theorem dX7_dam_30 : decode cX7_dam 30 = .ok (.invokestatic 163, 3) := by decide +kernel
theorem dX7_dam_33 : decode cX7_dam 33 = .ok (.ifCond .eq 7, 3) := by decide +kernel
theorem dX7_dam_36 : decode cX7_dam 36 = .ok (.iconst 1, 1) := by decide +kernel
theorem dX7_dam_37 : decode cX7_dam 37 = .ok (.goto 4, 3) := by decide +kernel
theorem dX7_dam_40 : decode cX7_dam 40 = .ok (.iconst 0, 1) := by decide +kernel
theorem dX7_dam_41 : decode cX7_dam 41 = .ok (.istore_n 3, 1) := by decide +kernel
theorem dX7_dam_42 : decode cX7_dam 42 = .ok (.aload_n 0, 1) := by decide +kernel
theorem dX7_dam_43 : decode cX7_dam 43 = .ok (.getfield 22, 3) := by decide +kernel
theorem dX7_dam_46 : decode cX7_dam 46 = .ok (.bipush 9, 2) := by decide +kernel
theorem dX7_dam_48 : decode cX7_dam 48 = .ok (.iload_n 2, 1) := by decide +kernel
theorem dX7_dam_49 : decode cX7_dam 49 = .ok (.ifCond .eq 17, 3) := by decide +kernel
theorem dX7_dam_52 : decode cX7_dam 52 = .ok (.aload_n 0, 1) := by decide +kernel
theorem dX7_dam_53 : decode cX7_dam 53 = .ok (.getfield 22, 3) := by decide +kernel
theorem dX7_dam_56 : decode cX7_dam 56 = .ok (.bipush 9, 2) := by decide +kernel
theorem dX7_dam_58 : decode cX7_dam 58 = .ok (.iaload, 1) := by decide +kernel
theorem dX7_dam_59 : decode cX7_dam 59 = .ok (.iconst 1, 1) := by decide +kernel
theorem dX7_dam_60 : decode cX7_dam 60 = .ok (.iload_n 1, 1) := by decide +kernel
theorem dX7_dam_61 : decode cX7_dam 61 = .ok (.ishl, 1) := by decide +kernel
theorem dX7_dam_62 : decode cX7_dam 62 = .ok (.ior, 1) := by decide +kernel
theorem dX7_dam_63 : decode cX7_dam 63 = .ok (.goto 16, 3) := by decide +kernel
theorem dX7_dam_66 : decode cX7_dam 66 = .ok (.aload_n 0, 1) := by decide +kernel
theorem dX7_dam_67 : decode cX7_dam 67 = .ok (.getfield 22, 3) := by decide +kernel
theorem dX7_dam_70 : decode cX7_dam 70 = .ok (.bipush 9, 2) := by decide +kernel
theorem dX7_dam_72 : decode cX7_dam 72 = .ok (.iaload, 1) := by decide +kernel
theorem dX7_dam_73 : decode cX7_dam 73 = .ok (.iconst 1, 1) := by decide +kernel
theorem dX7_dam_74 : decode cX7_dam 74 = .ok (.iload_n 1, 1) := by decide +kernel
theorem dX7_dam_75 : decode cX7_dam 75 = .ok (.ishl, 1) := by decide +kernel
theorem dX7_dam_76 : decode cX7_dam 76 = .ok (.iconst (-1), 1) := by decide +kernel
theorem dX7_dam_77 : decode cX7_dam 77 = .ok (.ixor, 1) := by decide +kernel
theorem dX7_dam_78 : decode cX7_dam 78 = .ok (.iand, 1) := by decide +kernel
theorem dX7_dam_79 : decode cX7_dam 79 = .ok (.iastore, 1) := by decide +kernel
theorem dX7_dam_80 : decode cX7_dam 80 = .ok (.iload_n 3, 1) := by decide +kernel
theorem dX7_dam_81 : decode cX7_dam 81 = .ok (.ireturn, 1) := by decide +kernel
theorem dX7_smooth_0 : decode cX7_smooth 0 = .ok (.aload_n 0, 1) := by decide +kernel
theorem dX7_smooth_1 : decode cX7_smooth 1 = .ok (.iload_n 1, 1) := by decide +kernel
theorem dX7_smooth_2 : decode cX7_smooth 2 = .ok (.invokevirtual 233, 3) := by decide +kernel
theorem dX7_smooth_5 : decode cX7_smooth 5 = .ok (.ifCond .ne 6, 3) := by decide +kernel
theorem dX7_smooth_8 : decode cX7_smooth 8 = .ok (.ldc 236, 2) := by decide +kernel
theorem dX7_smooth_10 : decode cX7_smooth 10 = .ok (.ireturn, 1) := by decide +kernel
theorem dX7_smooth_11 : decode cX7_smooth 11 = .ok (.iload_n 1, 1) := by decide +kernel
theorem dX7_smooth_12 : decode cX7_smooth 12 = .ok (.ifCond .ne 6, 3) := by decide +kernel
theorem dX7_smooth_15 : decode cX7_smooth 15 = .ok (.ldc 241, 2) := by decide +kernel
theorem dX7_smooth_17 : decode cX7_smooth 17 = .ok (.ireturn, 1) := by decide +kernel
theorem dX7_smooth_18 : decode cX7_smooth 18 = .ok (.aload_n 0, 1) := by decide +kernel
theorem dX7_smooth_19 : decode cX7_smooth 19 = .ok (.invokevirtual 245, 3) := by decide +kernel
theorem dX7_smooth_22 : decode cX7_smooth 22 = .ok (.aload_n 0, 1) := by decide +kernel
theorem dX7_smooth_23 : decode cX7_smooth 23 = .ok (.getfield 22, 3) := by decide +kernel
theorem dX7_smooth_26 : decode cX7_smooth 26 = .ok (.iconst 0, 1) := by decide +kernel
theorem dX7_smooth_27 : decode cX7_smooth 27 = .ok (.iload_n 1, 1) := by decide +kernel
theorem dX7_smooth_28 : decode cX7_smooth 28 = .ok (.iadd, 1) := by decide +kernel
theorem dX7_smooth_29 : decode cX7_smooth 29 = .ok (.iaload, 1) := by decide +kernel
theorem dX7_smooth_30 : decode cX7_smooth 30 = .ok (.istore_n 2, 1) := by decide +kernel
theorem dX7_smooth_31 : decode cX7_smooth 31 = .ok (.aload_n 0, 1) := by decide +kernel
theorem dX7_smooth_32 : decode cX7_smooth 32 = .ok (.getfield 22, 3) := by decide +kernel
theorem dX7_smooth_35 : decode cX7_smooth 35 = .ok (.iconst 0, 1) := by decide +kernel
theorem dX7_smooth_36 : decode cX7_smooth 36 = .ok (.iload_n 1, 1) := by decide +kernel
theorem dX7_smooth_37 : decode cX7_smooth 37 = .ok (.iadd, 1) := by decide +kernel
theorem dX7_smooth_38 : decode cX7_smooth 38 = .ok (.iconst 0, 1) := by decide +kernel
theorem dX7_smooth_39 : decode cX7_smooth 39 = .ok (.iastore, 1) := by decide +kernel
theorem dX7_smooth_40 : decode cX7_smooth 40 = .ok (.iload_n 2, 1) := by decide +kernel
theorem dX7_smooth_41 : decode cX7_smooth 41 = .ok (.ireturn, 1) := by decide +kernel
theorem dX7_hush_0 : decode cX7_hush 0 = .ok (.iload_n 1, 1) := by decide +kernel
theorem dX7_hush_1 : decode cX7_hush 1 = .ok (.i2l, 1) := by decide +kernel
theorem dX7_hush_2 : decode cX7_hush 2 = .ok (.lconst 0, 1) := by decide +kernel
theorem dX7_hush_3 : decode cX7_hush 3 = .ok (.aload_n 0, 1) := by decide +kernel
theorem dX7_hush_4 : decode cX7_hush 4 = .ok (.getfield 22, 3) := by decide +kernel
theorem dX7_hush_7 : decode cX7_hush 7 = .ok (.bipush 32, 2) := by decide +kernel
theorem dX7_hush_9 : decode cX7_hush 9 = .ok (.iaload, 1) := by decide +kernel
theorem dX7_hush_10 : decode cX7_hush 10 = .ok (.iconst 1, 1) := by decide +kernel
theorem dX7_hush_11 : decode cX7_hush 11 = .ok (.isub, 1) := by decide +kernel
theorem dX7_hush_12 : decode cX7_hush 12 = .ok (.i2l, 1) := by decide +kernel
theorem dX7_hush_13 : decode cX7_hush 13 = .ok (.invokestatic 84, 3) := by decide +kernel
theorem dX7_hush_16 : decode cX7_hush 16 = .ok (.ifCond .ne 6, 3) := by decide +kernel
theorem dX7_hush_19 : decode cX7_hush 19 = .ok (.ldc 236, 2) := by decide +kernel
theorem dX7_hush_21 : decode cX7_hush 21 = .ok (.ireturn, 1) := by decide +kernel
theorem dX7_hush_22 : decode cX7_hush 22 = .ok (.aload_n 0, 1) := by decide +kernel
theorem dX7_hush_23 : decode cX7_hush 23 = .ok (.invokevirtual 245, 3) := by decide +kernel
theorem dX7_hush_26 : decode cX7_hush 26 = .ok (.aload_n 0, 1) := by decide +kernel
theorem dX7_hush_27 : decode cX7_hush 27 = .ok (.iload_n 1, 1) := by decide +kernel
theorem dX7_hush_28 : decode cX7_hush 28 = .ok (.invokevirtual 199, 3) := by decide +kernel
theorem dX7_hush_31 : decode cX7_hush 31 = .ok (.aload_n 0, 1) := by decide +kernel
theorem dX7_hush_32 : decode cX7_hush 32 = .ok (.getfield 22, 3) := by decide +kernel
theorem dX7_hush_35 : decode cX7_hush 35 = .ok (.bipush 32, 2) := by decide +kernel
theorem dX7_hush_37 : decode cX7_hush 37 = .ok (.iaload, 1) := by decide +kernel
theorem dX7_hush_38 : decode cX7_hush 38 = .ok (.ireturn, 1) := by decide +kernel
theorem dX7_draw_0 : decode cX7_draw 0 = .ok (.aload_n 0, 1) := by decide +kernel
theorem dX7_draw_1 : decode cX7_draw 1 = .ok (.aload_n 0, 1) := by decide +kernel
theorem dX7_draw_2 : decode cX7_draw 2 = .ok (.getfield 260, 3) := by decide +kernel
theorem dX7_draw_5 : decode cX7_draw 5 = .ok (.i2l, 1) := by decide +kernel
theorem dX7_draw_6 : decode cX7_draw 6 = .ok (.ldc2_w 263, 3) := by decide +kernel
theorem dX7_draw_9 : decode cX7_draw 9 = .ok (.lmul, 1) := by decide +kernel
theorem dX7_draw_10 : decode cX7_draw 10 = .ok (.ldc2_w 265, 3) := by decide +kernel
theorem dX7_draw_13 : decode cX7_draw 13 = .ok (.ladd, 1) := by decide +kernel
theorem dX7_draw_14 : decode cX7_draw 14 = .ok (.ldc2_w 267, 3) := by decide +kernel
theorem dX7_draw_17 : decode cX7_draw 17 = .ok (.lrem, 1) := by decide +kernel
theorem dX7_draw_18 : decode cX7_draw 18 = .ok (.l2i, 1) := by decide +kernel
theorem dX7_draw_19 : decode cX7_draw 19 = .ok (.putfield 260, 3) := by decide +kernel
theorem dX7_draw_22 : decode cX7_draw 22 = .ok (.aload_n 0, 1) := by decide +kernel
theorem dX7_draw_23 : decode cX7_draw 23 = .ok (.getfield 260, 3) := by decide +kernel
theorem dX7_draw_26 : decode cX7_draw 26 = .ok (.ldc_w 269, 3) := by decide +kernel
theorem dX7_draw_29 : decode cX7_draw 29 = .ok (.idiv, 1) := by decide +kernel
theorem dX7_draw_30 : decode cX7_draw 30 = .ok (.iload_n 1, 1) := by decide +kernel
theorem dX7_draw_31 : decode cX7_draw 31 = .ok (.irem, 1) := by decide +kernel
theorem dX7_draw_32 : decode cX7_draw 32 = .ok (.ireturn, 1) := by decide +kernel
theorem dX7_chance_0 : decode cX7_chance 0 = .ok (.aload_n 0, 1) := by decide +kernel
theorem dX7_chance_1 : decode cX7_chance 1 = .ok (.iconst 5, 1) := by decide +kernel
theorem dX7_chance_2 : decode cX7_chance 2 = .ok (.invokevirtual 270, 3) := by decide +kernel
theorem dX7_chance_5 : decode cX7_chance 5 = .ok (.istore_n 1, 1) := by decide +kernel
theorem dX7_chance_6 : decode cX7_chance 6 = .ok (.iload_n 1, 1) := by decide +kernel
theorem dX7_chance_7 : decode cX7_chance 7 = .ok (.ifCond .ne 19, 3) := by decide +kernel
theorem dX7_chance_10 : decode cX7_chance 10 = .ok (.aload_n 0, 1) := by decide +kernel
theorem dX7_chance_11 : decode cX7_chance 11 = .ok (.getfield 22, 3) := by decide +kernel
theorem dX7_chance_14 : decode cX7_chance 14 = .ok (.bipush 10, 2) := by decide +kernel
theorem dX7_chance_16 : decode cX7_chance 16 = .ok (.aload_n 0, 1) := by decide +kernel
theorem dX7_chance_17 : decode cX7_chance 17 = .ok (.bipush 10, 2) := by decide +kernel
theorem dX7_chance_19 : decode cX7_chance 19 = .ok (.invokevirtual 270, 3) := by decide +kernel
theorem dX7_chance_22 : decode cX7_chance 22 = .ok (.iastore, 1) := by decide +kernel
theorem dX7_chance_23 : decode cX7_chance 23 = .ok (.goto 80, 3) := by decide +kernel
theorem dX7_chance_26 : decode cX7_chance 26 = .ok (.iload_n 1, 1) := by decide +kernel
theorem dX7_chance_27 : decode cX7_chance 27 = .ok (.iconst 1, 1) := by decide +kernel
theorem dX7_chance_28 : decode cX7_chance 28 = .ok (.if_icmp .ne 54, 3) := by decide +kernel
theorem dX7_chance_31 : decode cX7_chance 31 = .ok (.aload_n 0, 1) := by decide +kernel
theorem dX7_chance_32 : decode cX7_chance 32 = .ok (.getfield 81, 3) := by decide +kernel
theorem dX7_chance_35 : decode cX7_chance 35 = .ok (.iconst 1, 1) := by decide +kernel
theorem dX7_chance_36 : decode cX7_chance 36 = .ok (.if_icmp .le 46, 3) := by decide +kernel
theorem dX7_chance_39 : decode cX7_chance 39 = .ok (.aload_n 0, 1) := by decide +kernel
theorem dX7_chance_40 : decode cX7_chance 40 = .ok (.aload_n 0, 1) := by decide +kernel
theorem dX7_chance_41 : decode cX7_chance 41 = .ok (.getfield 81, 3) := by decide +kernel
theorem dX7_chance_44 : decode cX7_chance 44 = .ok (.iconst 1, 1) := by decide +kernel
theorem dX7_chance_45 : decode cX7_chance 45 = .ok (.isub, 1) := by decide +kernel
theorem dX7_chance_46 : decode cX7_chance 46 = .ok (.invokevirtual 270, 3) := by decide +kernel
theorem dX7_chance_49 : decode cX7_chance 49 = .ok (.iconst 1, 1) := by decide +kernel
theorem dX7_chance_50 : decode cX7_chance 50 = .ok (.iadd, 1) := by decide +kernel
theorem dX7_chance_51 : decode cX7_chance 51 = .ok (.istore_n 2, 1) := by decide +kernel
theorem dX7_chance_52 : decode cX7_chance 52 = .ok (.aload_n 0, 1) := by decide +kernel
theorem dX7_chance_53 : decode cX7_chance 53 = .ok (.aload_n 0, 1) := by decide +kernel
theorem dX7_chance_54 : decode cX7_chance 54 = .ok (.getfield 88, 3) := by decide +kernel
theorem dX7_chance_57 : decode cX7_chance 57 = .ok (.invokevirtual 270, 3) := by decide +kernel
theorem dX7_chance_60 : decode cX7_chance 60 = .ok (.istore_n 3, 1) := by decide +kernel
theorem dX7_chance_61 : decode cX7_chance 61 = .ok (.aload_n 0, 1) := by decide +kernel
theorem dX7_chance_62 : decode cX7_chance 62 = .ok (.getfield 22, 3) := by decide +kernel
theorem dX7_chance_65 : decode cX7_chance 65 = .ok (.bipush 32, 2) := by decide +kernel
theorem dX7_chance_67 : decode cX7_chance 67 = .ok (.iaload, 1) := by decide +kernel
theorem dX7_chance_68 : decode cX7_chance 68 = .ok (.bipush 12, 2) := by decide +kernel
theorem dX7_chance_70 : decode cX7_chance 70 = .ok (.if_icmp .ge 9, 3) := by decide +kernel
theorem dX7_chance_73 : decode cX7_chance 73 = .ok (.aload_n 0, 1) := by decide +kernel
theorem dX7_chance_74 : decode cX7_chance 74 = .ok (.iload_n 2, 1) := by decide +kernel
theorem dX7_chance_75 : decode cX7_chance 75 = .ok (.iload_n 3, 1) := by decide +kernel
theorem dX7_chance_76 : decode cX7_chance 76 = .ok (.invokevirtual 254, 3) := by decide +kernel
theorem dX7_chance_79 : decode cX7_chance 79 = .ok (.goto 24, 3) := by decide +kernel
theorem dX7_chance_82 : decode cX7_chance 82 = .ok (.iload_n 1, 1) := by decide +kernel
theorem dX7_chance_83 : decode cX7_chance 83 = .ok (.iconst 2, 1) := by decide +kernel
theorem dX7_chance_84 : decode cX7_chance 84 = .ok (.if_icmp .ne 19, 3) := by decide +kernel
theorem dX7_chance_87 : decode cX7_chance 87 = .ok (.aload_n 0, 1) := by decide +kernel
theorem dX7_chance_88 : decode cX7_chance 88 = .ok (.getfield 22, 3) := by decide +kernel
theorem dX7_chance_91 : decode cX7_chance 91 = .ok (.bipush 11, 2) := by decide +kernel
theorem dX7_chance_93 : decode cX7_chance 93 = .ok (.iconst 1, 1) := by decide +kernel
theorem dX7_chance_94 : decode cX7_chance 94 = .ok (.aload_n 0, 1) := by decide +kernel
theorem dX7_chance_95 : decode cX7_chance 95 = .ok (.getfield 22, 3) := by decide +kernel
theorem dX7_chance_98 : decode cX7_chance 98 = .ok (.bipush 11, 2) := by decide +kernel
theorem dX7_chance_100 : decode cX7_chance 100 = .ok (.iaload, 1) := by decide +kernel
theorem dX7_chance_101 : decode cX7_chance 101 = .ok (.isub, 1) := by decide +kernel
theorem dX7_chance_102 : decode cX7_chance 102 = .ok (.iastore, 1) := by decide +kernel
theorem dX7_chance_103 : decode cX7_chance 103 = .ok (.return_, 1) := by decide +kernel
theorem dX7_drift_0 : decode cX7_drift 0 = .ok (.aload_n 0, 1) := by decide +kernel
theorem dX7_drift_1 : decode cX7_drift 1 = .ok (.iload_n 1, 1) := by decide +kernel
theorem dX7_drift_2 : decode cX7_drift 2 = .ok (.invokevirtual 242, 3) := by decide +kernel
theorem dX7_drift_5 : decode cX7_drift 5 = .ok (.istore_n 2, 1) := by decide +kernel
theorem dX7_drift_6 : decode cX7_drift 6 = .ok (.iload_n 2, 1) := by decide +kernel
theorem dX7_drift_7 : decode cX7_drift 7 = .ok (.ifCond .eq 5, 3) := by decide +kernel
theorem dX7_drift_10 : decode cX7_drift 10 = .ok (.iload_n 2, 1) := by decide +kernel
theorem dX7_drift_11 : decode cX7_drift 11 = .ok (.ireturn, 1) := by decide +kernel
theorem dX7_drift_12 : decode cX7_drift 12 = .ok (.aload_n 0, 1) := by decide +kernel
theorem dX7_drift_13 : decode cX7_drift 13 = .ok (.invokevirtual 245, 3) := by decide +kernel
theorem dX7_drift_16 : decode cX7_drift 16 = .ok (.iconst 0, 1) := by decide +kernel
theorem dX7_drift_17 : decode cX7_drift 17 = .ok (.istore_n 3, 1) := by decide +kernel
theorem dX7_drift_18 : decode cX7_drift 18 = .ok (.iload_n 3, 1) := by decide +kernel
theorem dX7_drift_19 : decode cX7_drift 19 = .ok (.iload_n 1, 1) := by decide +kernel
theorem dX7_drift_20 : decode cX7_drift 20 = .ok (.if_icmp .ge 17, 3) := by decide +kernel
theorem dX7_drift_23 : decode cX7_drift 23 = .ok (.aload_n 0, 1) := by decide +kernel
theorem dX7_drift_24 : decode cX7_drift 24 = .ok (.invokevirtual 273, 3) := by decide +kernel
theorem dX7_drift_27 : decode cX7_drift 27 = .ok (.aload_n 0, 1) := by decide +kernel
theorem dX7_drift_28 : decode cX7_drift 28 = .ok (.invokevirtual 248, 3) := by decide +kernel
theorem dX7_drift_31 : decode cX7_drift 31 = .ok (.iinc 3 1, 3) := by decide +kernel
theorem dX7_drift_34 : decode cX7_drift 34 = .ok (.goto (-16), 3) := by decide +kernel
theorem dX7_drift_37 : decode cX7_drift 37 = .ok (.aload_n 0, 1) := by decide +kernel
theorem dX7_drift_38 : decode cX7_drift 38 = .ok (.getfield 22, 3) := by decide +kernel
theorem dX7_drift_41 : decode cX7_drift 41 = .ok (.bipush 32, 2) := by decide +kernel
theorem dX7_drift_43 : decode cX7_drift 43 = .ok (.iaload, 1) := by decide +kernel
theorem dX7_drift_44 : decode cX7_drift 44 = .ok (.ireturn, 1) := by decide +kernel
theorem dX7_undo_0 : decode cX7_undo 0 = .ok (.aload_n 0, 1) := by decide +kernel
theorem dX7_undo_1 : decode cX7_undo 1 = .ok (.getfield 156, 3) := by decide +kernel
theorem dX7_undo_4 : decode cX7_undo 4 = .ok (.ifCond .ne 6, 3) := by decide +kernel
theorem dX7_undo_7 : decode cX7_undo 7 = .ok (.ldc 241, 2) := by decide +kernel
theorem dX7_undo_9 : decode cX7_undo 9 = .ok (.ireturn, 1) := by decide +kernel
theorem dX7_undo_10 : decode cX7_undo 10 = .ok (.aload_n 0, 1) := by decide +kernel
theorem dX7_undo_11 : decode cX7_undo 11 = .ok (.dup, 1) := by decide +kernel
theorem dX7_undo_12 : decode cX7_undo 12 = .ok (.getfield 156, 3) := by decide +kernel
theorem dX7_undo_15 : decode cX7_undo 15 = .ok (.iconst 1, 1) := by decide +kernel
theorem dX7_undo_16 : decode cX7_undo 16 = .ok (.isub, 1) := by decide +kernel
theorem dX7_undo_17 : decode cX7_undo 17 = .ok (.putfield 156, 3) := by decide +kernel
theorem dX7_undo_20 : decode cX7_undo 20 = .ok (.iconst 0, 1) := by decide +kernel
theorem dX7_undo_21 : decode cX7_undo 21 = .ok (.istore_n 1, 1) := by decide +kernel
theorem dX7_undo_22 : decode cX7_undo 22 = .ok (.iload_n 1, 1) := by decide +kernel
theorem dX7_undo_23 : decode cX7_undo 23 = .ok (.bipush 66, 2) := by decide +kernel
theorem dX7_undo_25 : decode cX7_undo 25 = .ok (.if_icmp .ge 29, 3) := by decide +kernel
theorem dX7_undo_28 : decode cX7_undo 28 = .ok (.aload_n 0, 1) := by decide +kernel
theorem dX7_undo_29 : decode cX7_undo 29 = .ok (.getfield 22, 3) := by decide +kernel
theorem dX7_undo_32 : decode cX7_undo 32 = .ok (.iload_n 1, 1) := by decide +kernel
theorem dX7_undo_33 : decode cX7_undo 33 = .ok (.aload_n 0, 1) := by decide +kernel
theorem dX7_undo_34 : decode cX7_undo 34 = .ok (.getfield 51, 3) := by decide +kernel
theorem dX7_undo_37 : decode cX7_undo 37 = .ok (.bipush 66, 2) := by decide +kernel
theorem dX7_undo_39 : decode cX7_undo 39 = .ok (.aload_n 0, 1) := by decide +kernel
theorem dX7_undo_40 : decode cX7_undo 40 = .ok (.getfield 156, 3) := by decide +kernel
theorem dX7_undo_43 : decode cX7_undo 43 = .ok (.imul, 1) := by decide +kernel
theorem dX7_undo_44 : decode cX7_undo 44 = .ok (.iload_n 1, 1) := by decide +kernel
theorem dX7_undo_45 : decode cX7_undo 45 = .ok (.iadd, 1) := by decide +kernel
theorem dX7_undo_46 : decode cX7_undo 46 = .ok (.iaload, 1) := by decide +kernel
theorem dX7_undo_47 : decode cX7_undo 47 = .ok (.iastore, 1) := by decide +kernel
theorem dX7_undo_48 : decode cX7_undo 48 = .ok (.iinc 1 1, 3) := by decide +kernel
theorem dX7_undo_51 : decode cX7_undo 51 = .ok (.goto (-29), 3) := by decide +kernel
theorem dX7_undo_54 : decode cX7_undo 54 = .ok (.aload_n 0, 1) := by decide +kernel
theorem dX7_undo_55 : decode cX7_undo 55 = .ok (.getfield 156, 3) := by decide +kernel
theorem dX7_undo_58 : decode cX7_undo 58 = .ok (.ireturn, 1) := by decide +kernel
theorem dX7_down_0 : decode cX7_down 0 = .ok (.aload_n 0, 1) := by decide +kernel
theorem dX7_down_1 : decode cX7_down 1 = .ok (.iload_n 1, 1) := by decide +kernel
theorem dX7_down_2 : decode cX7_down 2 = .ok (.invokevirtual 233, 3) := by decide +kernel
theorem dX7_down_5 : decode cX7_down 5 = .ok (.ifCond .eq 11, 3) := by decide +kernel
theorem dX7_down_8 : decode cX7_down 8 = .ok (.aload_n 0, 1) := by decide +kernel
theorem dX7_down_9 : decode cX7_down 9 = .ok (.iload_n 1, 1) := by decide +kernel
theorem dX7_down_10 : decode cX7_down 10 = .ok (.invokevirtual 206, 3) := by decide +kernel
theorem dX7_down_13 : decode cX7_down 13 = .ok (.goto 5, 3) := by decide +kernel
theorem dX7_down_16 : decode cX7_down 16 = .ok (.ldc 236, 2) := by decide +kernel
theorem dX7_down_18 : decode cX7_down 18 = .ok (.ireturn, 1) := by decide +kernel
theorem dX7_up_0 : decode cX7_up 0 = .ok (.aload_n 0, 1) := by decide +kernel
theorem dX7_up_1 : decode cX7_up 1 = .ok (.iload_n 1, 1) := by decide +kernel
theorem dX7_up_2 : decode cX7_up 2 = .ok (.invokevirtual 233, 3) := by decide +kernel
theorem dX7_up_5 : decode cX7_up 5 = .ok (.ifCond .eq 11, 3) := by decide +kernel
theorem dX7_up_8 : decode cX7_up 8 = .ok (.aload_n 0, 1) := by decide +kernel
theorem dX7_up_9 : decode cX7_up 9 = .ok (.iload_n 1, 1) := by decide +kernel
theorem dX7_up_10 : decode cX7_up 10 = .ok (.invokevirtual 209, 3) := by decide +kernel
theorem dX7_up_13 : decode cX7_up 13 = .ok (.goto 5, 3) := by decide +kernel
theorem dX7_up_16 : decode cX7_up 16 = .ok (.ldc 236, 2) := by decide +kernel
theorem dX7_up_18 : decode cX7_up 18 = .ok (.ireturn, 1) := by decide +kernel
theorem dX7_becomes_0 : decode cX7_becomes 0 = .ok (.aload_n 0, 1) := by decide +kernel
theorem dX7_becomes_1 : decode cX7_becomes 1 = .ok (.iload_n 1, 1) := by decide +kernel
theorem dX7_becomes_2 : decode cX7_becomes 2 = .ok (.invokevirtual 233, 3) := by decide +kernel
theorem dX7_becomes_5 : decode cX7_becomes 5 = .ok (.ifCond .eq 19, 3) := by decide +kernel
theorem dX7_becomes_8 : decode cX7_becomes 8 = .ok (.aload_n 0, 1) := by decide +kernel
theorem dX7_becomes_9 : decode cX7_becomes 9 = .ok (.iload_n 2, 1) := by decide +kernel
theorem dX7_becomes_10 : decode cX7_becomes 10 = .ok (.invokevirtual 233, 3) := by decide +kernel
theorem dX7_becomes_13 : decode cX7_becomes 13 = .ok (.ifCond .eq 11, 3) := by decide +kernel
theorem dX7_becomes_16 : decode cX7_becomes 16 = .ok (.aload_n 0, 1) := by decide +kernel
theorem dX7_becomes_17 : decode cX7_becomes 17 = .ok (.iload_n 3, 1) := by decide +kernel
theorem dX7_becomes_18 : decode cX7_becomes 18 = .ok (.invokevirtual 251, 3) := by decide +kernel
theorem dX7_becomes_21 : decode cX7_becomes 21 = .ok (.ifCond .ne 6, 3) := by decide +kernel
theorem dX7_becomes_24 : decode cX7_becomes 24 = .ok (.ldc 236, 2) := by decide +kernel
theorem dX7_becomes_26 : decode cX7_becomes 26 = .ok (.ireturn, 1) := by decide +kernel
theorem dX7_becomes_27 : decode cX7_becomes 27 = .ok (.aload_n 0, 1) := by decide +kernel
theorem dX7_becomes_28 : decode cX7_becomes 28 = .ok (.iload_n 1, 1) := by decide +kernel
theorem dX7_becomes_29 : decode cX7_becomes 29 = .ok (.invokevirtual 206, 3) := by decide +kernel
theorem dX7_becomes_32 : decode cX7_becomes 32 = .ok (.iload_n 2, 1) := by decide +kernel
theorem dX7_becomes_33 : decode cX7_becomes 33 = .ok (.invokestatic 163, 3) := by decide +kernel
theorem dX7_becomes_36 : decode cX7_becomes 36 = .ok (.ifCond .eq 13, 3) := by decide +kernel
theorem dX7_becomes_39 : decode cX7_becomes 39 = .ok (.aload_n 0, 1) := by decide +kernel
theorem dX7_becomes_40 : decode cX7_becomes 40 = .ok (.iload_n 1, 1) := by decide +kernel
theorem dX7_becomes_41 : decode cX7_becomes 41 = .ok (.iload_n 2, 1) := by decide +kernel
theorem dX7_becomes_42 : decode cX7_becomes 42 = .ok (.iload_n 3, 1) := by decide +kernel
theorem dX7_becomes_43 : decode cX7_becomes 43 = .ok (.invokevirtual 215, 3) := by decide +kernel
theorem dX7_becomes_46 : decode cX7_becomes 46 = .ok (.goto 4, 3) := by decide +kernel
theorem dX7_becomes_49 : decode cX7_becomes 49 = .ok (.iconst (-1), 1) := by decide +kernel
theorem dX7_becomes_50 : decode cX7_becomes 50 = .ok (.ireturn, 1) := by decide +kernel
theorem dX7_takes_0 : decode cX7_takes 0 = .ok (.aload_n 0, 1) := by decide +kernel
theorem dX7_takes_1 : decode cX7_takes 1 = .ok (.iload_n 1, 1) := by decide +kernel
theorem dX7_takes_2 : decode cX7_takes 2 = .ok (.invokevirtual 233, 3) := by decide +kernel
theorem dX7_takes_5 : decode cX7_takes 5 = .ok (.ifCond .eq 11, 3) := by decide +kernel
theorem dX7_takes_8 : decode cX7_takes 8 = .ok (.aload_n 0, 1) := by decide +kernel
theorem dX7_takes_9 : decode cX7_takes 9 = .ok (.iload_n 2, 1) := by decide +kernel
theorem dX7_takes_10 : decode cX7_takes 10 = .ok (.invokevirtual 233, 3) := by decide +kernel
theorem dX7_takes_13 : decode cX7_takes 13 = .ok (.ifCond .ne 6, 3) := by decide +kernel
theorem dX7_takes_16 : decode cX7_takes 16 = .ok (.ldc 236, 2) := by decide +kernel
theorem dX7_takes_18 : decode cX7_takes 18 = .ok (.ireturn, 1) := by decide +kernel
theorem dX7_takes_19 : decode cX7_takes 19 = .ok (.aload_n 0, 1) := by decide +kernel
theorem dX7_takes_20 : decode cX7_takes 20 = .ok (.iload_n 1, 1) := by decide +kernel
theorem dX7_takes_21 : decode cX7_takes 21 = .ok (.invokevirtual 206, 3) := by decide +kernel
theorem dX7_takes_24 : decode cX7_takes 24 = .ok (.iload_n 2, 1) := by decide +kernel
theorem dX7_takes_25 : decode cX7_takes 25 = .ok (.invokestatic 163, 3) := by decide +kernel
theorem dX7_takes_28 : decode cX7_takes 28 = .ok (.ifCond .eq 22, 3) := by decide +kernel
theorem dX7_takes_31 : decode cX7_takes 31 = .ok (.aload_n 0, 1) := by decide +kernel
theorem dX7_takes_32 : decode cX7_takes 32 = .ok (.getfield 22, 3) := by decide +kernel
theorem dX7_takes_35 : decode cX7_takes 35 = .ok (.bipush 10, 2) := by decide +kernel
theorem dX7_takes_37 : decode cX7_takes 37 = .ok (.iaload, 1) := by decide +kernel
theorem dX7_takes_38 : decode cX7_takes 38 = .ok (.ifCond .le 12, 3) := by decide +kernel
theorem dX7_takes_41 : decode cX7_takes 41 = .ok (.aload_n 0, 1) := by decide +kernel
theorem dX7_takes_42 : decode cX7_takes 42 = .ok (.iload_n 1, 1) := by decide +kernel
theorem dX7_takes_43 : decode cX7_takes 43 = .ok (.iload_n 2, 1) := by decide +kernel
theorem dX7_takes_44 : decode cX7_takes 44 = .ok (.invokevirtual 218, 3) := by decide +kernel
theorem dX7_takes_47 : decode cX7_takes 47 = .ok (.goto 4, 3) := by decide +kernel
theorem dX7_takes_50 : decode cX7_takes 50 = .ok (.iconst (-1), 1) := by decide +kernel
theorem dX7_takes_51 : decode cX7_takes 51 = .ok (.ireturn, 1) := by decide +kernel
theorem dX7_wordsFor_0 : decode cX7_wordsFor 0 = .ok (.iconst 0, 1) := by decide +kernel
theorem dX7_wordsFor_1 : decode cX7_wordsFor 1 = .ok (.istore 4, 2) := by decide +kernel
theorem dX7_wordsFor_3 : decode cX7_wordsFor 3 = .ok (.iconst 0, 1) := by decide +kernel
theorem dX7_wordsFor_4 : decode cX7_wordsFor 4 = .ok (.istore 5, 2) := by decide +kernel
theorem dX7_wordsFor_6 : decode cX7_wordsFor 6 = .ok (.iload 5, 2) := by decide +kernel
theorem dX7_wordsFor_8 : decode cX7_wordsFor 8 = .ok (.aload_n 0, 1) := by decide +kernel
theorem dX7_wordsFor_9 : decode cX7_wordsFor 9 = .ok (.getfield 88, 3) := by decide +kernel
theorem dX7_wordsFor_12 : decode cX7_wordsFor 12 = .ok (.if_icmp .ge 46, 3) := by decide +kernel
theorem dX7_wordsFor_15 : decode cX7_wordsFor 15 = .ok (.aload_n 0, 1) := by decide +kernel
theorem dX7_wordsFor_16 : decode cX7_wordsFor 16 = .ok (.iload_n 1, 1) := by decide +kernel
theorem dX7_wordsFor_17 : decode cX7_wordsFor 17 = .ok (.invokevirtual 206, 3) := by decide +kernel
theorem dX7_wordsFor_20 : decode cX7_wordsFor 20 = .ok (.iload_n 2, 1) := by decide +kernel
theorem dX7_wordsFor_21 : decode cX7_wordsFor 21 = .ok (.invokestatic 163, 3) := by decide +kernel
theorem dX7_wordsFor_24 : decode cX7_wordsFor 24 = .ok (.ifCond .eq 34, 3) := by decide +kernel
theorem dX7_wordsFor_27 : decode cX7_wordsFor 27 = .ok (.iload 4, 2) := by decide +kernel
theorem dX7_wordsFor_29 : decode cX7_wordsFor 29 = .ok (.aload_n 0, 1) := by decide +kernel
theorem dX7_wordsFor_30 : decode cX7_wordsFor 30 = .ok (.iload_n 1, 1) := by decide +kernel
theorem dX7_wordsFor_31 : decode cX7_wordsFor 31 = .ok (.iload_n 2, 1) := by decide +kernel
theorem dX7_wordsFor_32 : decode cX7_wordsFor 32 = .ok (.iload 5, 2) := by decide +kernel
theorem dX7_wordsFor_34 : decode cX7_wordsFor 34 = .ok (.invokevirtual 215, 3) := by decide +kernel
theorem dX7_wordsFor_37 : decode cX7_wordsFor 37 = .ok (.iload_n 3, 1) := by decide +kernel
theorem dX7_wordsFor_38 : decode cX7_wordsFor 38 = .ok (.if_icmp .ne 10, 3) := by decide +kernel
theorem dX7_wordsFor_41 : decode cX7_wordsFor 41 = .ok (.iconst 1, 1) := by decide +kernel
theorem dX7_wordsFor_42 : decode cX7_wordsFor 42 = .ok (.iload 5, 2) := by decide +kernel
theorem dX7_wordsFor_44 : decode cX7_wordsFor 44 = .ok (.ishl, 1) := by decide +kernel
theorem dX7_wordsFor_45 : decode cX7_wordsFor 45 = .ok (.goto 4, 3) := by decide +kernel
theorem dX7_wordsFor_48 : decode cX7_wordsFor 48 = .ok (.iconst 0, 1) := by decide +kernel
theorem dX7_wordsFor_49 : decode cX7_wordsFor 49 = .ok (.ior, 1) := by decide +kernel
theorem dX7_wordsFor_50 : decode cX7_wordsFor 50 = .ok (.istore 4, 2) := by decide +kernel
theorem dX7_wordsFor_52 : decode cX7_wordsFor 52 = .ok (.iinc 5 1, 3) := by decide +kernel
theorem dX7_wordsFor_55 : decode cX7_wordsFor 55 = .ok (.goto (-49), 3) := by decide +kernel
theorem dX7_wordsFor_58 : decode cX7_wordsFor 58 = .ok (.iload 4, 2) := by decide +kernel
theorem dX7_wordsFor_60 : decode cX7_wordsFor 60 = .ok (.ireturn, 1) := by decide +kernel
theorem dX7_toSay_0 : decode cX7_toSay 0 = .ok (.aload_n 0, 1) := by decide +kernel
theorem dX7_toSay_1 : decode cX7_toSay 1 = .ok (.iload_n 1, 1) := by decide +kernel
theorem dX7_toSay_2 : decode cX7_toSay 2 = .ok (.invokevirtual 233, 3) := by decide +kernel
theorem dX7_toSay_5 : decode cX7_toSay 5 = .ok (.ifCond .eq 29, 3) := by decide +kernel
theorem dX7_toSay_8 : decode cX7_toSay 8 = .ok (.aload_n 0, 1) := by decide +kernel
theorem dX7_toSay_9 : decode cX7_toSay 9 = .ok (.iload_n 2, 1) := by decide +kernel
theorem dX7_toSay_10 : decode cX7_toSay 10 = .ok (.invokevirtual 233, 3) := by decide +kernel
theorem dX7_toSay_13 : decode cX7_toSay 13 = .ok (.ifCond .eq 21, 3) := by decide +kernel
theorem dX7_toSay_16 : decode cX7_toSay 16 = .ok (.aload_n 0, 1) := by decide +kernel
theorem dX7_toSay_17 : decode cX7_toSay 17 = .ok (.iload_n 3, 1) := by decide +kernel
theorem dX7_toSay_18 : decode cX7_toSay 18 = .ok (.invokevirtual 251, 3) := by decide +kernel
theorem dX7_toSay_21 : decode cX7_toSay 21 = .ok (.ifCond .eq 13, 3) := by decide +kernel
theorem dX7_toSay_24 : decode cX7_toSay 24 = .ok (.aload_n 0, 1) := by decide +kernel
theorem dX7_toSay_25 : decode cX7_toSay 25 = .ok (.iload_n 1, 1) := by decide +kernel
theorem dX7_toSay_26 : decode cX7_toSay 26 = .ok (.iload_n 2, 1) := by decide +kernel
theorem dX7_toSay_27 : decode cX7_toSay 27 = .ok (.iload_n 3, 1) := by decide +kernel
theorem dX7_toSay_28 : decode cX7_toSay 28 = .ok (.invokevirtual 276, 3) := by decide +kernel
theorem dX7_toSay_31 : decode cX7_toSay 31 = .ok (.goto 5, 3) := by decide +kernel
theorem dX7_toSay_34 : decode cX7_toSay 34 = .ok (.ldc 236, 2) := by decide +kernel
theorem dX7_toSay_36 : decode cX7_toSay 36 = .ok (.ireturn, 1) := by decide +kernel
theorem dX7_origin_0 : decode cX7_origin 0 = .ok (.aload_n 0, 1) := by decide +kernel
theorem dX7_origin_1 : decode cX7_origin 1 = .ok (.iload_n 1, 1) := by decide +kernel
theorem dX7_origin_2 : decode cX7_origin 2 = .ok (.invokevirtual 233, 3) := by decide +kernel
theorem dX7_origin_5 : decode cX7_origin 5 = .ok (.ifCond .eq 24, 3) := by decide +kernel
theorem dX7_origin_8 : decode cX7_origin 8 = .ok (.aload_n 0, 1) := by decide +kernel
theorem dX7_origin_9 : decode cX7_origin 9 = .ok (.iload_n 2, 1) := by decide +kernel
theorem dX7_origin_10 : decode cX7_origin 10 = .ok (.invokevirtual 251, 3) := by decide +kernel
theorem dX7_origin_13 : decode cX7_origin 13 = .ok (.ifCond .eq 16, 3) := by decide +kernel
theorem dX7_origin_16 : decode cX7_origin 16 = .ok (.iload_n 3, 1) := by decide +kernel
theorem dX7_origin_17 : decode cX7_origin 17 = .ok (.iconst (-1), 1) := by decide +kernel
theorem dX7_origin_18 : decode cX7_origin 18 = .ok (.if_icmp .eq 14, 3) := by decide +kernel
theorem dX7_origin_21 : decode cX7_origin 21 = .ok (.aload_n 0, 1) := by decide +kernel
theorem dX7_origin_22 : decode cX7_origin 22 = .ok (.iload_n 3, 1) := by decide +kernel
theorem dX7_origin_23 : decode cX7_origin 23 = .ok (.invokevirtual 233, 3) := by decide +kernel
theorem dX7_origin_26 : decode cX7_origin 26 = .ok (.ifCond .ne 6, 3) := by decide +kernel
theorem dX7_origin_29 : decode cX7_origin 29 = .ok (.ldc 236, 2) := by decide +kernel
theorem dX7_origin_31 : decode cX7_origin 31 = .ok (.ireturn, 1) := by decide +kernel
theorem dX7_origin_32 : decode cX7_origin 32 = .ok (.iload_n 3, 1) := by decide +kernel
theorem dX7_origin_33 : decode cX7_origin 33 = .ok (.iconst (-1), 1) := by decide +kernel
theorem dX7_origin_34 : decode cX7_origin 34 = .ok (.if_icmp .eq 11, 3) := by decide +kernel
theorem dX7_origin_37 : decode cX7_origin 37 = .ok (.aload_n 0, 1) := by decide +kernel
theorem dX7_origin_38 : decode cX7_origin 38 = .ok (.iload_n 3, 1) := by decide +kernel
theorem dX7_origin_39 : decode cX7_origin 39 = .ok (.iload_n 1, 1) := by decide +kernel
theorem dX7_origin_40 : decode cX7_origin 40 = .ok (.iload_n 2, 1) := by decide +kernel
theorem dX7_origin_41 : decode cX7_origin 41 = .ok (.invokevirtual 276, 3) := by decide +kernel
theorem dX7_origin_44 : decode cX7_origin 44 = .ok (.ireturn, 1) := by decide +kernel
theorem dX7_origin_45 : decode cX7_origin 45 = .ok (.iconst 0, 1) := by decide +kernel
theorem dX7_origin_46 : decode cX7_origin 46 = .ok (.istore 4, 2) := by decide +kernel
theorem dX7_origin_48 : decode cX7_origin 48 = .ok (.iconst 0, 1) := by decide +kernel
theorem dX7_origin_49 : decode cX7_origin 49 = .ok (.istore 5, 2) := by decide +kernel
theorem dX7_origin_51 : decode cX7_origin 51 = .ok (.iload 5, 2) := by decide +kernel
theorem dX7_origin_53 : decode cX7_origin 53 = .ok (.aload_n 0, 1) := by decide +kernel
theorem dX7_origin_54 : decode cX7_origin 54 = .ok (.getfield 81, 3) := by decide +kernel
theorem dX7_origin_57 : decode cX7_origin 57 = .ok (.if_icmp .ge 25, 3) := by decide +kernel
theorem dX7_origin_60 : decode cX7_origin 60 = .ok (.iload 4, 2) := by decide +kernel
theorem dX7_origin_62 : decode cX7_origin 62 = .ok (.aload_n 0, 1) := by decide +kernel
theorem dX7_origin_63 : decode cX7_origin 63 = .ok (.iload 5, 2) := by decide +kernel
theorem dX7_origin_65 : decode cX7_origin 65 = .ok (.iload_n 1, 1) := by decide +kernel
theorem dX7_origin_66 : decode cX7_origin 66 = .ok (.iload_n 2, 1) := by decide +kernel
theorem dX7_origin_67 : decode cX7_origin 67 = .ok (.invokevirtual 276, 3) := by decide +kernel
theorem dX7_origin_70 : decode cX7_origin 70 = .ok (.invokestatic 212, 3) := by decide +kernel
theorem dX7_origin_73 : decode cX7_origin 73 = .ok (.iadd, 1) := by decide +kernel
theorem dX7_origin_74 : decode cX7_origin 74 = .ok (.istore 4, 2) := by decide +kernel
theorem dX7_origin_76 : decode cX7_origin 76 = .ok (.iinc 5 1, 3) := by decide +kernel
theorem dX7_origin_79 : decode cX7_origin 79 = .ok (.goto (-28), 3) := by decide +kernel
theorem dX7_origin_82 : decode cX7_origin 82 = .ok (.iload 4, 2) := by decide +kernel
theorem dX7_origin_84 : decode cX7_origin 84 = .ok (.ireturn, 1) := by decide +kernel
theorem dX7_isSet_0 : decode cX7_isSet 0 = .ok (.iload_n 1, 1) := by decide +kernel
theorem dX7_isSet_1 : decode cX7_isSet 1 = .ok (.i2l, 1) := by decide +kernel
theorem dX7_isSet_2 : decode cX7_isSet 2 = .ok (.lconst 0, 1) := by decide +kernel
theorem dX7_isSet_3 : decode cX7_isSet 3 = .ok (.iconst 1, 1) := by decide +kernel
theorem dX7_isSet_4 : decode cX7_isSet 4 = .ok (.aload_n 0, 1) := by decide +kernel
theorem dX7_isSet_5 : decode cX7_isSet 5 = .ok (.getfield 81, 3) := by decide +kernel
theorem dX7_isSet_8 : decode cX7_isSet 8 = .ok (.ishl, 1) := by decide +kernel
theorem dX7_isSet_9 : decode cX7_isSet 9 = .ok (.iconst 1, 1) := by decide +kernel
theorem dX7_isSet_10 : decode cX7_isSet 10 = .ok (.isub, 1) := by decide +kernel
theorem dX7_isSet_11 : decode cX7_isSet 11 = .ok (.i2l, 1) := by decide +kernel
theorem dX7_isSet_12 : decode cX7_isSet 12 = .ok (.invokestatic 84, 3) := by decide +kernel
theorem dX7_isSet_15 : decode cX7_isSet 15 = .ok (.ireturn, 1) := by decide +kernel
theorem dX7_privately_0 : decode cX7_privately 0 = .ok (.aload_n 0, 1) := by decide +kernel
theorem dX7_privately_1 : decode cX7_privately 1 = .ok (.iload_n 1, 1) := by decide +kernel
theorem dX7_privately_2 : decode cX7_privately 2 = .ok (.invokevirtual 279, 3) := by decide +kernel
theorem dX7_privately_5 : decode cX7_privately 5 = .ok (.ifCond .ne 6, 3) := by decide +kernel
theorem dX7_privately_8 : decode cX7_privately 8 = .ok (.ldc 236, 2) := by decide +kernel
theorem dX7_privately_10 : decode cX7_privately 10 = .ok (.ireturn, 1) := by decide +kernel
theorem dX7_privately_11 : decode cX7_privately 11 = .ok (.iconst 0, 1) := by decide +kernel
theorem dX7_privately_12 : decode cX7_privately 12 = .ok (.istore_n 2, 1) := by decide +kernel
theorem dX7_privately_13 : decode cX7_privately 13 = .ok (.iconst 1, 1) := by decide +kernel
theorem dX7_privately_14 : decode cX7_privately 14 = .ok (.istore_n 3, 1) := by decide +kernel
theorem dX7_privately_15 : decode cX7_privately 15 = .ok (.iload_n 3, 1) := by decide +kernel
theorem dX7_privately_16 : decode cX7_privately 16 = .ok (.aload_n 0, 1) := by decide +kernel
theorem dX7_privately_17 : decode cX7_privately 17 = .ok (.getfield 81, 3) := by decide +kernel
theorem dX7_privately_20 : decode cX7_privately 20 = .ok (.if_icmp .ge 29, 3) := by decide +kernel
theorem dX7_privately_23 : decode cX7_privately 23 = .ok (.iload_n 2, 1) := by decide +kernel
theorem dX7_privately_24 : decode cX7_privately 24 = .ok (.aload_n 0, 1) := by decide +kernel
theorem dX7_privately_25 : decode cX7_privately 25 = .ok (.iload_n 3, 1) := by decide +kernel
theorem dX7_privately_26 : decode cX7_privately 26 = .ok (.invokevirtual 206, 3) := by decide +kernel
theorem dX7_privately_29 : decode cX7_privately 29 = .ok (.iload_n 1, 1) := by decide +kernel
theorem dX7_privately_30 : decode cX7_privately 30 = .ok (.iand, 1) := by decide +kernel
theorem dX7_privately_31 : decode cX7_privately 31 = .ok (.ifCond .ne 9, 3) := by decide +kernel
theorem dX7_privately_34 : decode cX7_privately 34 = .ok (.iconst 1, 1) := by decide +kernel
theorem dX7_privately_35 : decode cX7_privately 35 = .ok (.iload_n 3, 1) := by decide +kernel
theorem dX7_privately_36 : decode cX7_privately 36 = .ok (.ishl, 1) := by decide +kernel
theorem dX7_privately_37 : decode cX7_privately 37 = .ok (.goto 4, 3) := by decide +kernel
theorem dX7_privately_40 : decode cX7_privately 40 = .ok (.iconst 0, 1) := by decide +kernel
theorem dX7_privately_41 : decode cX7_privately 41 = .ok (.ior, 1) := by decide +kernel
theorem dX7_privately_42 : decode cX7_privately 42 = .ok (.istore_n 2, 1) := by decide +kernel
theorem dX7_privately_43 : decode cX7_privately 43 = .ok (.iinc 3 1, 3) := by decide +kernel
theorem dX7_privately_46 : decode cX7_privately 46 = .ok (.goto (-31), 3) := by decide +kernel
theorem dX7_privately_49 : decode cX7_privately 49 = .ok (.iload_n 2, 1) := by decide +kernel
theorem dX7_privately_50 : decode cX7_privately 50 = .ok (.ireturn, 1) := by decide +kernel
theorem dX7_dams_0 : decode cX7_dams 0 = .ok (.aload_n 0, 1) := by decide +kernel
theorem dX7_dams_1 : decode cX7_dams 1 = .ok (.iload_n 1, 1) := by decide +kernel
theorem dX7_dams_2 : decode cX7_dams 2 = .ok (.invokevirtual 233, 3) := by decide +kernel
theorem dX7_dams_5 : decode cX7_dams 5 = .ok (.ifCond .eq 11, 3) := by decide +kernel
theorem dX7_dams_8 : decode cX7_dams 8 = .ok (.aload_n 0, 1) := by decide +kernel
theorem dX7_dams_9 : decode cX7_dams 9 = .ok (.iload_n 2, 1) := by decide +kernel
theorem dX7_dams_10 : decode cX7_dams 10 = .ok (.invokevirtual 279, 3) := by decide +kernel
theorem dX7_dams_13 : decode cX7_dams 13 = .ok (.ifCond .ne 6, 3) := by decide +kernel
theorem dX7_dams_16 : decode cX7_dams 16 = .ok (.ldc 236, 2) := by decide +kernel
theorem dX7_dams_18 : decode cX7_dams 18 = .ok (.ireturn, 1) := by decide +kernel
theorem dX7_dams_19 : decode cX7_dams 19 = .ok (.aload_n 0, 1) := by decide +kernel
theorem dX7_dams_20 : decode cX7_dams 20 = .ok (.getfield 22, 3) := by decide +kernel
theorem dX7_dams_23 : decode cX7_dams 23 = .ok (.bipush 9, 2) := by decide +kernel
theorem dX7_dams_25 : decode cX7_dams 25 = .ok (.iaload, 1) := by decide +kernel
theorem dX7_dams_26 : decode cX7_dams 26 = .ok (.istore_n 3, 1) := by decide +kernel
theorem dX7_dams_27 : decode cX7_dams 27 = .ok (.iconst (-1), 1) := by decide +kernel
theorem dX7_dams_28 : decode cX7_dams 28 = .ok (.istore 4, 2) := by decide +kernel
theorem dX7_dams_30 : decode cX7_dams 30 = .ok (.iconst 0, 1) := by decide +kernel
theorem dX7_dams_31 : decode cX7_dams 31 = .ok (.istore 5, 2) := by decide +kernel
theorem dX7_dams_33 : decode cX7_dams 33 = .ok (.iload 5, 2) := by decide +kernel
theorem dX7_dams_35 : decode cX7_dams 35 = .ok (.iconst 1, 1) := by decide +kernel
theorem dX7_dams_36 : decode cX7_dams 36 = .ok (.aload_n 0, 1) := by decide +kernel
theorem dX7_dams_37 : decode cX7_dams 37 = .ok (.getfield 81, 3) := by decide +kernel
theorem dX7_dams_40 : decode cX7_dams 40 = .ok (.ishl, 1) := by decide +kernel
theorem dX7_dams_41 : decode cX7_dams 41 = .ok (.if_icmp .ge 76, 3) := by decide +kernel
theorem dX7_dams_44 : decode cX7_dams 44 = .ok (.iload 5, 2) := by decide +kernel
theorem dX7_dams_46 : decode cX7_dams 46 = .ok (.iload_n 3, 1) := by decide +kernel
theorem dX7_dams_47 : decode cX7_dams 47 = .ok (.iand, 1) := by decide +kernel
theorem dX7_dams_48 : decode cX7_dams 48 = .ok (.ifCond .ne 25, 3) := by decide +kernel
theorem dX7_dams_51 : decode cX7_dams 51 = .ok (.iload 4, 2) := by decide +kernel
theorem dX7_dams_53 : decode cX7_dams 53 = .ok (.ifCond .lt 16, 3) := by decide +kernel
theorem dX7_dams_56 : decode cX7_dams 56 = .ok (.iload 5, 2) := by decide +kernel
theorem dX7_dams_58 : decode cX7_dams 58 = .ok (.invokestatic 212, 3) := by decide +kernel
theorem dX7_dams_61 : decode cX7_dams 61 = .ok (.iload 4, 2) := by decide +kernel
theorem dX7_dams_63 : decode cX7_dams 63 = .ok (.invokestatic 212, 3) := by decide +kernel
theorem dX7_dams_66 : decode cX7_dams 66 = .ok (.if_icmp .ge 7, 3) := by decide +kernel
theorem dX7_dams_69 : decode cX7_dams 69 = .ok (.iconst 1, 1) := by decide +kernel
theorem dX7_dams_70 : decode cX7_dams 70 = .ok (.goto 4, 3) := by decide +kernel
theorem dX7_dams_73 : decode cX7_dams 73 = .ok (.iconst 0, 1) := by decide +kernel
theorem dX7_dams_74 : decode cX7_dams 74 = .ok (.istore 6, 2) := by decide +kernel
theorem dX7_dams_76 : decode cX7_dams 76 = .ok (.aload_n 0, 1) := by decide +kernel
theorem dX7_dams_77 : decode cX7_dams 77 = .ok (.getfield 22, 3) := by decide +kernel
theorem dX7_dams_80 : decode cX7_dams 80 = .ok (.bipush 9, 2) := by decide +kernel
theorem dX7_dams_82 : decode cX7_dams 82 = .ok (.iload_n 3, 1) := by decide +kernel
theorem dX7_dams_83 : decode cX7_dams 83 = .ok (.iload 5, 2) := by decide +kernel
theorem dX7_dams_85 : decode cX7_dams 85 = .ok (.ior, 1) := by decide +kernel
theorem dX7_dams_86 : decode cX7_dams 86 = .ok (.iastore, 1) := by decide +kernel
theorem dX7_dams_87 : decode cX7_dams 87 = .ok (.iload 6, 2) := by decide +kernel
theorem dX7_dams_89 : decode cX7_dams 89 = .ok (.ifCond .eq 18, 3) := by decide +kernel
theorem dX7_dams_92 : decode cX7_dams 92 = .ok (.aload_n 0, 1) := by decide +kernel
theorem dX7_dams_93 : decode cX7_dams 93 = .ok (.iload_n 1, 1) := by decide +kernel
theorem dX7_dams_94 : decode cX7_dams 94 = .ok (.invokevirtual 206, 3) := by decide +kernel
theorem dX7_dams_97 : decode cX7_dams 97 = .ok (.iload_n 2, 1) := by decide +kernel
theorem dX7_dams_98 : decode cX7_dams 98 = .ok (.iand, 1) := by decide +kernel
theorem dX7_dams_99 : decode cX7_dams 99 = .ok (.ifCond .ne 8, 3) := by decide +kernel
theorem dX7_dams_102 : decode cX7_dams 102 = .ok (.iload 5, 2) := by decide +kernel
theorem dX7_dams_104 : decode cX7_dams 104 = .ok (.goto 5, 3) := by decide +kernel
theorem dX7_dams_107 : decode cX7_dams 107 = .ok (.iload 4, 2) := by decide +kernel
theorem dX7_dams_109 : decode cX7_dams 109 = .ok (.istore 4, 2) := by decide +kernel
theorem dX7_dams_111 : decode cX7_dams 111 = .ok (.iinc 5 2, 3) := by decide +kernel
theorem dX7_dams_114 : decode cX7_dams 114 = .ok (.goto (-81), 3) := by decide +kernel
theorem dX7_dams_117 : decode cX7_dams 117 = .ok (.aload_n 0, 1) := by decide +kernel
theorem dX7_dams_118 : decode cX7_dams 118 = .ok (.getfield 22, 3) := by decide +kernel
theorem dX7_dams_121 : decode cX7_dams 121 = .ok (.bipush 9, 2) := by decide +kernel
theorem dX7_dams_123 : decode cX7_dams 123 = .ok (.iload_n 3, 1) := by decide +kernel
theorem dX7_dams_124 : decode cX7_dams 124 = .ok (.iastore, 1) := by decide +kernel
theorem dX7_dams_125 : decode cX7_dams 125 = .ok (.iload 4, 2) := by decide +kernel
theorem dX7_dams_127 : decode cX7_dams 127 = .ok (.ireturn, 1) := by decide +kernel
theorem dX7_putBack_0 : decode cX7_putBack 0 = .ok (.iconst 0, 1) := by decide +kernel
theorem dX7_putBack_1 : decode cX7_putBack 1 = .ok (.istore_n 1, 1) := by decide +kernel
theorem dX7_putBack_2 : decode cX7_putBack 2 = .ok (.iload_n 1, 1) := by decide +kernel
theorem dX7_putBack_3 : decode cX7_putBack 3 = .ok (.bipush 66, 2) := by decide +kernel
theorem dX7_putBack_5 : decode cX7_putBack 5 = .ok (.if_icmp .ge 21, 3) := by decide +kernel
theorem dX7_putBack_8 : decode cX7_putBack 8 = .ok (.aload_n 0, 1) := by decide +kernel
theorem dX7_putBack_9 : decode cX7_putBack 9 = .ok (.getfield 22, 3) := by decide +kernel
theorem dX7_putBack_12 : decode cX7_putBack 12 = .ok (.iload_n 1, 1) := by decide +kernel
theorem dX7_putBack_13 : decode cX7_putBack 13 = .ok (.aload_n 0, 1) := by decide +kernel
theorem dX7_putBack_14 : decode cX7_putBack 14 = .ok (.getfield 54, 3) := by decide +kernel
theorem dX7_putBack_17 : decode cX7_putBack 17 = .ok (.iload_n 1, 1) := by decide +kernel
theorem dX7_putBack_18 : decode cX7_putBack 18 = .ok (.iaload, 1) := by decide +kernel
theorem dX7_putBack_19 : decode cX7_putBack 19 = .ok (.iastore, 1) := by decide +kernel
theorem dX7_putBack_20 : decode cX7_putBack 20 = .ok (.iinc 1 1, 3) := by decide +kernel
theorem dX7_putBack_23 : decode cX7_putBack 23 = .ok (.goto (-21), 3) := by decide +kernel
theorem dX7_putBack_26 : decode cX7_putBack 26 = .ok (.return_, 1) := by decide +kernel
theorem dX7_keepBefore_0 : decode cX7_keepBefore 0 = .ok (.iconst 0, 1) := by decide +kernel
theorem dX7_keepBefore_1 : decode cX7_keepBefore 1 = .ok (.istore_n 1, 1) := by decide +kernel
theorem dX7_keepBefore_2 : decode cX7_keepBefore 2 = .ok (.iload_n 1, 1) := by decide +kernel
theorem dX7_keepBefore_3 : decode cX7_keepBefore 3 = .ok (.bipush 66, 2) := by decide +kernel
theorem dX7_keepBefore_5 : decode cX7_keepBefore 5 = .ok (.if_icmp .ge 21, 3) := by decide +kernel
theorem dX7_keepBefore_8 : decode cX7_keepBefore 8 = .ok (.aload_n 0, 1) := by decide +kernel
theorem dX7_keepBefore_9 : decode cX7_keepBefore 9 = .ok (.getfield 54, 3) := by decide +kernel
theorem dX7_keepBefore_12 : decode cX7_keepBefore 12 = .ok (.iload_n 1, 1) := by decide +kernel
theorem dX7_keepBefore_13 : decode cX7_keepBefore 13 = .ok (.aload_n 0, 1) := by decide +kernel
theorem dX7_keepBefore_14 : decode cX7_keepBefore 14 = .ok (.getfield 22, 3) := by decide +kernel
theorem dX7_keepBefore_17 : decode cX7_keepBefore 17 = .ok (.iload_n 1, 1) := by decide +kernel
theorem dX7_keepBefore_18 : decode cX7_keepBefore 18 = .ok (.iaload, 1) := by decide +kernel
theorem dX7_keepBefore_19 : decode cX7_keepBefore 19 = .ok (.iastore, 1) := by decide +kernel
theorem dX7_keepBefore_20 : decode cX7_keepBefore 20 = .ok (.iinc 1 1, 3) := by decide +kernel
theorem dX7_keepBefore_23 : decode cX7_keepBefore 23 = .ok (.goto (-21), 3) := by decide +kernel
theorem dX7_keepBefore_26 : decode cX7_keepBefore 26 = .ok (.return_, 1) := by decide +kernel
theorem dX7_willHear_0 : decode cX7_willHear 0 = .ok (.aload_n 0, 1) := by decide +kernel
theorem dX7_willHear_1 : decode cX7_willHear 1 = .ok (.iload_n 1, 1) := by decide +kernel
theorem dX7_willHear_2 : decode cX7_willHear 2 = .ok (.invokevirtual 233, 3) := by decide +kernel
theorem dX7_willHear_5 : decode cX7_willHear 5 = .ok (.ifCond .ne 6, 3) := by decide +kernel
theorem dX7_willHear_8 : decode cX7_willHear 8 = .ok (.ldc 236, 2) := by decide +kernel
theorem dX7_willHear_10 : decode cX7_willHear 10 = .ok (.ireturn, 1) := by decide +kernel
theorem dX7_willHear_11 : decode cX7_willHear 11 = .ok (.iload_n 2, 1) := by decide +kernel
theorem dX7_willHear_12 : decode cX7_willHear 12 = .ok (.i2l, 1) := by decide +kernel
theorem dX7_willHear_13 : decode cX7_willHear 13 = .ok (.lconst 0, 1) := by decide +kernel
theorem dX7_willHear_14 : decode cX7_willHear 14 = .ok (.ldc2_w 282, 3) := by decide +kernel
theorem dX7_willHear_17 : decode cX7_willHear 17 = .ok (.invokestatic 84, 3) := by decide +kernel
theorem dX7_willHear_20 : decode cX7_willHear 20 = .ok (.ifCond .eq 13, 3) := by decide +kernel
theorem dX7_willHear_23 : decode cX7_willHear 23 = .ok (.iload_n 3, 1) := by decide +kernel
theorem dX7_willHear_24 : decode cX7_willHear 24 = .ok (.i2l, 1) := by decide +kernel
theorem dX7_willHear_25 : decode cX7_willHear 25 = .ok (.lconst 0, 1) := by decide +kernel
theorem dX7_willHear_26 : decode cX7_willHear 26 = .ok (.lconst 1, 1) := by decide +kernel
theorem dX7_willHear_27 : decode cX7_willHear 27 = .ok (.invokestatic 84, 3) := by decide +kernel
theorem dX7_willHear_30 : decode cX7_willHear 30 = .ok (.ifCond .ne 6, 3) := by decide +kernel
theorem dX7_willHear_33 : decode cX7_willHear 33 = .ok (.ldc 93, 2) := by decide +kernel
theorem dX7_willHear_35 : decode cX7_willHear 35 = .ok (.ireturn, 1) := by decide +kernel
theorem dX7_willHear_36 : decode cX7_willHear 36 = .ok (.aload_n 0, 1) := by decide +kernel
theorem dX7_willHear_37 : decode cX7_willHear 37 = .ok (.invokevirtual 284, 3) := by decide +kernel
theorem dX7_willHear_40 : decode cX7_willHear 40 = .ok (.aload_n 0, 1) := by decide +kernel
theorem dX7_willHear_41 : decode cX7_willHear 41 = .ok (.getfield 22, 3) := by decide +kernel
theorem dX7_willHear_44 : decode cX7_willHear 44 = .ok (.bipush 23, 2) := by decide +kernel
theorem dX7_willHear_46 : decode cX7_willHear 46 = .ok (.iload_n 1, 1) := by decide +kernel
theorem dX7_willHear_47 : decode cX7_willHear 47 = .ok (.iadd, 1) := by decide +kernel
theorem dX7_willHear_48 : decode cX7_willHear 48 = .ok (.iconst 0, 1) := by decide +kernel
theorem dX7_willHear_49 : decode cX7_willHear 49 = .ok (.iastore, 1) := by decide +kernel
theorem dX7_willHear_50 : decode cX7_willHear 50 = .ok (.iconst 0, 1) := by decide +kernel
theorem dX7_willHear_51 : decode cX7_willHear 51 = .ok (.istore 4, 2) := by decide +kernel
theorem dX7_willHear_53 : decode cX7_willHear 53 = .ok (.iload 4, 2) := by decide +kernel
theorem dX7_willHear_55 : decode cX7_willHear 55 = .ok (.iload_n 2, 1) := by decide +kernel
theorem dX7_willHear_56 : decode cX7_willHear 56 = .ok (.if_icmp .ge 13, 3) := by decide +kernel
theorem dX7_willHear_59 : decode cX7_willHear 59 = .ok (.aload_n 0, 1) := by decide +kernel
theorem dX7_willHear_60 : decode cX7_willHear 60 = .ok (.invokevirtual 248, 3) := by decide +kernel
theorem dX7_willHear_63 : decode cX7_willHear 63 = .ok (.iinc 4 1, 3) := by decide +kernel
theorem dX7_willHear_66 : decode cX7_willHear 66 = .ok (.goto (-13), 3) := by decide +kernel
theorem dX7_willHear_69 : decode cX7_willHear 69 = .ok (.iload_n 3, 1) := by decide +kernel
theorem dX7_willHear_70 : decode cX7_willHear 70 = .ok (.ifCond .ne 15, 3) := by decide +kernel
theorem dX7_willHear_73 : decode cX7_willHear 73 = .ok (.aload_n 0, 1) := by decide +kernel
theorem dX7_willHear_74 : decode cX7_willHear 74 = .ok (.getfield 22, 3) := by decide +kernel
theorem dX7_willHear_77 : decode cX7_willHear 77 = .ok (.bipush 23, 2) := by decide +kernel
theorem dX7_willHear_79 : decode cX7_willHear 79 = .ok (.iload_n 1, 1) := by decide +kernel
theorem dX7_willHear_80 : decode cX7_willHear 80 = .ok (.iadd, 1) := by decide +kernel
theorem dX7_willHear_81 : decode cX7_willHear 81 = .ok (.iaload, 1) := by decide +kernel
theorem dX7_willHear_82 : decode cX7_willHear 82 = .ok (.goto 12, 3) := by decide +kernel
theorem dX7_willHear_85 : decode cX7_willHear 85 = .ok (.aload_n 0, 1) := by decide +kernel
theorem dX7_willHear_86 : decode cX7_willHear 86 = .ok (.getfield 22, 3) := by decide +kernel
theorem dX7_willHear_89 : decode cX7_willHear 89 = .ok (.bipush 14, 2) := by decide +kernel
theorem dX7_willHear_91 : decode cX7_willHear 91 = .ok (.iload_n 1, 1) := by decide +kernel
theorem dX7_willHear_92 : decode cX7_willHear 92 = .ok (.iadd, 1) := by decide +kernel
theorem dX7_willHear_93 : decode cX7_willHear 93 = .ok (.iaload, 1) := by decide +kernel
theorem dX7_willHear_94 : decode cX7_willHear 94 = .ok (.istore 4, 2) := by decide +kernel
theorem dX7_willHear_96 : decode cX7_willHear 96 = .ok (.aload_n 0, 1) := by decide +kernel
theorem dX7_willHear_97 : decode cX7_willHear 97 = .ok (.invokevirtual 287, 3) := by decide +kernel
theorem dX7_willHear_100 : decode cX7_willHear 100 = .ok (.iload 4, 2) := by decide +kernel
theorem dX7_willHear_102 : decode cX7_willHear 102 = .ok (.ireturn, 1) := by decide +kernel
theorem dX7_where_0 : decode cX7_where 0 = .ok (.iload_n 1, 1) := by decide +kernel
theorem dX7_where_1 : decode cX7_where 1 = .ok (.i2l, 1) := by decide +kernel
theorem dX7_where_2 : decode cX7_where 2 = .ok (.lconst 0, 1) := by decide +kernel
theorem dX7_where_3 : decode cX7_where 3 = .ok (.aload_n 0, 1) := by decide +kernel
theorem dX7_where_4 : decode cX7_where 4 = .ok (.getfield 22, 3) := by decide +kernel
theorem dX7_where_7 : decode cX7_where 7 = .ok (.bipush 32, 2) := by decide +kernel
theorem dX7_where_9 : decode cX7_where 9 = .ok (.iaload, 1) := by decide +kernel
theorem dX7_where_10 : decode cX7_where 10 = .ok (.iconst 1, 1) := by decide +kernel
theorem dX7_where_11 : decode cX7_where 11 = .ok (.isub, 1) := by decide +kernel
theorem dX7_where_12 : decode cX7_where 12 = .ok (.i2l, 1) := by decide +kernel
theorem dX7_where_13 : decode cX7_where 13 = .ok (.invokestatic 84, 3) := by decide +kernel
theorem dX7_where_16 : decode cX7_where 16 = .ok (.ifCond .ne 6, 3) := by decide +kernel
theorem dX7_where_19 : decode cX7_where 19 = .ok (.ldc 236, 2) := by decide +kernel
theorem dX7_where_21 : decode cX7_where 21 = .ok (.ireturn, 1) := by decide +kernel
theorem dX7_where_22 : decode cX7_where 22 = .ok (.iload_n 2, 1) := by decide +kernel
theorem dX7_where_23 : decode cX7_where 23 = .ok (.i2l, 1) := by decide +kernel
theorem dX7_where_24 : decode cX7_where 24 = .ok (.lconst 0, 1) := by decide +kernel
theorem dX7_where_25 : decode cX7_where 25 = .ok (.ldc2_w 282, 3) := by decide +kernel
theorem dX7_where_28 : decode cX7_where 28 = .ok (.invokestatic 84, 3) := by decide +kernel
theorem dX7_where_31 : decode cX7_where 31 = .ok (.ifCond .eq 13, 3) := by decide +kernel
theorem dX7_where_34 : decode cX7_where 34 = .ok (.iload_n 3, 1) := by decide +kernel
theorem dX7_where_35 : decode cX7_where 35 = .ok (.i2l, 1) := by decide +kernel
theorem dX7_where_36 : decode cX7_where 36 = .ok (.lconst 0, 1) := by decide +kernel
theorem dX7_where_37 : decode cX7_where 37 = .ok (.lconst 1, 1) := by decide +kernel
theorem dX7_where_38 : decode cX7_where 38 = .ok (.invokestatic 84, 3) := by decide +kernel
theorem dX7_where_41 : decode cX7_where 41 = .ok (.ifCond .ne 6, 3) := by decide +kernel
theorem dX7_where_44 : decode cX7_where 44 = .ok (.ldc 93, 2) := by decide +kernel
theorem dX7_where_46 : decode cX7_where 46 = .ok (.ireturn, 1) := by decide +kernel
theorem dX7_where_47 : decode cX7_where 47 = .ok (.aload_n 0, 1) := by decide +kernel
theorem dX7_where_48 : decode cX7_where 48 = .ok (.invokevirtual 284, 3) := by decide +kernel
theorem dX7_where_51 : decode cX7_where 51 = .ok (.aload_n 0, 1) := by decide +kernel
theorem dX7_where_52 : decode cX7_where 52 = .ok (.getfield 22, 3) := by decide +kernel
theorem dX7_where_55 : decode cX7_where 55 = .ok (.bipush 33, 2) := by decide +kernel
theorem dX7_where_57 : decode cX7_where 57 = .ok (.aload_n 0, 1) := by decide +kernel
theorem dX7_where_58 : decode cX7_where 58 = .ok (.getfield 22, 3) := by decide +kernel
theorem dX7_where_61 : decode cX7_where 61 = .ok (.bipush 33, 2) := by decide +kernel
theorem dX7_where_63 : decode cX7_where 63 = .ok (.iload_n 1, 1) := by decide +kernel
theorem dX7_where_64 : decode cX7_where 64 = .ok (.iadd, 1) := by decide +kernel
theorem dX7_where_65 : decode cX7_where 65 = .ok (.iaload, 1) := by decide +kernel
theorem dX7_where_66 : decode cX7_where 66 = .ok (.iastore, 1) := by decide +kernel
theorem dX7_where_67 : decode cX7_where 67 = .ok (.aload_n 0, 1) := by decide +kernel
theorem dX7_where_68 : decode cX7_where 68 = .ok (.getfield 22, 3) := by decide +kernel
theorem dX7_where_71 : decode cX7_where 71 = .ok (.bipush 32, 2) := by decide +kernel
theorem dX7_where_73 : decode cX7_where 73 = .ok (.iconst 1, 1) := by decide +kernel
theorem dX7_where_74 : decode cX7_where 74 = .ok (.iastore, 1) := by decide +kernel
theorem dX7_where_75 : decode cX7_where 75 = .ok (.iconst 0, 1) := by decide +kernel
theorem dX7_where_76 : decode cX7_where 76 = .ok (.istore 4, 2) := by decide +kernel
theorem dX7_where_78 : decode cX7_where 78 = .ok (.iload 4, 2) := by decide +kernel
theorem dX7_where_80 : decode cX7_where 80 = .ok (.iload_n 2, 1) := by decide +kernel
theorem dX7_where_81 : decode cX7_where 81 = .ok (.if_icmp .ge 13, 3) := by decide +kernel
theorem dX7_where_84 : decode cX7_where 84 = .ok (.aload_n 0, 1) := by decide +kernel
theorem dX7_where_85 : decode cX7_where 85 = .ok (.invokevirtual 248, 3) := by decide +kernel
theorem dX7_where_88 : decode cX7_where 88 = .ok (.iinc 4 1, 3) := by decide +kernel
theorem dX7_where_91 : decode cX7_where 91 = .ok (.goto (-13), 3) := by decide +kernel
theorem dX7_where_94 : decode cX7_where 94 = .ok (.aload_n 0, 1) := by decide +kernel
theorem dX7_where_95 : decode cX7_where 95 = .ok (.getfield 22, 3) := by decide +kernel
theorem dX7_where_98 : decode cX7_where 98 = .ok (.bipush 32, 2) := by decide +kernel
theorem dX7_where_100 : decode cX7_where 100 = .ok (.iaload, 1) := by decide +kernel
theorem dX7_where_101 : decode cX7_where 101 = .ok (.ifCond .ne 7, 3) := by decide +kernel
theorem dX7_where_104 : decode cX7_where 104 = .ok (.iconst (-1), 1) := by decide +kernel
theorem dX7_where_105 : decode cX7_where 105 = .ok (.goto 20, 3) := by decide +kernel
theorem dX7_where_108 : decode cX7_where 108 = .ok (.iload_n 3, 1) := by decide +kernel
theorem dX7_where_109 : decode cX7_where 109 = .ok (.ifCond .ne 11, 3) := by decide +kernel
theorem dX7_where_112 : decode cX7_where 112 = .ok (.aload_n 0, 1) := by decide +kernel
theorem dX7_where_113 : decode cX7_where 113 = .ok (.iconst 0, 1) := by decide +kernel
theorem dX7_where_114 : decode cX7_where 114 = .ok (.invokevirtual 172, 3) := by decide +kernel
theorem dX7_where_117 : decode cX7_where 117 = .ok (.goto 8, 3) := by decide +kernel
theorem dX7_where_120 : decode cX7_where 120 = .ok (.aload_n 0, 1) := by decide +kernel
theorem dX7_where_121 : decode cX7_where 121 = .ok (.iconst 0, 1) := by decide +kernel
theorem dX7_where_122 : decode cX7_where 122 = .ok (.invokevirtual 175, 3) := by decide +kernel
theorem dX7_where_125 : decode cX7_where 125 = .ok (.istore 4, 2) := by decide +kernel
theorem dX7_where_127 : decode cX7_where 127 = .ok (.aload_n 0, 1) := by decide +kernel
theorem dX7_where_128 : decode cX7_where 128 = .ok (.invokevirtual 287, 3) := by decide +kernel
theorem dX7_where_131 : decode cX7_where 131 = .ok (.iload 4, 2) := by decide +kernel
theorem dX7_where_133 : decode cX7_where 133 = .ok (.ireturn, 1) := by decide +kernel
theorem dX7_dry_0 : decode cX7_dry 0 = .ok (.iload_n 1, 1) := by decide +kernel
theorem dX7_dry_1 : decode cX7_dry 1 = .ok (.i2l, 1) := by decide +kernel
theorem dX7_dry_2 : decode cX7_dry 2 = .ok (.lconst 0, 1) := by decide +kernel
theorem dX7_dry_3 : decode cX7_dry 3 = .ok (.ldc2_w 239, 3) := by decide +kernel
theorem dX7_dry_6 : decode cX7_dry 6 = .ok (.invokestatic 84, 3) := by decide +kernel
theorem dX7_dry_9 : decode cX7_dry 9 = .ok (.ifCond .eq 15, 3) := by decide +kernel
theorem dX7_dry_12 : decode cX7_dry 12 = .ok (.iload_n 2, 1) := by decide +kernel
theorem dX7_dry_13 : decode cX7_dry 13 = .ok (.i2l, 1) := by decide +kernel
theorem dX7_dry_14 : decode cX7_dry 14 = .ok (.lconst 0, 1) := by decide +kernel
theorem dX7_dry_15 : decode cX7_dry 15 = .ok (.ldc2_w 282, 3) := by decide +kernel
theorem dX7_dry_18 : decode cX7_dry 18 = .ok (.invokestatic 84, 3) := by decide +kernel
theorem dX7_dry_21 : decode cX7_dry 21 = .ok (.ifCond .ne 6, 3) := by decide +kernel
theorem dX7_dry_24 : decode cX7_dry 24 = .ok (.ldc 93, 2) := by decide +kernel
theorem dX7_dry_26 : decode cX7_dry 26 = .ok (.ireturn, 1) := by decide +kernel
theorem dX7_dry_27 : decode cX7_dry 27 = .ok (.ldc2_w 290, 3) := by decide +kernel
theorem dX7_dry_30 : decode cX7_dry 30 = .ok (.lstore_n 3, 1) := by decide +kernel
theorem dX7_dry_31 : decode cX7_dry 31 = .ok (.iconst 0, 1) := by decide +kernel
theorem dX7_dry_32 : decode cX7_dry 32 = .ok (.istore 5, 2) := by decide +kernel
theorem dX7_dry_34 : decode cX7_dry 34 = .ok (.iload 5, 2) := by decide +kernel
theorem dX7_dry_36 : decode cX7_dry 36 = .ok (.iload_n 1, 1) := by decide +kernel
theorem dX7_dry_37 : decode cX7_dry 37 = .ok (.if_icmp .ge 18, 3) := by decide +kernel
theorem dX7_dry_40 : decode cX7_dry 40 = .ok (.lload_n 3, 1) := by decide +kernel
theorem dX7_dry_41 : decode cX7_dry 41 = .ok (.iload_n 2, 1) := by decide +kernel
theorem dX7_dry_42 : decode cX7_dry 42 = .ok (.i2l, 1) := by decide +kernel
theorem dX7_dry_43 : decode cX7_dry 43 = .ok (.lmul, 1) := by decide +kernel
theorem dX7_dry_44 : decode cX7_dry 44 = .ok (.ldc2_w 282, 3) := by decide +kernel
theorem dX7_dry_47 : decode cX7_dry 47 = .ok (.ldiv, 1) := by decide +kernel
theorem dX7_dry_48 : decode cX7_dry 48 = .ok (.lstore_n 3, 1) := by decide +kernel
theorem dX7_dry_49 : decode cX7_dry 49 = .ok (.iinc 5 1, 3) := by decide +kernel
theorem dX7_dry_52 : decode cX7_dry 52 = .ok (.goto (-18), 3) := by decide +kernel
theorem dX7_dry_55 : decode cX7_dry 55 = .ok (.lload_n 3, 1) := by decide +kernel
theorem dX7_dry_56 : decode cX7_dry 56 = .ok (.l2i, 1) := by decide +kernel
theorem dX7_dry_57 : decode cX7_dry 57 = .ok (.ireturn, 1) := by decide +kernel
theorem dX7_see_0 : decode cX7_see 0 = .ok (.aload_n 0, 1) := by decide +kernel
theorem dX7_see_1 : decode cX7_see 1 = .ok (.iload_n 1, 1) := by decide +kernel
theorem dX7_see_2 : decode cX7_see 2 = .ok (.invokevirtual 251, 3) := by decide +kernel
theorem dX7_see_5 : decode cX7_see 5 = .ok (.ifCond .eq 11, 3) := by decide +kernel
theorem dX7_see_8 : decode cX7_see 8 = .ok (.aload_n 0, 1) := by decide +kernel
theorem dX7_see_9 : decode cX7_see 9 = .ok (.iload_n 2, 1) := by decide +kernel
theorem dX7_see_10 : decode cX7_see 10 = .ok (.invokevirtual 251, 3) := by decide +kernel
theorem dX7_see_13 : decode cX7_see 13 = .ok (.ifCond .ne 6, 3) := by decide +kernel
theorem dX7_see_16 : decode cX7_see 16 = .ok (.ldc 236, 2) := by decide +kernel
theorem dX7_see_18 : decode cX7_see 18 = .ok (.ireturn, 1) := by decide +kernel
theorem dX7_see_19 : decode cX7_see 19 = .ok (.aload_n 0, 1) := by decide +kernel
theorem dX7_see_20 : decode cX7_see 20 = .ok (.getfield 150, 3) := by decide +kernel
theorem dX7_see_23 : decode cX7_see 23 = .ok (.bipush 6, 2) := by decide +kernel
theorem dX7_see_25 : decode cX7_see 25 = .ok (.if_icmp .ne 6, 3) := by decide +kernel
theorem dX7_see_28 : decode cX7_see 28 = .ok (.ldc 97, 2) := by decide +kernel
theorem dX7_see_30 : decode cX7_see 30 = .ok (.ireturn, 1) := by decide +kernel
theorem dX7_see_31 : decode cX7_see 31 = .ok (.aload_n 0, 1) := by decide +kernel
theorem dX7_see_32 : decode cX7_see 32 = .ok (.getfield 57, 3) := by decide +kernel
theorem dX7_see_35 : decode cX7_see 35 = .ok (.aload_n 0, 1) := by decide +kernel
theorem dX7_see_36 : decode cX7_see 36 = .ok (.getfield 150, 3) := by decide +kernel
theorem dX7_see_39 : decode cX7_see 39 = .ok (.iload_n 1, 1) := by decide +kernel
theorem dX7_see_40 : decode cX7_see 40 = .ok (.iastore, 1) := by decide +kernel
theorem dX7_see_41 : decode cX7_see 41 = .ok (.aload_n 0, 1) := by decide +kernel
theorem dX7_see_42 : decode cX7_see 42 = .ok (.getfield 60, 3) := by decide +kernel
theorem dX7_see_45 : decode cX7_see 45 = .ok (.aload_n 0, 1) := by decide +kernel
theorem dX7_see_46 : decode cX7_see 46 = .ok (.getfield 150, 3) := by decide +kernel
theorem dX7_see_49 : decode cX7_see 49 = .ok (.iload_n 2, 1) := by decide +kernel
theorem dX7_see_50 : decode cX7_see 50 = .ok (.iastore, 1) := by decide +kernel
theorem dX7_see_51 : decode cX7_see 51 = .ok (.aload_n 0, 1) := by decide +kernel
theorem dX7_see_52 : decode cX7_see 52 = .ok (.dup, 1) := by decide +kernel
theorem dX7_see_53 : decode cX7_see 53 = .ok (.getfield 150, 3) := by decide +kernel
theorem dX7_see_56 : decode cX7_see 56 = .ok (.iconst 1, 1) := by decide +kernel
theorem dX7_see_57 : decode cX7_see 57 = .ok (.iadd, 1) := by decide +kernel
theorem dX7_see_58 : decode cX7_see 58 = .ok (.putfield 150, 3) := by decide +kernel
theorem dX7_see_61 : decode cX7_see 61 = .ok (.aload_n 0, 1) := by decide +kernel
theorem dX7_see_62 : decode cX7_see 62 = .ok (.getfield 150, 3) := by decide +kernel
theorem dX7_see_65 : decode cX7_see 65 = .ok (.ireturn, 1) := by decide +kernel
theorem dX7_couldFall_0 : decode cX7_couldFall 0 = .ok (.iload_n 1, 1) := by decide +kernel
theorem dX7_couldFall_1 : decode cX7_couldFall 1 = .ok (.bipush 10, 2) := by decide +kernel
theorem dX7_couldFall_3 : decode cX7_couldFall 3 = .ok (.idiv, 1) := by decide +kernel
theorem dX7_couldFall_4 : decode cX7_couldFall 4 = .ok (.istore_n 2, 1) := by decide +kernel
theorem dX7_couldFall_5 : decode cX7_couldFall 5 = .ok (.iload_n 1, 1) := by decide +kernel
theorem dX7_couldFall_6 : decode cX7_couldFall 6 = .ok (.bipush 10, 2) := by decide +kernel
theorem dX7_couldFall_8 : decode cX7_couldFall 8 = .ok (.irem, 1) := by decide +kernel
theorem dX7_couldFall_9 : decode cX7_couldFall 9 = .ok (.istore_n 3, 1) := by decide +kernel
theorem dX7_couldFall_10 : decode cX7_couldFall 10 = .ok (.aload_n 0, 1) := by decide +kernel
theorem dX7_couldFall_11 : decode cX7_couldFall 11 = .ok (.iload_n 3, 1) := by decide +kernel
theorem dX7_couldFall_12 : decode cX7_couldFall 12 = .ok (.invokevirtual 251, 3) := by decide +kernel
theorem dX7_couldFall_15 : decode cX7_couldFall 15 = .ok (.ifCond .eq 45, 3) := by decide +kernel
theorem dX7_couldFall_18 : decode cX7_couldFall 18 = .ok (.iload_n 2, 1) := by decide +kernel
theorem dX7_couldFall_19 : decode cX7_couldFall 19 = .ok (.ifCond .eq 8, 3) := by decide +kernel
theorem dX7_couldFall_22 : decode cX7_couldFall 22 = .ok (.iload_n 2, 1) := by decide +kernel
theorem dX7_couldFall_23 : decode cX7_couldFall 23 = .ok (.iconst 3, 1) := by decide +kernel
theorem dX7_couldFall_24 : decode cX7_couldFall 24 = .ok (.if_icmp .ne 10, 3) := by decide +kernel
theorem dX7_couldFall_27 : decode cX7_couldFall 27 = .ok (.iload_n 3, 1) := by decide +kernel
theorem dX7_couldFall_28 : decode cX7_couldFall 28 = .ok (.ifCond .ne 32, 3) := by decide +kernel
theorem dX7_couldFall_31 : decode cX7_couldFall 31 = .ok (.goto 25, 3) := by decide +kernel
theorem dX7_couldFall_34 : decode cX7_couldFall 34 = .ok (.iload_n 2, 1) := by decide +kernel
theorem dX7_couldFall_35 : decode cX7_couldFall 35 = .ok (.iconst 2, 1) := by decide +kernel
theorem dX7_couldFall_36 : decode cX7_couldFall 36 = .ok (.if_icmp .ne 16, 3) := by decide +kernel
theorem dX7_couldFall_39 : decode cX7_couldFall 39 = .ok (.iload_n 3, 1) := by decide +kernel
theorem dX7_couldFall_40 : decode cX7_couldFall 40 = .ok (.aload_n 0, 1) := by decide +kernel
theorem dX7_couldFall_41 : decode cX7_couldFall 41 = .ok (.getfield 88, 3) := by decide +kernel
theorem dX7_couldFall_44 : decode cX7_couldFall 44 = .ok (.iconst 2, 1) := by decide +kernel
theorem dX7_couldFall_45 : decode cX7_couldFall 45 = .ok (.isub, 1) := by decide +kernel
theorem dX7_couldFall_46 : decode cX7_couldFall 46 = .ok (.if_icmp .gt 14, 3) := by decide +kernel
theorem dX7_couldFall_49 : decode cX7_couldFall 49 = .ok (.goto 7, 3) := by decide +kernel
theorem dX7_couldFall_52 : decode cX7_couldFall 52 = .ok (.iload_n 3, 1) := by decide +kernel
theorem dX7_couldFall_53 : decode cX7_couldFall 53 = .ok (.ifCond .le 7, 3) := by decide +kernel
theorem dX7_couldFall_56 : decode cX7_couldFall 56 = .ok (.iconst 1, 1) := by decide +kernel
theorem dX7_couldFall_57 : decode cX7_couldFall 57 = .ok (.goto 4, 3) := by decide +kernel
theorem dX7_couldFall_60 : decode cX7_couldFall 60 = .ok (.iconst 0, 1) := by decide +kernel
theorem dX7_couldFall_61 : decode cX7_couldFall 61 = .ok (.istore 4, 2) := by decide +kernel
theorem dX7_couldFall_63 : decode cX7_couldFall 63 = .ok (.iconst 0, 1) := by decide +kernel
theorem dX7_couldFall_64 : decode cX7_couldFall 64 = .ok (.istore 5, 2) := by decide +kernel
theorem dX7_couldFall_66 : decode cX7_couldFall 66 = .ok (.iload 5, 2) := by decide +kernel
theorem dX7_couldFall_68 : decode cX7_couldFall 68 = .ok (.aload_n 0, 1) := by decide +kernel
theorem dX7_couldFall_69 : decode cX7_couldFall 69 = .ok (.getfield 150, 3) := by decide +kernel
theorem dX7_couldFall_72 : decode cX7_couldFall 72 = .ok (.if_icmp .ge 44, 3) := by decide +kernel
theorem dX7_couldFall_75 : decode cX7_couldFall 75 = .ok (.iload 4, 2) := by decide +kernel
theorem dX7_couldFall_77 : decode cX7_couldFall 77 = .ok (.ifCond .eq 39, 3) := by decide +kernel
theorem dX7_couldFall_80 : decode cX7_couldFall 80 = .ok (.aload_n 0, 1) := by decide +kernel
theorem dX7_couldFall_81 : decode cX7_couldFall 81 = .ok (.iload_n 2, 1) := by decide +kernel
theorem dX7_couldFall_82 : decode cX7_couldFall 82 = .ok (.iload_n 3, 1) := by decide +kernel
theorem dX7_couldFall_83 : decode cX7_couldFall 83 = .ok (.aload_n 0, 1) := by decide +kernel
theorem dX7_couldFall_84 : decode cX7_couldFall 84 = .ok (.getfield 57, 3) := by decide +kernel
theorem dX7_couldFall_87 : decode cX7_couldFall 87 = .ok (.iload 5, 2) := by decide +kernel
theorem dX7_couldFall_89 : decode cX7_couldFall 89 = .ok (.iaload, 1) := by decide +kernel
theorem dX7_couldFall_90 : decode cX7_couldFall 90 = .ok (.invokevirtual 159, 3) := by decide +kernel
theorem dX7_couldFall_93 : decode cX7_couldFall 93 = .ok (.aload_n 0, 1) := by decide +kernel
theorem dX7_couldFall_94 : decode cX7_couldFall 94 = .ok (.getfield 60, 3) := by decide +kernel
theorem dX7_couldFall_97 : decode cX7_couldFall 97 = .ok (.iload 5, 2) := by decide +kernel
theorem dX7_couldFall_99 : decode cX7_couldFall 99 = .ok (.iaload, 1) := by decide +kernel
theorem dX7_couldFall_100 : decode cX7_couldFall 100 = .ok (.if_icmp .ne 7, 3) := by decide +kernel
theorem dX7_couldFall_103 : decode cX7_couldFall 103 = .ok (.iconst 1, 1) := by decide +kernel
theorem dX7_couldFall_104 : decode cX7_couldFall 104 = .ok (.goto 4, 3) := by decide +kernel
theorem dX7_couldFall_107 : decode cX7_couldFall 107 = .ok (.iconst 0, 1) := by decide +kernel
theorem dX7_couldFall_108 : decode cX7_couldFall 108 = .ok (.istore 4, 2) := by decide +kernel
theorem dX7_couldFall_110 : decode cX7_couldFall 110 = .ok (.iinc 5 1, 3) := by decide +kernel
theorem dX7_couldFall_113 : decode cX7_couldFall 113 = .ok (.goto (-47), 3) := by decide +kernel
theorem dX7_couldFall_116 : decode cX7_couldFall 116 = .ok (.iload 4, 2) := by decide +kernel
theorem dX7_couldFall_118 : decode cX7_couldFall 118 = .ok (.ireturn, 1) := by decide +kernel
theorem dX7_falls_0 : decode cX7_falls 0 = .ok (.iload_n 1, 1) := by decide +kernel
theorem dX7_falls_1 : decode cX7_falls 1 = .ok (.i2l, 1) := by decide +kernel
theorem dX7_falls_2 : decode cX7_falls 2 = .ok (.lconst 0, 1) := by decide +kernel
theorem dX7_falls_3 : decode cX7_falls 3 = .ok (.lconst 1, 1) := by decide +kernel
theorem dX7_falls_4 : decode cX7_falls 4 = .ok (.invokestatic 84, 3) := by decide +kernel
theorem dX7_falls_7 : decode cX7_falls 7 = .ok (.ifCond .ne 6, 3) := by decide +kernel
theorem dX7_falls_10 : decode cX7_falls 10 = .ok (.ldc 93, 2) := by decide +kernel
theorem dX7_falls_12 : decode cX7_falls 12 = .ok (.ireturn, 1) := by decide +kernel
theorem dX7_falls_13 : decode cX7_falls 13 = .ok (.iconst 0, 1) := by decide +kernel
theorem dX7_falls_14 : decode cX7_falls 14 = .ok (.istore_n 2, 1) := by decide +kernel
theorem dX7_falls_15 : decode cX7_falls 15 = .ok (.iconst (-1), 1) := by decide +kernel
theorem dX7_falls_16 : decode cX7_falls 16 = .ok (.istore_n 3, 1) := by decide +kernel
theorem dX7_falls_17 : decode cX7_falls 17 = .ok (.iconst 0, 1) := by decide +kernel
theorem dX7_falls_18 : decode cX7_falls 18 = .ok (.istore 4, 2) := by decide +kernel
theorem dX7_falls_20 : decode cX7_falls 20 = .ok (.iload 4, 2) := by decide +kernel
theorem dX7_falls_22 : decode cX7_falls 22 = .ok (.bipush 50, 2) := by decide +kernel
theorem dX7_falls_24 : decode cX7_falls 24 = .ok (.if_icmp .ge 32, 3) := by decide +kernel
theorem dX7_falls_27 : decode cX7_falls 27 = .ok (.aload_n 0, 1) := by decide +kernel
theorem dX7_falls_28 : decode cX7_falls 28 = .ok (.iload 4, 2) := by decide +kernel
theorem dX7_falls_30 : decode cX7_falls 30 = .ok (.invokevirtual 292, 3) := by decide +kernel
theorem dX7_falls_33 : decode cX7_falls 33 = .ok (.ifCond .eq 17, 3) := by decide +kernel
theorem dX7_falls_36 : decode cX7_falls 36 = .ok (.iload_n 2, 1) := by decide +kernel
theorem dX7_falls_37 : decode cX7_falls 37 = .ok (.ifCond .ne 8, 3) := by decide +kernel
theorem dX7_falls_40 : decode cX7_falls 40 = .ok (.iload 4, 2) := by decide +kernel
theorem dX7_falls_42 : decode cX7_falls 42 = .ok (.goto 4, 3) := by decide +kernel
theorem dX7_falls_45 : decode cX7_falls 45 = .ok (.iload_n 3, 1) := by decide +kernel
theorem dX7_falls_46 : decode cX7_falls 46 = .ok (.istore_n 3, 1) := by decide +kernel
theorem dX7_falls_47 : decode cX7_falls 47 = .ok (.iinc 2 1, 3) := by decide +kernel
theorem dX7_falls_50 : decode cX7_falls 50 = .ok (.iinc 4 1, 3) := by decide +kernel
theorem dX7_falls_53 : decode cX7_falls 53 = .ok (.goto (-33), 3) := by decide +kernel
theorem dX7_falls_56 : decode cX7_falls 56 = .ok (.iload_n 1, 1) := by decide +kernel
theorem dX7_falls_57 : decode cX7_falls 57 = .ok (.ifCond .ne 7, 3) := by decide +kernel
theorem dX7_falls_60 : decode cX7_falls 60 = .ok (.iload_n 2, 1) := by decide +kernel
theorem dX7_falls_61 : decode cX7_falls 61 = .ok (.goto 4, 3) := by decide +kernel
theorem dX7_falls_64 : decode cX7_falls 64 = .ok (.iload_n 3, 1) := by decide +kernel
theorem dX7_falls_65 : decode cX7_falls 65 = .ok (.ireturn, 1) := by decide +kernel
theorem dX7_greatestPart_0 : decode cX7_greatestPart 0 = .ok (.iconst 0, 1) := by decide +kernel
theorem dX7_greatestPart_1 : decode cX7_greatestPart 1 = .ok (.istore_n 2, 1) := by decide +kernel
theorem dX7_greatestPart_2 : decode cX7_greatestPart 2 = .ok (.iconst 0, 1) := by decide +kernel
theorem dX7_greatestPart_3 : decode cX7_greatestPart 3 = .ok (.istore_n 3, 1) := by decide +kernel
theorem dX7_greatestPart_4 : decode cX7_greatestPart 4 = .ok (.iload_n 3, 1) := by decide +kernel
theorem dX7_greatestPart_5 : decode cX7_greatestPart 5 = .ok (.bipush 10, 2) := by decide +kernel
theorem dX7_greatestPart_7 : decode cX7_greatestPart 7 = .ok (.if_icmp .ge 16, 3) := by decide +kernel
theorem dX7_greatestPart_10 : decode cX7_greatestPart 10 = .ok (.aload_n 0, 1) := by decide +kernel
theorem dX7_greatestPart_11 : decode cX7_greatestPart 11 = .ok (.getfield 63, 3) := by decide +kernel
theorem dX7_greatestPart_14 : decode cX7_greatestPart 14 = .ok (.iload_n 3, 1) := by decide +kernel
theorem dX7_greatestPart_15 : decode cX7_greatestPart 15 = .ok (.iconst 0, 1) := by decide +kernel
theorem dX7_greatestPart_16 : decode cX7_greatestPart 16 = .ok (.iastore, 1) := by decide +kernel
theorem dX7_greatestPart_17 : decode cX7_greatestPart 17 = .ok (.iinc 3 1, 3) := by decide +kernel
theorem dX7_greatestPart_20 : decode cX7_greatestPart 20 = .ok (.goto (-16), 3) := by decide +kernel
theorem dX7_greatestPart_23 : decode cX7_greatestPart 23 = .ok (.iconst 0, 1) := by decide +kernel
theorem dX7_greatestPart_24 : decode cX7_greatestPart 24 = .ok (.istore_n 3, 1) := by decide +kernel
theorem dX7_greatestPart_25 : decode cX7_greatestPart 25 = .ok (.iload_n 3, 1) := by decide +kernel
theorem dX7_greatestPart_26 : decode cX7_greatestPart 26 = .ok (.bipush 50, 2) := by decide +kernel
theorem dX7_greatestPart_28 : decode cX7_greatestPart 28 = .ok (.if_icmp .ge 66, 3) := by decide +kernel
theorem dX7_greatestPart_31 : decode cX7_greatestPart 31 = .ok (.aload_n 0, 1) := by decide +kernel
theorem dX7_greatestPart_32 : decode cX7_greatestPart 32 = .ok (.iload_n 3, 1) := by decide +kernel
theorem dX7_greatestPart_33 : decode cX7_greatestPart 33 = .ok (.invokevirtual 292, 3) := by decide +kernel
theorem dX7_greatestPart_36 : decode cX7_greatestPart 36 = .ok (.ifCond .eq 52, 3) := by decide +kernel
theorem dX7_greatestPart_39 : decode cX7_greatestPart 39 = .ok (.aload_n 0, 1) := by decide +kernel
theorem dX7_greatestPart_40 : decode cX7_greatestPart 40 = .ok (.iload_n 3, 1) := by decide +kernel
theorem dX7_greatestPart_41 : decode cX7_greatestPart 41 = .ok (.bipush 10, 2) := by decide +kernel
theorem dX7_greatestPart_43 : decode cX7_greatestPart 43 = .ok (.idiv, 1) := by decide +kernel
theorem dX7_greatestPart_44 : decode cX7_greatestPart 44 = .ok (.iload_n 3, 1) := by decide +kernel
theorem dX7_greatestPart_45 : decode cX7_greatestPart 45 = .ok (.bipush 10, 2) := by decide +kernel
theorem dX7_greatestPart_47 : decode cX7_greatestPart 47 = .ok (.irem, 1) := by decide +kernel
theorem dX7_greatestPart_48 : decode cX7_greatestPart 48 = .ok (.iload_n 1, 1) := by decide +kernel
theorem dX7_greatestPart_49 : decode cX7_greatestPart 49 = .ok (.invokevirtual 159, 3) := by decide +kernel
theorem dX7_greatestPart_52 : decode cX7_greatestPart 52 = .ok (.istore 4, 2) := by decide +kernel
theorem dX7_greatestPart_54 : decode cX7_greatestPart 54 = .ok (.aload_n 0, 1) := by decide +kernel
theorem dX7_greatestPart_55 : decode cX7_greatestPart 55 = .ok (.getfield 63, 3) := by decide +kernel
theorem dX7_greatestPart_58 : decode cX7_greatestPart 58 = .ok (.iload 4, 2) := by decide +kernel
theorem dX7_greatestPart_60 : decode cX7_greatestPart 60 = .ok (.dup2, 1) := by decide +kernel
theorem dX7_greatestPart_61 : decode cX7_greatestPart 61 = .ok (.iaload, 1) := by decide +kernel
theorem dX7_greatestPart_62 : decode cX7_greatestPart 62 = .ok (.iconst 1, 1) := by decide +kernel
theorem dX7_greatestPart_63 : decode cX7_greatestPart 63 = .ok (.iadd, 1) := by decide +kernel
theorem dX7_greatestPart_64 : decode cX7_greatestPart 64 = .ok (.iastore, 1) := by decide +kernel
theorem dX7_greatestPart_65 : decode cX7_greatestPart 65 = .ok (.aload_n 0, 1) := by decide +kernel
theorem dX7_greatestPart_66 : decode cX7_greatestPart 66 = .ok (.getfield 63, 3) := by decide +kernel
theorem dX7_greatestPart_69 : decode cX7_greatestPart 69 = .ok (.iload 4, 2) := by decide +kernel
theorem dX7_greatestPart_71 : decode cX7_greatestPart 71 = .ok (.iaload, 1) := by decide +kernel
theorem dX7_greatestPart_72 : decode cX7_greatestPart 72 = .ok (.iload_n 2, 1) := by decide +kernel
theorem dX7_greatestPart_73 : decode cX7_greatestPart 73 = .ok (.if_icmp .le 13, 3) := by decide +kernel
theorem dX7_greatestPart_76 : decode cX7_greatestPart 76 = .ok (.aload_n 0, 1) := by decide +kernel
theorem dX7_greatestPart_77 : decode cX7_greatestPart 77 = .ok (.getfield 63, 3) := by decide +kernel
theorem dX7_greatestPart_80 : decode cX7_greatestPart 80 = .ok (.iload 4, 2) := by decide +kernel
theorem dX7_greatestPart_82 : decode cX7_greatestPart 82 = .ok (.iaload, 1) := by decide +kernel
theorem dX7_greatestPart_83 : decode cX7_greatestPart 83 = .ok (.goto 4, 3) := by decide +kernel
theorem dX7_greatestPart_86 : decode cX7_greatestPart 86 = .ok (.iload_n 2, 1) := by decide +kernel
theorem dX7_greatestPart_87 : decode cX7_greatestPart 87 = .ok (.istore_n 2, 1) := by decide +kernel
theorem dX7_greatestPart_88 : decode cX7_greatestPart 88 = .ok (.iinc 3 1, 3) := by decide +kernel
theorem dX7_greatestPart_91 : decode cX7_greatestPart 91 = .ok (.goto (-66), 3) := by decide +kernel
theorem dX7_greatestPart_94 : decode cX7_greatestPart 94 = .ok (.iload_n 2, 1) := by decide +kernel
theorem dX7_greatestPart_95 : decode cX7_greatestPart 95 = .ok (.ireturn, 1) := by decide +kernel
theorem dX7_tryNext_0 : decode cX7_tryNext 0 = .ok (.iconst (-1), 1) := by decide +kernel
theorem dX7_tryNext_1 : decode cX7_tryNext 1 = .ok (.istore_n 1, 1) := by decide +kernel
theorem dX7_tryNext_2 : decode cX7_tryNext 2 = .ok (.aload_n 0, 1) := by decide +kernel
theorem dX7_tryNext_3 : decode cX7_tryNext 3 = .ok (.iconst 0, 1) := by decide +kernel
theorem dX7_tryNext_4 : decode cX7_tryNext 4 = .ok (.invokevirtual 295, 3) := by decide +kernel
theorem dX7_tryNext_7 : decode cX7_tryNext 7 = .ok (.istore_n 2, 1) := by decide +kernel
theorem dX7_tryNext_8 : decode cX7_tryNext 8 = .ok (.iconst 0, 1) := by decide +kernel
theorem dX7_tryNext_9 : decode cX7_tryNext 9 = .ok (.istore_n 3, 1) := by decide +kernel
theorem dX7_tryNext_10 : decode cX7_tryNext 10 = .ok (.iload_n 3, 1) := by decide +kernel
theorem dX7_tryNext_11 : decode cX7_tryNext 11 = .ok (.aload_n 0, 1) := by decide +kernel
theorem dX7_tryNext_12 : decode cX7_tryNext 12 = .ok (.getfield 88, 3) := by decide +kernel
theorem dX7_tryNext_15 : decode cX7_tryNext 15 = .ok (.if_icmp .ge 41, 3) := by decide +kernel
theorem dX7_tryNext_18 : decode cX7_tryNext 18 = .ok (.aload_n 0, 1) := by decide +kernel
theorem dX7_tryNext_19 : decode cX7_tryNext 19 = .ok (.iload_n 3, 1) := by decide +kernel
theorem dX7_tryNext_20 : decode cX7_tryNext 20 = .ok (.invokevirtual 298, 3) := by decide +kernel
theorem dX7_tryNext_23 : decode cX7_tryNext 23 = .ok (.istore 4, 2) := by decide +kernel
theorem dX7_tryNext_25 : decode cX7_tryNext 25 = .ok (.iload 4, 2) := by decide +kernel
theorem dX7_tryNext_27 : decode cX7_tryNext 27 = .ok (.iload_n 2, 1) := by decide +kernel
theorem dX7_tryNext_28 : decode cX7_tryNext 28 = .ok (.if_icmp .ge 7, 3) := by decide +kernel
theorem dX7_tryNext_31 : decode cX7_tryNext 31 = .ok (.iload_n 3, 1) := by decide +kernel
theorem dX7_tryNext_32 : decode cX7_tryNext 32 = .ok (.goto 4, 3) := by decide +kernel
theorem dX7_tryNext_35 : decode cX7_tryNext 35 = .ok (.iload_n 1, 1) := by decide +kernel
theorem dX7_tryNext_36 : decode cX7_tryNext 36 = .ok (.istore_n 1, 1) := by decide +kernel
theorem dX7_tryNext_37 : decode cX7_tryNext 37 = .ok (.iload 4, 2) := by decide +kernel
theorem dX7_tryNext_39 : decode cX7_tryNext 39 = .ok (.iload_n 2, 1) := by decide +kernel
theorem dX7_tryNext_40 : decode cX7_tryNext 40 = .ok (.if_icmp .ge 8, 3) := by decide +kernel
theorem dX7_tryNext_43 : decode cX7_tryNext 43 = .ok (.iload 4, 2) := by decide +kernel
theorem dX7_tryNext_45 : decode cX7_tryNext 45 = .ok (.goto 4, 3) := by decide +kernel
theorem dX7_tryNext_48 : decode cX7_tryNext 48 = .ok (.iload_n 2, 1) := by decide +kernel
theorem dX7_tryNext_49 : decode cX7_tryNext 49 = .ok (.istore_n 2, 1) := by decide +kernel
theorem dX7_tryNext_50 : decode cX7_tryNext 50 = .ok (.iinc 3 1, 3) := by decide +kernel
theorem dX7_tryNext_53 : decode cX7_tryNext 53 = .ok (.goto (-43), 3) := by decide +kernel
theorem dX7_tryNext_56 : decode cX7_tryNext 56 = .ok (.iload_n 1, 1) := by decide +kernel
theorem dX7_tryNext_57 : decode cX7_tryNext 57 = .ok (.ireturn, 1) := by decide +kernel
theorem dX7_write_0 : decode cX7_write 0 = .ok (.aload_n 0, 1) := by decide +kernel
theorem dX7_write_1 : decode cX7_write 1 = .ok (.iload_n 1, 1) := by decide +kernel
theorem dX7_write_2 : decode cX7_write 2 = .ok (.invokevirtual 233, 3) := by decide +kernel
theorem dX7_write_5 : decode cX7_write 5 = .ok (.ifCond .eq 16, 3) := by decide +kernel
theorem dX7_write_8 : decode cX7_write 8 = .ok (.iload_n 2, 1) := by decide +kernel
theorem dX7_write_9 : decode cX7_write 9 = .ok (.iconst (-1), 1) := by decide +kernel
theorem dX7_write_10 : decode cX7_write 10 = .ok (.if_icmp .eq 14, 3) := by decide +kernel
theorem dX7_write_13 : decode cX7_write 13 = .ok (.aload_n 0, 1) := by decide +kernel
theorem dX7_write_14 : decode cX7_write 14 = .ok (.iload_n 2, 1) := by decide +kernel
theorem dX7_write_15 : decode cX7_write 15 = .ok (.invokevirtual 251, 3) := by decide +kernel
theorem dX7_write_18 : decode cX7_write 18 = .ok (.ifCond .ne 6, 3) := by decide +kernel
theorem dX7_write_21 : decode cX7_write 21 = .ok (.ldc 236, 2) := by decide +kernel
theorem dX7_write_23 : decode cX7_write 23 = .ok (.ireturn, 1) := by decide +kernel
theorem dX7_write_24 : decode cX7_write 24 = .ok (.aload_n 0, 1) := by decide +kernel
theorem dX7_write_25 : decode cX7_write 25 = .ok (.getfield 153, 3) := by decide +kernel
theorem dX7_write_28 : decode cX7_write 28 = .ok (.bipush 15, 2) := by decide +kernel
theorem dX7_write_30 : decode cX7_write 30 = .ok (.if_icmp .ne 6, 3) := by decide +kernel
theorem dX7_write_33 : decode cX7_write 33 = .ok (.ldc 97, 2) := by decide +kernel
theorem dX7_write_35 : decode cX7_write 35 = .ok (.ireturn, 1) := by decide +kernel
theorem dX7_write_36 : decode cX7_write 36 = .ok (.aload_n 0, 1) := by decide +kernel
theorem dX7_write_37 : decode cX7_write 37 = .ok (.getfield 66, 3) := by decide +kernel
theorem dX7_write_40 : decode cX7_write 40 = .ok (.aload_n 0, 1) := by decide +kernel
theorem dX7_write_41 : decode cX7_write 41 = .ok (.getfield 153, 3) := by decide +kernel
theorem dX7_write_44 : decode cX7_write 44 = .ok (.iload_n 1, 1) := by decide +kernel
theorem dX7_write_45 : decode cX7_write 45 = .ok (.iastore, 1) := by decide +kernel
theorem dX7_write_46 : decode cX7_write 46 = .ok (.aload_n 0, 1) := by decide +kernel
theorem dX7_write_47 : decode cX7_write 47 = .ok (.getfield 69, 3) := by decide +kernel
theorem dX7_write_50 : decode cX7_write 50 = .ok (.aload_n 0, 1) := by decide +kernel
theorem dX7_write_51 : decode cX7_write 51 = .ok (.getfield 153, 3) := by decide +kernel
theorem dX7_write_54 : decode cX7_write 54 = .ok (.iload_n 2, 1) := by decide +kernel
theorem dX7_write_55 : decode cX7_write 55 = .ok (.iastore, 1) := by decide +kernel
theorem dX7_write_56 : decode cX7_write 56 = .ok (.aload_n 0, 1) := by decide +kernel
theorem dX7_write_57 : decode cX7_write 57 = .ok (.dup, 1) := by decide +kernel
theorem dX7_write_58 : decode cX7_write 58 = .ok (.getfield 153, 3) := by decide +kernel
theorem dX7_write_61 : decode cX7_write 61 = .ok (.iconst 1, 1) := by decide +kernel
theorem dX7_write_62 : decode cX7_write 62 = .ok (.iadd, 1) := by decide +kernel
theorem dX7_write_63 : decode cX7_write 63 = .ok (.putfield 153, 3) := by decide +kernel
theorem dX7_write_66 : decode cX7_write 66 = .ok (.aload_n 0, 1) := by decide +kernel
theorem dX7_write_67 : decode cX7_write 67 = .ok (.getfield 153, 3) := by decide +kernel
theorem dX7_write_70 : decode cX7_write 70 = .ok (.ireturn, 1) := by decide +kernel
theorem dX7_tear_0 : decode cX7_tear 0 = .ok (.aload_n 0, 1) := by decide +kernel
theorem dX7_tear_1 : decode cX7_tear 1 = .ok (.getfield 150, 3) := by decide +kernel
theorem dX7_tear_4 : decode cX7_tear 4 = .ok (.aload_n 0, 1) := by decide +kernel
theorem dX7_tear_5 : decode cX7_tear 5 = .ok (.getfield 153, 3) := by decide +kernel
theorem dX7_tear_8 : decode cX7_tear 8 = .ok (.iadd, 1) := by decide +kernel
theorem dX7_tear_9 : decode cX7_tear 9 = .ok (.istore_n 1, 1) := by decide +kernel
theorem dX7_tear_10 : decode cX7_tear 10 = .ok (.aload_n 0, 1) := by decide +kernel
theorem dX7_tear_11 : decode cX7_tear 11 = .ok (.iconst 0, 1) := by decide +kernel
theorem dX7_tear_12 : decode cX7_tear 12 = .ok (.putfield 150, 3) := by decide +kernel
theorem dX7_tear_15 : decode cX7_tear 15 = .ok (.aload_n 0, 1) := by decide +kernel
theorem dX7_tear_16 : decode cX7_tear 16 = .ok (.iconst 0, 1) := by decide +kernel
theorem dX7_tear_17 : decode cX7_tear 17 = .ok (.putfield 153, 3) := by decide +kernel
theorem dX7_tear_20 : decode cX7_tear 20 = .ok (.iload_n 1, 1) := by decide +kernel
theorem dX7_tear_21 : decode cX7_tear 21 = .ok (.ireturn, 1) := by decide +kernel
theorem dX7_judge_0 : decode cX7_judge 0 = .ok (.iconst 0, 1) := by decide +kernel
theorem dX7_judge_1 : decode cX7_judge 1 = .ok (.istore_n 1, 1) := by decide +kernel
theorem dX7_judge_2 : decode cX7_judge 2 = .ok (.iload_n 1, 1) := by decide +kernel
theorem dX7_judge_3 : decode cX7_judge 3 = .ok (.aload_n 0, 1) := by decide +kernel
theorem dX7_judge_4 : decode cX7_judge 4 = .ok (.getfield 153, 3) := by decide +kernel
theorem dX7_judge_7 : decode cX7_judge 7 = .ok (.if_icmp .ge 34, 3) := by decide +kernel
theorem dX7_judge_10 : decode cX7_judge 10 = .ok (.aload_n 0, 1) := by decide +kernel
theorem dX7_judge_11 : decode cX7_judge 11 = .ok (.getfield 22, 3) := by decide +kernel
theorem dX7_judge_14 : decode cX7_judge 14 = .ok (.bipush 14, 2) := by decide +kernel
theorem dX7_judge_16 : decode cX7_judge 16 = .ok (.aload_n 0, 1) := by decide +kernel
theorem dX7_judge_17 : decode cX7_judge 17 = .ok (.getfield 66, 3) := by decide +kernel
theorem dX7_judge_20 : decode cX7_judge 20 = .ok (.iload_n 1, 1) := by decide +kernel
theorem dX7_judge_21 : decode cX7_judge 21 = .ok (.iaload, 1) := by decide +kernel
theorem dX7_judge_22 : decode cX7_judge 22 = .ok (.iadd, 1) := by decide +kernel
theorem dX7_judge_23 : decode cX7_judge 23 = .ok (.iaload, 1) := by decide +kernel
theorem dX7_judge_24 : decode cX7_judge 24 = .ok (.aload_n 0, 1) := by decide +kernel
theorem dX7_judge_25 : decode cX7_judge 25 = .ok (.getfield 69, 3) := by decide +kernel
theorem dX7_judge_28 : decode cX7_judge 28 = .ok (.iload_n 1, 1) := by decide +kernel
theorem dX7_judge_29 : decode cX7_judge 29 = .ok (.iaload, 1) := by decide +kernel
theorem dX7_judge_30 : decode cX7_judge 30 = .ok (.if_icmp .eq 5, 3) := by decide +kernel
theorem dX7_judge_33 : decode cX7_judge 33 = .ok (.iload_n 1, 1) := by decide +kernel
theorem dX7_judge_34 : decode cX7_judge 34 = .ok (.ireturn, 1) := by decide +kernel
theorem dX7_judge_35 : decode cX7_judge 35 = .ok (.iinc 1 1, 3) := by decide +kernel
theorem dX7_judge_38 : decode cX7_judge 38 = .ok (.goto (-36), 3) := by decide +kernel
theorem dX7_judge_41 : decode cX7_judge 41 = .ok (.iconst (-1), 1) := by decide +kernel
theorem dX7_judge_42 : decode cX7_judge 42 = .ok (.ireturn, 1) := by decide +kernel
theorem dX7_seed_0 : decode cX7_seed 0 = .ok (.iload_n 1, 1) := by decide +kernel
theorem dX7_seed_1 : decode cX7_seed 1 = .ok (.ifCond .ge 6, 3) := by decide +kernel
theorem dX7_seed_4 : decode cX7_seed 4 = .ok (.ldc 93, 2) := by decide +kernel
theorem dX7_seed_6 : decode cX7_seed 6 = .ok (.ireturn, 1) := by decide +kernel
theorem dX7_seed_7 : decode cX7_seed 7 = .ok (.aload_n 0, 1) := by decide +kernel
theorem dX7_seed_8 : decode cX7_seed 8 = .ok (.getfield 260, 3) := by decide +kernel
theorem dX7_seed_11 : decode cX7_seed 11 = .ok (.istore_n 2, 1) := by decide +kernel
theorem dX7_seed_12 : decode cX7_seed 12 = .ok (.aload_n 0, 1) := by decide +kernel
theorem dX7_seed_13 : decode cX7_seed 13 = .ok (.iload_n 1, 1) := by decide +kernel
theorem dX7_seed_14 : decode cX7_seed 14 = .ok (.putfield 260, 3) := by decide +kernel
theorem dX7_seed_17 : decode cX7_seed 17 = .ok (.iload_n 2, 1) := by decide +kernel
theorem dX7_seed_18 : decode cX7_seed 18 = .ok (.ireturn, 1) := by decide +kernel
theorem dX7_keep_0 : decode cX7_keep 0 = .ok (.iload_n 1, 1) := by decide +kernel
theorem dX7_keep_1 : decode cX7_keep 1 = .ok (.i2l, 1) := by decide +kernel
theorem dX7_keep_2 : decode cX7_keep 2 = .ok (.lconst 0, 1) := by decide +kernel
theorem dX7_keep_3 : decode cX7_keep 3 = .ok (.lconst 1, 1) := by decide +kernel
theorem dX7_keep_4 : decode cX7_keep 4 = .ok (.invokestatic 84, 3) := by decide +kernel
theorem dX7_keep_7 : decode cX7_keep 7 = .ok (.ifCond .ne 6, 3) := by decide +kernel
theorem dX7_keep_10 : decode cX7_keep 10 = .ok (.ldc 236, 2) := by decide +kernel
theorem dX7_keep_12 : decode cX7_keep 12 = .ok (.ireturn, 1) := by decide +kernel
theorem dX7_keep_13 : decode cX7_keep 13 = .ok (.iconst 0, 1) := by decide +kernel
theorem dX7_keep_14 : decode cX7_keep 14 = .ok (.istore_n 2, 1) := by decide +kernel
theorem dX7_keep_15 : decode cX7_keep 15 = .ok (.iload_n 2, 1) := by decide +kernel
theorem dX7_keep_16 : decode cX7_keep 16 = .ok (.bipush 66, 2) := by decide +kernel
theorem dX7_keep_18 : decode cX7_keep 18 = .ok (.if_icmp .ge 26, 3) := by decide +kernel
theorem dX7_keep_21 : decode cX7_keep 21 = .ok (.aload_n 0, 1) := by decide +kernel
theorem dX7_keep_22 : decode cX7_keep 22 = .ok (.getfield 72, 3) := by decide +kernel
theorem dX7_keep_25 : decode cX7_keep 25 = .ok (.bipush 67, 2) := by decide +kernel
theorem dX7_keep_27 : decode cX7_keep 27 = .ok (.iload_n 1, 1) := by decide +kernel
theorem dX7_keep_28 : decode cX7_keep 28 = .ok (.imul, 1) := by decide +kernel
theorem dX7_keep_29 : decode cX7_keep 29 = .ok (.iload_n 2, 1) := by decide +kernel
theorem dX7_keep_30 : decode cX7_keep 30 = .ok (.iadd, 1) := by decide +kernel
theorem dX7_keep_31 : decode cX7_keep 31 = .ok (.aload_n 0, 1) := by decide +kernel
theorem dX7_keep_32 : decode cX7_keep 32 = .ok (.getfield 22, 3) := by decide +kernel
theorem dX7_keep_35 : decode cX7_keep 35 = .ok (.iload_n 2, 1) := by decide +kernel
theorem dX7_keep_36 : decode cX7_keep 36 = .ok (.iaload, 1) := by decide +kernel
theorem dX7_keep_37 : decode cX7_keep 37 = .ok (.iastore, 1) := by decide +kernel
theorem dX7_keep_38 : decode cX7_keep 38 = .ok (.iinc 2 1, 3) := by decide +kernel
theorem dX7_keep_41 : decode cX7_keep 41 = .ok (.goto (-26), 3) := by decide +kernel
theorem dX7_keep_44 : decode cX7_keep 44 = .ok (.aload_n 0, 1) := by decide +kernel
theorem dX7_keep_45 : decode cX7_keep 45 = .ok (.getfield 72, 3) := by decide +kernel
theorem dX7_keep_48 : decode cX7_keep 48 = .ok (.bipush 67, 2) := by decide +kernel
theorem dX7_keep_50 : decode cX7_keep 50 = .ok (.iload_n 1, 1) := by decide +kernel
theorem dX7_keep_51 : decode cX7_keep 51 = .ok (.imul, 1) := by decide +kernel
theorem dX7_keep_52 : decode cX7_keep 52 = .ok (.bipush 66, 2) := by decide +kernel
theorem dX7_keep_54 : decode cX7_keep 54 = .ok (.iadd, 1) := by decide +kernel
theorem dX7_keep_55 : decode cX7_keep 55 = .ok (.aload_n 0, 1) := by decide +kernel
theorem dX7_keep_56 : decode cX7_keep 56 = .ok (.getfield 260, 3) := by decide +kernel
theorem dX7_keep_59 : decode cX7_keep 59 = .ok (.iastore, 1) := by decide +kernel
theorem dX7_keep_60 : decode cX7_keep 60 = .ok (.aload_n 0, 1) := by decide +kernel
theorem dX7_keep_61 : decode cX7_keep 61 = .ok (.getfield 75, 3) := by decide +kernel
theorem dX7_keep_64 : decode cX7_keep 64 = .ok (.iload_n 1, 1) := by decide +kernel
theorem dX7_keep_65 : decode cX7_keep 65 = .ok (.iconst 1, 1) := by decide +kernel
theorem dX7_keep_66 : decode cX7_keep 66 = .ok (.bastore, 1) := by decide +kernel
theorem dX7_keep_67 : decode cX7_keep 67 = .ok (.aload_n 0, 1) := by decide +kernel
theorem dX7_keep_68 : decode cX7_keep 68 = .ok (.iconst 0, 1) := by decide +kernel
theorem dX7_keep_69 : decode cX7_keep 69 = .ok (.putfield 156, 3) := by decide +kernel
theorem dX7_keep_72 : decode cX7_keep 72 = .ok (.iconst 1, 1) := by decide +kernel
theorem dX7_keep_73 : decode cX7_keep 73 = .ok (.ireturn, 1) := by decide +kernel
theorem dX7_goBack_0 : decode cX7_goBack 0 = .ok (.iload_n 1, 1) := by decide +kernel
theorem dX7_goBack_1 : decode cX7_goBack 1 = .ok (.i2l, 1) := by decide +kernel
theorem dX7_goBack_2 : decode cX7_goBack 2 = .ok (.lconst 0, 1) := by decide +kernel
theorem dX7_goBack_3 : decode cX7_goBack 3 = .ok (.lconst 1, 1) := by decide +kernel
theorem dX7_goBack_4 : decode cX7_goBack 4 = .ok (.invokestatic 84, 3) := by decide +kernel
theorem dX7_goBack_7 : decode cX7_goBack 7 = .ok (.ifCond .ne 6, 3) := by decide +kernel
theorem dX7_goBack_10 : decode cX7_goBack 10 = .ok (.ldc 236, 2) := by decide +kernel
theorem dX7_goBack_12 : decode cX7_goBack 12 = .ok (.ireturn, 1) := by decide +kernel
theorem dX7_goBack_13 : decode cX7_goBack 13 = .ok (.aload_n 0, 1) := by decide +kernel
theorem dX7_goBack_14 : decode cX7_goBack 14 = .ok (.getfield 75, 3) := by decide +kernel
theorem dX7_goBack_17 : decode cX7_goBack 17 = .ok (.iload_n 1, 1) := by decide +kernel
theorem dX7_goBack_18 : decode cX7_goBack 18 = .ok (.baload, 1) := by decide +kernel
theorem dX7_goBack_19 : decode cX7_goBack 19 = .ok (.ifCond .ne 6, 3) := by decide +kernel
theorem dX7_goBack_22 : decode cX7_goBack 22 = .ok (.ldc 241, 2) := by decide +kernel
theorem dX7_goBack_24 : decode cX7_goBack 24 = .ok (.ireturn, 1) := by decide +kernel
theorem dX7_goBack_25 : decode cX7_goBack 25 = .ok (.iconst 0, 1) := by decide +kernel
theorem dX7_goBack_26 : decode cX7_goBack 26 = .ok (.istore_n 2, 1) := by decide +kernel
theorem dX7_goBack_27 : decode cX7_goBack 27 = .ok (.iload_n 2, 1) := by decide +kernel
theorem dX7_goBack_28 : decode cX7_goBack 28 = .ok (.bipush 66, 2) := by decide +kernel
theorem dX7_goBack_30 : decode cX7_goBack 30 = .ok (.if_icmp .ge 26, 3) := by decide +kernel
theorem dX7_goBack_33 : decode cX7_goBack 33 = .ok (.aload_n 0, 1) := by decide +kernel
theorem dX7_goBack_34 : decode cX7_goBack 34 = .ok (.getfield 22, 3) := by decide +kernel
theorem dX7_goBack_37 : decode cX7_goBack 37 = .ok (.iload_n 2, 1) := by decide +kernel
theorem dX7_goBack_38 : decode cX7_goBack 38 = .ok (.aload_n 0, 1) := by decide +kernel
theorem dX7_goBack_39 : decode cX7_goBack 39 = .ok (.getfield 72, 3) := by decide +kernel
theorem dX7_goBack_42 : decode cX7_goBack 42 = .ok (.bipush 67, 2) := by decide +kernel
theorem dX7_goBack_44 : decode cX7_goBack 44 = .ok (.iload_n 1, 1) := by decide +kernel
theorem dX7_goBack_45 : decode cX7_goBack 45 = .ok (.imul, 1) := by decide +kernel
theorem dX7_goBack_46 : decode cX7_goBack 46 = .ok (.iload_n 2, 1) := by decide +kernel
theorem dX7_goBack_47 : decode cX7_goBack 47 = .ok (.iadd, 1) := by decide +kernel
theorem dX7_goBack_48 : decode cX7_goBack 48 = .ok (.iaload, 1) := by decide +kernel
theorem dX7_goBack_49 : decode cX7_goBack 49 = .ok (.iastore, 1) := by decide +kernel
theorem dX7_goBack_50 : decode cX7_goBack 50 = .ok (.iinc 2 1, 3) := by decide +kernel
theorem dX7_goBack_53 : decode cX7_goBack 53 = .ok (.goto (-26), 3) := by decide +kernel
theorem dX7_goBack_56 : decode cX7_goBack 56 = .ok (.aload_n 0, 1) := by decide +kernel
theorem dX7_goBack_57 : decode cX7_goBack 57 = .ok (.aload_n 0, 1) := by decide +kernel
theorem dX7_goBack_58 : decode cX7_goBack 58 = .ok (.getfield 72, 3) := by decide +kernel
theorem dX7_goBack_61 : decode cX7_goBack 61 = .ok (.bipush 67, 2) := by decide +kernel
theorem dX7_goBack_63 : decode cX7_goBack 63 = .ok (.iload_n 1, 1) := by decide +kernel
theorem dX7_goBack_64 : decode cX7_goBack 64 = .ok (.imul, 1) := by decide +kernel
theorem dX7_goBack_65 : decode cX7_goBack 65 = .ok (.bipush 66, 2) := by decide +kernel
theorem dX7_goBack_67 : decode cX7_goBack 67 = .ok (.iadd, 1) := by decide +kernel
theorem dX7_goBack_68 : decode cX7_goBack 68 = .ok (.iaload, 1) := by decide +kernel
theorem dX7_goBack_69 : decode cX7_goBack 69 = .ok (.putfield 260, 3) := by decide +kernel
theorem dX7_goBack_72 : decode cX7_goBack 72 = .ok (.aload_n 0, 1) := by decide +kernel
theorem dX7_goBack_73 : decode cX7_goBack 73 = .ok (.iconst 0, 1) := by decide +kernel
theorem dX7_goBack_74 : decode cX7_goBack 74 = .ok (.putfield 156, 3) := by decide +kernel
theorem dX7_goBack_77 : decode cX7_goBack 77 = .ok (.iconst 1, 1) := by decide +kernel
theorem dX7_goBack_78 : decode cX7_goBack 78 = .ok (.ireturn, 1) := by decide +kernel
