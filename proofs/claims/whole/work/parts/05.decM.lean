theorem dX12_init_0 : decode cX12_init 0 = .ok (.aload_n 0, 1) := by decide +kernel
theorem dX12_init_1 : decode cX12_init 1 = .ok (.invokespecial 1, 3) := by decide +kernel
theorem dX12_init_4 : decode cX12_init 4 = .ok (.aload_n 0, 1) := by decide +kernel
theorem dX12_init_5 : decode cX12_init 5 = .ok (.sipush 340, 3) := by decide +kernel
theorem dX12_init_8 : decode cX12_init 8 = .ok (.newarray .int, 2) := by decide +kernel
theorem dX12_init_10 : decode cX12_init 10 = .ok (.putfield 7, 3) := by decide +kernel
theorem dX12_init_13 : decode cX12_init 13 = .ok (.aload_n 0, 1) := by decide +kernel
theorem dX12_init_14 : decode cX12_init 14 = .ok (.sipush 340, 3) := by decide +kernel
theorem dX12_init_17 : decode cX12_init 17 = .ok (.newarray .int, 2) := by decide +kernel
theorem dX12_init_19 : decode cX12_init 19 = .ok (.putfield 13, 3) := by decide +kernel
theorem dX12_init_22 : decode cX12_init 22 = .ok (.aload_n 0, 1) := by decide +kernel
theorem dX12_init_23 : decode cX12_init 23 = .ok (.sipush 340, 3) := by decide +kernel
theorem dX12_init_26 : decode cX12_init 26 = .ok (.newarray .int, 2) := by decide +kernel
theorem dX12_init_28 : decode cX12_init 28 = .ok (.putfield 16, 3) := by decide +kernel
theorem dX12_init_31 : decode cX12_init 31 = .ok (.aload_n 0, 1) := by decide +kernel
theorem dX12_init_32 : decode cX12_init 32 = .ok (.iconst (-1), 1) := by decide +kernel
theorem dX12_init_33 : decode cX12_init 33 = .ok (.putfield 19, 3) := by decide +kernel
theorem dX12_init_36 : decode cX12_init 36 = .ok (.aload_n 0, 1) := by decide +kernel
theorem dX12_init_37 : decode cX12_init 37 = .ok (.sipush 200, 3) := by decide +kernel
theorem dX12_init_40 : decode cX12_init 40 = .ok (.newarray .int, 2) := by decide +kernel
theorem dX12_init_42 : decode cX12_init 42 = .ok (.putfield 23, 3) := by decide +kernel
theorem dX12_init_45 : decode cX12_init 45 = .ok (.aload_n 0, 1) := by decide +kernel
theorem dX12_init_46 : decode cX12_init 46 = .ok (.bipush 6, 2) := by decide +kernel
theorem dX12_init_48 : decode cX12_init 48 = .ok (.newarray .int, 2) := by decide +kernel
theorem dX12_init_50 : decode cX12_init 50 = .ok (.putfield 26, 3) := by decide +kernel
theorem dX12_init_53 : decode cX12_init 53 = .ok (.aload_n 0, 1) := by decide +kernel
theorem dX12_init_54 : decode cX12_init 54 = .ok (.bipush 6, 2) := by decide +kernel
theorem dX12_init_56 : decode cX12_init 56 = .ok (.newarray .int, 2) := by decide +kernel
theorem dX12_init_58 : decode cX12_init 58 = .ok (.putfield 29, 3) := by decide +kernel
theorem dX12_init_61 : decode cX12_init 61 = .ok (.aload_n 0, 1) := by decide +kernel
theorem dX12_init_62 : decode cX12_init 62 = .ok (.bipush 6, 2) := by decide +kernel
theorem dX12_init_64 : decode cX12_init 64 = .ok (.newarray .int, 2) := by decide +kernel
theorem dX12_init_66 : decode cX12_init 66 = .ok (.putfield 32, 3) := by decide +kernel
theorem dX12_init_69 : decode cX12_init 69 = .ok (.aload_n 0, 1) := by decide +kernel
theorem dX12_init_70 : decode cX12_init 70 = .ok (.bipush 6, 2) := by decide +kernel
theorem dX12_init_72 : decode cX12_init 72 = .ok (.newarray .int, 2) := by decide +kernel
theorem dX12_init_74 : decode cX12_init 74 = .ok (.putfield 35, 3) := by decide +kernel
theorem dX12_init_77 : decode cX12_init 77 = .ok (.aload_n 0, 1) := by decide +kernel
theorem dX12_init_78 : decode cX12_init 78 = .ok (.bipush 6, 2) := by decide +kernel
theorem dX12_init_80 : decode cX12_init 80 = .ok (.newarray .int, 2) := by decide +kernel
theorem dX12_init_82 : decode cX12_init 82 = .ok (.putfield 38, 3) := by decide +kernel
theorem dX12_init_85 : decode cX12_init 85 = .ok (.aload_n 0, 1) := by decide +kernel
theorem dX12_init_86 : decode cX12_init 86 = .ok (.bipush 18, 2) := by decide +kernel
theorem dX12_init_88 : decode cX12_init 88 = .ok (.newarray .int, 2) := by decide +kernel
theorem dX12_init_90 : decode cX12_init 90 = .ok (.putfield 41, 3) := by decide +kernel
theorem dX12_init_93 : decode cX12_init 93 = .ok (.aload_n 0, 1) := by decide +kernel
theorem dX12_init_94 : decode cX12_init 94 = .ok (.sipush 200, 3) := by decide +kernel
theorem dX12_init_97 : decode cX12_init 97 = .ok (.newarray .int, 2) := by decide +kernel
theorem dX12_init_99 : decode cX12_init 99 = .ok (.putfield 44, 3) := by decide +kernel
theorem dX12_init_102 : decode cX12_init 102 = .ok (.aload_n 0, 1) := by decide +kernel
theorem dX12_init_103 : decode cX12_init 103 = .ok (.iconst 4, 1) := by decide +kernel
theorem dX12_init_104 : decode cX12_init 104 = .ok (.newarray .int, 2) := by decide +kernel
theorem dX12_init_106 : decode cX12_init 106 = .ok (.dup, 1) := by decide +kernel
theorem dX12_init_107 : decode cX12_init 107 = .ok (.iconst 0, 1) := by decide +kernel
theorem dX12_init_108 : decode cX12_init 108 = .ok (.iconst (-1), 1) := by decide +kernel
theorem dX12_init_109 : decode cX12_init 109 = .ok (.iastore, 1) := by decide +kernel
theorem dX12_init_110 : decode cX12_init 110 = .ok (.dup, 1) := by decide +kernel
theorem dX12_init_111 : decode cX12_init 111 = .ok (.iconst 1, 1) := by decide +kernel
theorem dX12_init_112 : decode cX12_init 112 = .ok (.iconst (-1), 1) := by decide +kernel
theorem dX12_init_113 : decode cX12_init 113 = .ok (.iastore, 1) := by decide +kernel
theorem dX12_init_114 : decode cX12_init 114 = .ok (.dup, 1) := by decide +kernel
theorem dX12_init_115 : decode cX12_init 115 = .ok (.iconst 2, 1) := by decide +kernel
theorem dX12_init_116 : decode cX12_init 116 = .ok (.iconst (-1), 1) := by decide +kernel
theorem dX12_init_117 : decode cX12_init 117 = .ok (.iastore, 1) := by decide +kernel
theorem dX12_init_118 : decode cX12_init 118 = .ok (.dup, 1) := by decide +kernel
theorem dX12_init_119 : decode cX12_init 119 = .ok (.iconst 3, 1) := by decide +kernel
theorem dX12_init_120 : decode cX12_init 120 = .ok (.iconst (-1), 1) := by decide +kernel
theorem dX12_init_121 : decode cX12_init 121 = .ok (.iastore, 1) := by decide +kernel
theorem dX12_init_122 : decode cX12_init 122 = .ok (.putfield 47, 3) := by decide +kernel
theorem dX12_init_125 : decode cX12_init 125 = .ok (.aload_n 0, 1) := by decide +kernel
theorem dX12_init_126 : decode cX12_init 126 = .ok (.iconst 4, 1) := by decide +kernel
theorem dX12_init_127 : decode cX12_init 127 = .ok (.newarray .int, 2) := by decide +kernel
theorem dX12_init_129 : decode cX12_init 129 = .ok (.putfield 50, 3) := by decide +kernel
theorem dX12_init_132 : decode cX12_init 132 = .ok (.aload_n 0, 1) := by decide +kernel
theorem dX12_init_133 : decode cX12_init 133 = .ok (.sipush 160, 3) := by decide +kernel
theorem dX12_init_136 : decode cX12_init 136 = .ok (.newarray .int, 2) := by decide +kernel
theorem dX12_init_138 : decode cX12_init 138 = .ok (.putfield 53, 3) := by decide +kernel
theorem dX12_init_141 : decode cX12_init 141 = .ok (.aload_n 0, 1) := by decide +kernel
theorem dX12_init_142 : decode cX12_init 142 = .ok (.iconst 4, 1) := by decide +kernel
theorem dX12_init_143 : decode cX12_init 143 = .ok (.newarray .int, 2) := by decide +kernel
theorem dX12_init_145 : decode cX12_init 145 = .ok (.putfield 56, 3) := by decide +kernel
theorem dX12_init_148 : decode cX12_init 148 = .ok (.aload_n 0, 1) := by decide +kernel
theorem dX12_init_149 : decode cX12_init 149 = .ok (.iconst 4, 1) := by decide +kernel
theorem dX12_init_150 : decode cX12_init 150 = .ok (.newarray .int, 2) := by decide +kernel
theorem dX12_init_152 : decode cX12_init 152 = .ok (.putfield 59, 3) := by decide +kernel
theorem dX12_init_155 : decode cX12_init 155 = .ok (.aload_n 0, 1) := by decide +kernel
theorem dX12_init_156 : decode cX12_init 156 = .ok (.iconst 4, 1) := by decide +kernel
theorem dX12_init_157 : decode cX12_init 157 = .ok (.newarray .int, 2) := by decide +kernel
theorem dX12_init_159 : decode cX12_init 159 = .ok (.putfield 62, 3) := by decide +kernel
theorem dX12_init_162 : decode cX12_init 162 = .ok (.aload_n 0, 1) := by decide +kernel
theorem dX12_init_163 : decode cX12_init 163 = .ok (.bipush 30, 2) := by decide +kernel
theorem dX12_init_165 : decode cX12_init 165 = .ok (.newarray .int, 2) := by decide +kernel
theorem dX12_init_167 : decode cX12_init 167 = .ok (.putfield 65, 3) := by decide +kernel
theorem dX12_init_170 : decode cX12_init 170 = .ok (.aload_n 0, 1) := by decide +kernel
theorem dX12_init_171 : decode cX12_init 171 = .ok (.getfield 7, 3) := by decide +kernel
theorem dX12_init_174 : decode cX12_init 174 = .ok (.iconst 5, 1) := by decide +kernel
theorem dX12_init_175 : decode cX12_init 175 = .ok (.iconst 1, 1) := by decide +kernel
theorem dX12_init_176 : decode cX12_init 176 = .ok (.iastore, 1) := by decide +kernel
theorem dX12_init_177 : decode cX12_init 177 = .ok (.return_, 1) := by decide +kernel
theorem dX12_in_0 : decode cX12_in 0 = .ok (.lload_n 0, 1) := by decide +kernel
theorem dX12_in_1 : decode cX12_in 1 = .ok (.lload_n 2, 1) := by decide +kernel
theorem dX12_in_2 : decode cX12_in 2 = .ok (.lcmp, 1) := by decide +kernel
theorem dX12_in_3 : decode cX12_in 3 = .ok (.ifCond .lt 14, 3) := by decide +kernel
theorem dX12_in_6 : decode cX12_in 6 = .ok (.lload_n 0, 1) := by decide +kernel
theorem dX12_in_7 : decode cX12_in 7 = .ok (.lload 4, 2) := by decide +kernel
theorem dX12_in_9 : decode cX12_in 9 = .ok (.lcmp, 1) := by decide +kernel
theorem dX12_in_10 : decode cX12_in 10 = .ok (.ifCond .gt 7, 3) := by decide +kernel
theorem dX12_in_13 : decode cX12_in 13 = .ok (.iconst 1, 1) := by decide +kernel
theorem dX12_in_14 : decode cX12_in 14 = .ok (.goto 4, 3) := by decide +kernel
theorem dX12_in_17 : decode cX12_in 17 = .ok (.iconst 0, 1) := by decide +kernel
theorem dX12_in_18 : decode cX12_in 18 = .ok (.ireturn, 1) := by decide +kernel
theorem dX12_isPerson_0 : decode cX12_isPerson 0 = .ok (.iload_n 1, 1) := by decide +kernel
theorem dX12_isPerson_1 : decode cX12_isPerson 1 = .ok (.i2l, 1) := by decide +kernel
theorem dX12_isPerson_2 : decode cX12_isPerson 2 = .ok (.lconst 0, 1) := by decide +kernel
theorem dX12_isPerson_3 : decode cX12_isPerson 3 = .ok (.aload_n 0, 1) := by decide +kernel
theorem dX12_isPerson_4 : decode cX12_isPerson 4 = .ok (.getfield 7, 3) := by decide +kernel
theorem dX12_isPerson_7 : decode cX12_isPerson 7 = .ok (.iconst 0, 1) := by decide +kernel
theorem dX12_isPerson_8 : decode cX12_isPerson 8 = .ok (.iaload, 1) := by decide +kernel
theorem dX12_isPerson_9 : decode cX12_isPerson 9 = .ok (.iconst 1, 1) := by decide +kernel
theorem dX12_isPerson_10 : decode cX12_isPerson 10 = .ok (.isub, 1) := by decide +kernel
theorem dX12_isPerson_11 : decode cX12_isPerson 11 = .ok (.i2l, 1) := by decide +kernel
theorem dX12_isPerson_12 : decode cX12_isPerson 12 = .ok (.invokestatic 68, 3) := by decide +kernel
theorem dX12_isPerson_15 : decode cX12_isPerson 15 = .ok (.ireturn, 1) := by decide +kernel
theorem dX12_isThing_0 : decode cX12_isThing 0 = .ok (.iload_n 0, 1) := by decide +kernel
theorem dX12_isThing_1 : decode cX12_isThing 1 = .ok (.i2l, 1) := by decide +kernel
theorem dX12_isThing_2 : decode cX12_isThing 2 = .ok (.lconst 0, 1) := by decide +kernel
theorem dX12_isThing_3 : decode cX12_isThing 3 = .ok (.ldc2_w 72, 3) := by decide +kernel
theorem dX12_isThing_6 : decode cX12_isThing 6 = .ok (.invokestatic 68, 3) := by decide +kernel
theorem dX12_isThing_9 : decode cX12_isThing 9 = .ok (.ireturn, 1) := by decide +kernel
theorem dX12_puts_0 : decode cX12_puts 0 = .ok (.iconst 0, 1) := by decide +kernel
theorem dX12_puts_1 : decode cX12_puts 1 = .ok (.istore_n 1, 1) := by decide +kernel
theorem dX12_puts_2 : decode cX12_puts 2 = .ok (.iload_n 1, 1) := by decide +kernel
theorem dX12_puts_3 : decode cX12_puts 3 = .ok (.sipush 340, 3) := by decide +kernel
theorem dX12_puts_6 : decode cX12_puts 6 = .ok (.if_icmp .ge 21, 3) := by decide +kernel
theorem dX12_puts_9 : decode cX12_puts 9 = .ok (.aload_n 0, 1) := by decide +kernel
theorem dX12_puts_10 : decode cX12_puts 10 = .ok (.getfield 16, 3) := by decide +kernel
theorem dX12_puts_13 : decode cX12_puts 13 = .ok (.iload_n 1, 1) := by decide +kernel
theorem dX12_puts_14 : decode cX12_puts 14 = .ok (.aload_n 0, 1) := by decide +kernel
theorem dX12_puts_15 : decode cX12_puts 15 = .ok (.getfield 7, 3) := by decide +kernel
theorem dX12_puts_18 : decode cX12_puts 18 = .ok (.iload_n 1, 1) := by decide +kernel
theorem dX12_puts_19 : decode cX12_puts 19 = .ok (.iaload, 1) := by decide +kernel
theorem dX12_puts_20 : decode cX12_puts 20 = .ok (.iastore, 1) := by decide +kernel
theorem dX12_puts_21 : decode cX12_puts 21 = .ok (.iinc 1 1, 3) := by decide +kernel
theorem dX12_puts_24 : decode cX12_puts 24 = .ok (.goto (-22), 3) := by decide +kernel
theorem dX12_puts_27 : decode cX12_puts 27 = .ok (.return_, 1) := by decide +kernel
theorem dX12_putsBack_0 : decode cX12_putsBack 0 = .ok (.iconst 0, 1) := by decide +kernel
theorem dX12_putsBack_1 : decode cX12_putsBack 1 = .ok (.istore_n 1, 1) := by decide +kernel
theorem dX12_putsBack_2 : decode cX12_putsBack 2 = .ok (.iload_n 1, 1) := by decide +kernel
theorem dX12_putsBack_3 : decode cX12_putsBack 3 = .ok (.sipush 340, 3) := by decide +kernel
theorem dX12_putsBack_6 : decode cX12_putsBack 6 = .ok (.if_icmp .ge 21, 3) := by decide +kernel
theorem dX12_putsBack_9 : decode cX12_putsBack 9 = .ok (.aload_n 0, 1) := by decide +kernel
theorem dX12_putsBack_10 : decode cX12_putsBack 10 = .ok (.getfield 7, 3) := by decide +kernel
theorem dX12_putsBack_13 : decode cX12_putsBack 13 = .ok (.iload_n 1, 1) := by decide +kernel
theorem dX12_putsBack_14 : decode cX12_putsBack 14 = .ok (.aload_n 0, 1) := by decide +kernel
theorem dX12_putsBack_15 : decode cX12_putsBack 15 = .ok (.getfield 16, 3) := by decide +kernel
theorem dX12_putsBack_18 : decode cX12_putsBack 18 = .ok (.iload_n 1, 1) := by decide +kernel
theorem dX12_putsBack_19 : decode cX12_putsBack 19 = .ok (.iaload, 1) := by decide +kernel
theorem dX12_putsBack_20 : decode cX12_putsBack 20 = .ok (.iastore, 1) := by decide +kernel
theorem dX12_putsBack_21 : decode cX12_putsBack 21 = .ok (.iinc 1 1, 3) := by decide +kernel
theorem dX12_putsBack_24 : decode cX12_putsBack 24 = .ok (.goto (-22), 3) := by decide +kernel
theorem dX12_putsBack_27 : decode cX12_putsBack 27 = .ok (.return_, 1) := by decide +kernel
theorem dX12_becomes_0 : decode cX12_becomes 0 = .ok (.aload_n 0, 1) := by decide +kernel
theorem dX12_becomes_1 : decode cX12_becomes 1 = .ok (.getfield 7, 3) := by decide +kernel
theorem dX12_becomes_4 : decode cX12_becomes 4 = .ok (.iload_n 1, 1) := by decide +kernel
theorem dX12_becomes_5 : decode cX12_becomes 5 = .ok (.iaload, 1) := by decide +kernel
theorem dX12_becomes_6 : decode cX12_becomes 6 = .ok (.istore_n 3, 1) := by decide +kernel
theorem dX12_becomes_7 : decode cX12_becomes 7 = .ok (.aload_n 0, 1) := by decide +kernel
theorem dX12_becomes_8 : decode cX12_becomes 8 = .ok (.getfield 7, 3) := by decide +kernel
theorem dX12_becomes_11 : decode cX12_becomes 11 = .ok (.iload_n 1, 1) := by decide +kernel
theorem dX12_becomes_12 : decode cX12_becomes 12 = .ok (.iload_n 2, 1) := by decide +kernel
theorem dX12_becomes_13 : decode cX12_becomes 13 = .ok (.iastore, 1) := by decide +kernel
theorem dX12_becomes_14 : decode cX12_becomes 14 = .ok (.iload_n 3, 1) := by decide +kernel
theorem dX12_becomes_15 : decode cX12_becomes 15 = .ok (.ireturn, 1) := by decide +kernel
theorem dX12_at_0 : decode cX12_at 0 = .ok (.bipush 22, 2) := by decide +kernel
theorem dX12_at_2 : decode cX12_at 2 = .ok (.iconst 5, 1) := by decide +kernel
theorem dX12_at_3 : decode cX12_at 3 = .ok (.iload_n 0, 1) := by decide +kernel
theorem dX12_at_4 : decode cX12_at 4 = .ok (.imul, 1) := by decide +kernel
theorem dX12_at_5 : decode cX12_at 5 = .ok (.iadd, 1) := by decide +kernel
theorem dX12_at_6 : decode cX12_at 6 = .ok (.iload_n 1, 1) := by decide +kernel
theorem dX12_at_7 : decode cX12_at 7 = .ok (.iadd, 1) := by decide +kernel
theorem dX12_at_8 : decode cX12_at 8 = .ok (.ireturn, 1) := by decide +kernel
theorem dX12_its_0 : decode cX12_its 0 = .ok (.aload_n 0, 1) := by decide +kernel
theorem dX12_its_1 : decode cX12_its 1 = .ok (.getfield 7, 3) := by decide +kernel
theorem dX12_its_4 : decode cX12_its 4 = .ok (.iload_n 1, 1) := by decide +kernel
theorem dX12_its_5 : decode cX12_its 5 = .ok (.iload_n 2, 1) := by decide +kernel
theorem dX12_its_6 : decode cX12_its 6 = .ok (.invokestatic 74, 3) := by decide +kernel
theorem dX12_its_9 : decode cX12_its 9 = .ok (.iaload, 1) := by decide +kernel
theorem dX12_its_10 : decode cX12_its 10 = .ok (.ireturn, 1) := by decide +kernel
theorem dX12_isKind_0 : decode cX12_isKind 0 = .ok (.iload_n 0, 1) := by decide +kernel
theorem dX12_isKind_1 : decode cX12_isKind 1 = .ok (.i2l, 1) := by decide +kernel
theorem dX12_isKind_2 : decode cX12_isKind 2 = .ok (.lconst 1, 1) := by decide +kernel
theorem dX12_isKind_3 : decode cX12_isKind 3 = .ok (.ldc2_w 78, 3) := by decide +kernel
theorem dX12_isKind_6 : decode cX12_isKind 6 = .ok (.invokestatic 68, 3) := by decide +kernel
theorem dX12_isKind_9 : decode cX12_isKind 9 = .ok (.ireturn, 1) := by decide +kernel
theorem dX12_isPart_0 : decode cX12_isPart 0 = .ok (.iload_n 0, 1) := by decide +kernel
theorem dX12_isPart_1 : decode cX12_isPart 1 = .ok (.iconst 1, 1) := by decide +kernel
theorem dX12_isPart_2 : decode cX12_isPart 2 = .ok (.if_icmp .eq 8, 3) := by decide +kernel
theorem dX12_isPart_5 : decode cX12_isPart 5 = .ok (.iload_n 0, 1) := by decide +kernel
theorem dX12_isPart_6 : decode cX12_isPart 6 = .ok (.iconst 2, 1) := by decide +kernel
theorem dX12_isPart_7 : decode cX12_isPart 7 = .ok (.if_icmp .ne 10, 3) := by decide +kernel
theorem dX12_isPart_10 : decode cX12_isPart 10 = .ok (.iload_n 1, 1) := by decide +kernel
theorem dX12_isPart_11 : decode cX12_isPart 11 = .ok (.invokestatic 80, 3) := by decide +kernel
theorem dX12_isPart_14 : decode cX12_isPart 14 = .ok (.ifCond .ne 20, 3) := by decide +kernel
theorem dX12_isPart_17 : decode cX12_isPart 17 = .ok (.iload_n 0, 1) := by decide +kernel
theorem dX12_isPart_18 : decode cX12_isPart 18 = .ok (.iconst 3, 1) := by decide +kernel
theorem dX12_isPart_19 : decode cX12_isPart 19 = .ok (.if_icmp .ne 19, 3) := by decide +kernel
theorem dX12_isPart_22 : decode cX12_isPart 22 = .ok (.iload_n 1, 1) := by decide +kernel
theorem dX12_isPart_23 : decode cX12_isPart 23 = .ok (.i2l, 1) := by decide +kernel
theorem dX12_isPart_24 : decode cX12_isPart 24 = .ok (.lconst 0, 1) := by decide +kernel
theorem dX12_isPart_25 : decode cX12_isPart 25 = .ok (.ldc2_w 84, 3) := by decide +kernel
theorem dX12_isPart_28 : decode cX12_isPart 28 = .ok (.invokestatic 68, 3) := by decide +kernel
theorem dX12_isPart_31 : decode cX12_isPart 31 = .ok (.ifCond .eq 7, 3) := by decide +kernel
theorem dX12_isPart_34 : decode cX12_isPart 34 = .ok (.iconst 1, 1) := by decide +kernel
theorem dX12_isPart_35 : decode cX12_isPart 35 = .ok (.goto 4, 3) := by decide +kernel
theorem dX12_isPart_38 : decode cX12_isPart 38 = .ok (.iconst 0, 1) := by decide +kernel
theorem dX12_isPart_39 : decode cX12_isPart 39 = .ok (.ireturn, 1) := by decide +kernel
theorem dX12_person_0 : decode cX12_person 0 = .ok (.iload_n 1, 1) := by decide +kernel
theorem dX12_person_1 : decode cX12_person 1 = .ok (.invokestatic 86, 3) := by decide +kernel
theorem dX12_person_4 : decode cX12_person 4 = .ok (.ifCond .eq 26, 3) := by decide +kernel
theorem dX12_person_7 : decode cX12_person 7 = .ok (.iload_n 2, 1) := by decide +kernel
theorem dX12_person_8 : decode cX12_person 8 = .ok (.invokestatic 80, 3) := by decide +kernel
theorem dX12_person_11 : decode cX12_person 11 = .ok (.ifCond .eq 19, 3) := by decide +kernel
theorem dX12_person_14 : decode cX12_person 14 = .ok (.iload_n 3, 1) := by decide +kernel
theorem dX12_person_15 : decode cX12_person 15 = .ok (.invokestatic 80, 3) := by decide +kernel
theorem dX12_person_18 : decode cX12_person 18 = .ok (.ifCond .eq 12, 3) := by decide +kernel
theorem dX12_person_21 : decode cX12_person 21 = .ok (.iconst 3, 1) := by decide +kernel
theorem dX12_person_22 : decode cX12_person 22 = .ok (.iload 4, 2) := by decide +kernel
theorem dX12_person_24 : decode cX12_person 24 = .ok (.invokestatic 89, 3) := by decide +kernel
theorem dX12_person_27 : decode cX12_person 27 = .ok (.ifCond .ne 5, 3) := by decide +kernel
theorem dX12_person_30 : decode cX12_person 30 = .ok (.iconst (-1), 1) := by decide +kernel
theorem dX12_person_31 : decode cX12_person 31 = .ok (.ireturn, 1) := by decide +kernel
theorem dX12_person_32 : decode cX12_person 32 = .ok (.aload_n 0, 1) := by decide +kernel
theorem dX12_person_33 : decode cX12_person 33 = .ok (.getfield 7, 3) := by decide +kernel
theorem dX12_person_36 : decode cX12_person 36 = .ok (.iconst 0, 1) := by decide +kernel
theorem dX12_person_37 : decode cX12_person 37 = .ok (.iaload, 1) := by decide +kernel
theorem dX12_person_38 : decode cX12_person 38 = .ok (.bipush 6, 2) := by decide +kernel
theorem dX12_person_40 : decode cX12_person 40 = .ok (.if_icmp .ne 6, 3) := by decide +kernel
theorem dX12_person_43 : decode cX12_person 43 = .ok (.bipush (-2), 2) := by decide +kernel
theorem dX12_person_45 : decode cX12_person 45 = .ok (.ireturn, 1) := by decide +kernel
theorem dX12_person_46 : decode cX12_person 46 = .ok (.aload_n 0, 1) := by decide +kernel
theorem dX12_person_47 : decode cX12_person 47 = .ok (.getfield 7, 3) := by decide +kernel
theorem dX12_person_50 : decode cX12_person 50 = .ok (.iconst 0, 1) := by decide +kernel
theorem dX12_person_51 : decode cX12_person 51 = .ok (.iaload, 1) := by decide +kernel
theorem dX12_person_52 : decode cX12_person 52 = .ok (.istore 5, 2) := by decide +kernel
theorem dX12_person_54 : decode cX12_person 54 = .ok (.aload_n 0, 1) := by decide +kernel
theorem dX12_person_55 : decode cX12_person 55 = .ok (.getfield 7, 3) := by decide +kernel
theorem dX12_person_58 : decode cX12_person 58 = .ok (.iload 5, 2) := by decide +kernel
theorem dX12_person_60 : decode cX12_person 60 = .ok (.iconst 0, 1) := by decide +kernel
theorem dX12_person_61 : decode cX12_person 61 = .ok (.invokestatic 74, 3) := by decide +kernel
theorem dX12_person_64 : decode cX12_person 64 = .ok (.iload_n 1, 1) := by decide +kernel
theorem dX12_person_65 : decode cX12_person 65 = .ok (.iastore, 1) := by decide +kernel
theorem dX12_person_66 : decode cX12_person 66 = .ok (.aload_n 0, 1) := by decide +kernel
theorem dX12_person_67 : decode cX12_person 67 = .ok (.getfield 7, 3) := by decide +kernel
theorem dX12_person_70 : decode cX12_person 70 = .ok (.iload 5, 2) := by decide +kernel
theorem dX12_person_72 : decode cX12_person 72 = .ok (.iconst 1, 1) := by decide +kernel
theorem dX12_person_73 : decode cX12_person 73 = .ok (.invokestatic 74, 3) := by decide +kernel
theorem dX12_person_76 : decode cX12_person 76 = .ok (.iload_n 2, 1) := by decide +kernel
theorem dX12_person_77 : decode cX12_person 77 = .ok (.iastore, 1) := by decide +kernel
theorem dX12_person_78 : decode cX12_person 78 = .ok (.aload_n 0, 1) := by decide +kernel
theorem dX12_person_79 : decode cX12_person 79 = .ok (.getfield 7, 3) := by decide +kernel
theorem dX12_person_82 : decode cX12_person 82 = .ok (.iload 5, 2) := by decide +kernel
theorem dX12_person_84 : decode cX12_person 84 = .ok (.iconst 2, 1) := by decide +kernel
theorem dX12_person_85 : decode cX12_person 85 = .ok (.invokestatic 74, 3) := by decide +kernel
theorem dX12_person_88 : decode cX12_person 88 = .ok (.iload_n 3, 1) := by decide +kernel
theorem dX12_person_89 : decode cX12_person 89 = .ok (.iastore, 1) := by decide +kernel
theorem dX12_person_90 : decode cX12_person 90 = .ok (.aload_n 0, 1) := by decide +kernel
theorem dX12_person_91 : decode cX12_person 91 = .ok (.getfield 7, 3) := by decide +kernel
theorem dX12_person_94 : decode cX12_person 94 = .ok (.iload 5, 2) := by decide +kernel
theorem dX12_person_96 : decode cX12_person 96 = .ok (.iconst 3, 1) := by decide +kernel
theorem dX12_person_97 : decode cX12_person 97 = .ok (.invokestatic 74, 3) := by decide +kernel
theorem dX12_person_100 : decode cX12_person 100 = .ok (.iload 4, 2) := by decide +kernel
theorem dX12_person_102 : decode cX12_person 102 = .ok (.iastore, 1) := by decide +kernel
theorem dX12_person_103 : decode cX12_person 103 = .ok (.aload_n 0, 1) := by decide +kernel
theorem dX12_person_104 : decode cX12_person 104 = .ok (.getfield 7, 3) := by decide +kernel
theorem dX12_person_107 : decode cX12_person 107 = .ok (.iload 5, 2) := by decide +kernel
theorem dX12_person_109 : decode cX12_person 109 = .ok (.iconst 4, 1) := by decide +kernel
theorem dX12_person_110 : decode cX12_person 110 = .ok (.invokestatic 74, 3) := by decide +kernel
theorem dX12_person_113 : decode cX12_person 113 = .ok (.iconst 0, 1) := by decide +kernel
theorem dX12_person_114 : decode cX12_person 114 = .ok (.iastore, 1) := by decide +kernel
theorem dX12_person_115 : decode cX12_person 115 = .ok (.aload_n 0, 1) := by decide +kernel
theorem dX12_person_116 : decode cX12_person 116 = .ok (.getfield 7, 3) := by decide +kernel
theorem dX12_person_119 : decode cX12_person 119 = .ok (.iconst 0, 1) := by decide +kernel
theorem dX12_person_120 : decode cX12_person 120 = .ok (.dup2, 1) := by decide +kernel
theorem dX12_person_121 : decode cX12_person 121 = .ok (.iaload, 1) := by decide +kernel
theorem dX12_person_122 : decode cX12_person 122 = .ok (.iconst 1, 1) := by decide +kernel
theorem dX12_person_123 : decode cX12_person 123 = .ok (.iadd, 1) := by decide +kernel
theorem dX12_person_124 : decode cX12_person 124 = .ok (.iastore, 1) := by decide +kernel
theorem dX12_person_125 : decode cX12_person 125 = .ok (.iload 5, 2) := by decide +kernel
theorem dX12_person_127 : decode cX12_person 127 = .ok (.ireturn, 1) := by decide +kernel
theorem dX12_isUnder_0 : decode cX12_isUnder 0 = .ok (.iload_n 1, 1) := by decide +kernel
theorem dX12_isUnder_1 : decode cX12_isUnder 1 = .ok (.ifCond .eq 28, 3) := by decide +kernel
theorem dX12_isUnder_4 : decode cX12_isUnder 4 = .ok (.iload_n 0, 1) := by decide +kernel
theorem dX12_isUnder_5 : decode cX12_isUnder 5 = .ok (.iload_n 1, 1) := by decide +kernel
theorem dX12_isUnder_6 : decode cX12_isUnder 6 = .ok (.if_icmp .eq 23, 3) := by decide +kernel
theorem dX12_isUnder_9 : decode cX12_isUnder 9 = .ok (.iload_n 1, 1) := by decide +kernel
theorem dX12_isUnder_10 : decode cX12_isUnder 10 = .ok (.iconst 2, 1) := by decide +kernel
theorem dX12_isUnder_11 : decode cX12_isUnder 11 = .ok (.if_icmp .ne 8, 3) := by decide +kernel
theorem dX12_isUnder_14 : decode cX12_isUnder 14 = .ok (.iload_n 0, 1) := by decide +kernel
theorem dX12_isUnder_15 : decode cX12_isUnder 15 = .ok (.iconst 3, 1) := by decide +kernel
theorem dX12_isUnder_16 : decode cX12_isUnder 16 = .ok (.if_icmp .eq 13, 3) := by decide +kernel
theorem dX12_isUnder_19 : decode cX12_isUnder 19 = .ok (.iload_n 1, 1) := by decide +kernel
theorem dX12_isUnder_20 : decode cX12_isUnder 20 = .ok (.iconst 4, 1) := by decide +kernel
theorem dX12_isUnder_21 : decode cX12_isUnder 21 = .ok (.if_icmp .ne 12, 3) := by decide +kernel
theorem dX12_isUnder_24 : decode cX12_isUnder 24 = .ok (.iload_n 0, 1) := by decide +kernel
theorem dX12_isUnder_25 : decode cX12_isUnder 25 = .ok (.iconst 5, 1) := by decide +kernel
theorem dX12_isUnder_26 : decode cX12_isUnder 26 = .ok (.if_icmp .ne 7, 3) := by decide +kernel
theorem dX12_isUnder_29 : decode cX12_isUnder 29 = .ok (.iconst 1, 1) := by decide +kernel
theorem dX12_isUnder_30 : decode cX12_isUnder 30 = .ok (.goto 4, 3) := by decide +kernel
theorem dX12_isUnder_33 : decode cX12_isUnder 33 = .ok (.iconst 0, 1) := by decide +kernel
theorem dX12_isUnder_34 : decode cX12_isUnder 34 = .ok (.ireturn, 1) := by decide +kernel
theorem dX12_isWhole_0 : decode cX12_isWhole 0 = .ok (.aload_n 0, 1) := by decide +kernel
theorem dX12_isWhole_1 : decode cX12_isWhole 1 = .ok (.iload_n 1, 1) := by decide +kernel
theorem dX12_isWhole_2 : decode cX12_isWhole 2 = .ok (.iconst 1, 1) := by decide +kernel
theorem dX12_isWhole_3 : decode cX12_isWhole 3 = .ok (.invokevirtual 93, 3) := by decide +kernel
theorem dX12_isWhole_6 : decode cX12_isWhole 6 = .ok (.aload_n 0, 1) := by decide +kernel
theorem dX12_isWhole_7 : decode cX12_isWhole 7 = .ok (.iload_n 1, 1) := by decide +kernel
theorem dX12_isWhole_8 : decode cX12_isWhole 8 = .ok (.iconst 2, 1) := by decide +kernel
theorem dX12_isWhole_9 : decode cX12_isWhole 9 = .ok (.invokevirtual 93, 3) := by decide +kernel
theorem dX12_isWhole_12 : decode cX12_isWhole 12 = .ok (.if_icmp .ne 7, 3) := by decide +kernel
theorem dX12_isWhole_15 : decode cX12_isWhole 15 = .ok (.iconst 1, 1) := by decide +kernel
theorem dX12_isWhole_16 : decode cX12_isWhole 16 = .ok (.goto 4, 3) := by decide +kernel
theorem dX12_isWhole_19 : decode cX12_isWhole 19 = .ok (.iconst 0, 1) := by decide +kernel
theorem dX12_isWhole_20 : decode cX12_isWhole 20 = .ok (.ireturn, 1) := by decide +kernel
theorem dX12_wholeSet_0 : decode cX12_wholeSet 0 = .ok (.iconst 0, 1) := by decide +kernel
theorem dX12_wholeSet_1 : decode cX12_wholeSet 1 = .ok (.istore_n 1, 1) := by decide +kernel
theorem dX12_wholeSet_2 : decode cX12_wholeSet 2 = .ok (.iconst 0, 1) := by decide +kernel
theorem dX12_wholeSet_3 : decode cX12_wholeSet 3 = .ok (.istore_n 2, 1) := by decide +kernel
theorem dX12_wholeSet_4 : decode cX12_wholeSet 4 = .ok (.iload_n 2, 1) := by decide +kernel
theorem dX12_wholeSet_5 : decode cX12_wholeSet 5 = .ok (.aload_n 0, 1) := by decide +kernel
theorem dX12_wholeSet_6 : decode cX12_wholeSet 6 = .ok (.getfield 7, 3) := by decide +kernel
theorem dX12_wholeSet_9 : decode cX12_wholeSet 9 = .ok (.iconst 0, 1) := by decide +kernel
theorem dX12_wholeSet_10 : decode cX12_wholeSet 10 = .ok (.iaload, 1) := by decide +kernel
theorem dX12_wholeSet_11 : decode cX12_wholeSet 11 = .ok (.if_icmp .ge 35, 3) := by decide +kernel
theorem dX12_wholeSet_14 : decode cX12_wholeSet 14 = .ok (.iload_n 1, 1) := by decide +kernel
theorem dX12_wholeSet_15 : decode cX12_wholeSet 15 = .ok (.iload_n 2, 1) := by decide +kernel
theorem dX12_wholeSet_16 : decode cX12_wholeSet 16 = .ok (.aload_n 0, 1) := by decide +kernel
theorem dX12_wholeSet_17 : decode cX12_wholeSet 17 = .ok (.getfield 19, 3) := by decide +kernel
theorem dX12_wholeSet_20 : decode cX12_wholeSet 20 = .ok (.if_icmp .eq 17, 3) := by decide +kernel
theorem dX12_wholeSet_23 : decode cX12_wholeSet 23 = .ok (.aload_n 0, 1) := by decide +kernel
theorem dX12_wholeSet_24 : decode cX12_wholeSet 24 = .ok (.iload_n 2, 1) := by decide +kernel
theorem dX12_wholeSet_25 : decode cX12_wholeSet 25 = .ok (.invokevirtual 96, 3) := by decide +kernel
theorem dX12_wholeSet_28 : decode cX12_wholeSet 28 = .ok (.ifCond .eq 9, 3) := by decide +kernel
theorem dX12_wholeSet_31 : decode cX12_wholeSet 31 = .ok (.iconst 1, 1) := by decide +kernel
theorem dX12_wholeSet_32 : decode cX12_wholeSet 32 = .ok (.iload_n 2, 1) := by decide +kernel
theorem dX12_wholeSet_33 : decode cX12_wholeSet 33 = .ok (.ishl, 1) := by decide +kernel
theorem dX12_wholeSet_34 : decode cX12_wholeSet 34 = .ok (.goto 4, 3) := by decide +kernel
theorem dX12_wholeSet_37 : decode cX12_wholeSet 37 = .ok (.iconst 0, 1) := by decide +kernel
theorem dX12_wholeSet_38 : decode cX12_wholeSet 38 = .ok (.ior, 1) := by decide +kernel
theorem dX12_wholeSet_39 : decode cX12_wholeSet 39 = .ok (.istore_n 1, 1) := by decide +kernel
theorem dX12_wholeSet_40 : decode cX12_wholeSet 40 = .ok (.iinc 2 1, 3) := by decide +kernel
theorem dX12_wholeSet_43 : decode cX12_wholeSet 43 = .ok (.goto (-39), 3) := by decide +kernel
theorem dX12_wholeSet_46 : decode cX12_wholeSet 46 = .ok (.iload_n 1, 1) := by decide +kernel
theorem dX12_wholeSet_47 : decode cX12_wholeSet 47 = .ok (.ireturn, 1) := by decide +kernel
theorem dX12_ones_0 : decode cX12_ones 0 = .ok (.iconst 0, 1) := by decide +kernel
theorem dX12_ones_1 : decode cX12_ones 1 = .ok (.istore_n 1, 1) := by decide +kernel
theorem dX12_ones_2 : decode cX12_ones 2 = .ok (.iload_n 0, 1) := by decide +kernel
theorem dX12_ones_3 : decode cX12_ones 3 = .ok (.istore_n 2, 1) := by decide +kernel
theorem dX12_ones_4 : decode cX12_ones 4 = .ok (.iload_n 2, 1) := by decide +kernel
theorem dX12_ones_5 : decode cX12_ones 5 = .ok (.ifCond .eq 15, 3) := by decide +kernel
theorem dX12_ones_8 : decode cX12_ones 8 = .ok (.iinc 1 1, 3) := by decide +kernel
theorem dX12_ones_11 : decode cX12_ones 11 = .ok (.iload_n 2, 1) := by decide +kernel
theorem dX12_ones_12 : decode cX12_ones 12 = .ok (.iload_n 2, 1) := by decide +kernel
theorem dX12_ones_13 : decode cX12_ones 13 = .ok (.iconst 1, 1) := by decide +kernel
theorem dX12_ones_14 : decode cX12_ones 14 = .ok (.isub, 1) := by decide +kernel
theorem dX12_ones_15 : decode cX12_ones 15 = .ok (.iand, 1) := by decide +kernel
theorem dX12_ones_16 : decode cX12_ones 16 = .ok (.istore_n 2, 1) := by decide +kernel
theorem dX12_ones_17 : decode cX12_ones 17 = .ok (.goto (-13), 3) := by decide +kernel
theorem dX12_ones_20 : decode cX12_ones 20 = .ok (.iload_n 1, 1) := by decide +kernel
theorem dX12_ones_21 : decode cX12_ones 21 = .ok (.ireturn, 1) := by decide +kernel
theorem dX12_coinsAll_0 : decode cX12_coinsAll 0 = .ok (.iconst 0, 1) := by decide +kernel
theorem dX12_coinsAll_1 : decode cX12_coinsAll 1 = .ok (.istore_n 1, 1) := by decide +kernel
theorem dX12_coinsAll_2 : decode cX12_coinsAll 2 = .ok (.iconst 0, 1) := by decide +kernel
theorem dX12_coinsAll_3 : decode cX12_coinsAll 3 = .ok (.istore_n 2, 1) := by decide +kernel
theorem dX12_coinsAll_4 : decode cX12_coinsAll 4 = .ok (.iload_n 2, 1) := by decide +kernel
theorem dX12_coinsAll_5 : decode cX12_coinsAll 5 = .ok (.aload_n 0, 1) := by decide +kernel
theorem dX12_coinsAll_6 : decode cX12_coinsAll 6 = .ok (.getfield 7, 3) := by decide +kernel
theorem dX12_coinsAll_9 : decode cX12_coinsAll 9 = .ok (.iconst 0, 1) := by decide +kernel
theorem dX12_coinsAll_10 : decode cX12_coinsAll 10 = .ok (.iaload, 1) := by decide +kernel
theorem dX12_coinsAll_11 : decode cX12_coinsAll 11 = .ok (.if_icmp .ge 18, 3) := by decide +kernel
theorem dX12_coinsAll_14 : decode cX12_coinsAll 14 = .ok (.iload_n 1, 1) := by decide +kernel
theorem dX12_coinsAll_15 : decode cX12_coinsAll 15 = .ok (.aload_n 0, 1) := by decide +kernel
theorem dX12_coinsAll_16 : decode cX12_coinsAll 16 = .ok (.iload_n 2, 1) := by decide +kernel
theorem dX12_coinsAll_17 : decode cX12_coinsAll 17 = .ok (.iconst 3, 1) := by decide +kernel
theorem dX12_coinsAll_18 : decode cX12_coinsAll 18 = .ok (.invokevirtual 93, 3) := by decide +kernel
theorem dX12_coinsAll_21 : decode cX12_coinsAll 21 = .ok (.iadd, 1) := by decide +kernel
theorem dX12_coinsAll_22 : decode cX12_coinsAll 22 = .ok (.istore_n 1, 1) := by decide +kernel
theorem dX12_coinsAll_23 : decode cX12_coinsAll 23 = .ok (.iinc 2 1, 3) := by decide +kernel
theorem dX12_coinsAll_26 : decode cX12_coinsAll 26 = .ok (.goto (-22), 3) := by decide +kernel
theorem dX12_coinsAll_29 : decode cX12_coinsAll 29 = .ok (.iload_n 1, 1) := by decide +kernel
theorem dX12_coinsAll_30 : decode cX12_coinsAll 30 = .ok (.ireturn, 1) := by decide +kernel
theorem dX12_fact_0 : decode cX12_fact 0 = .ok (.iload_n 1, 1) := by decide +kernel
theorem dX12_fact_1 : decode cX12_fact 1 = .ok (.tableswitch 82 (-5) (-1) #[80, 72, 65, 50, 35], 35) := by decide +kernel
theorem dX12_fact_36 : decode cX12_fact 36 = .ok (.aload_n 0, 1) := by decide +kernel
theorem dX12_fact_37 : decode cX12_fact 37 = .ok (.getfield 7, 3) := by decide +kernel
theorem dX12_fact_40 : decode cX12_fact 40 = .ok (.bipush 6, 2) := by decide +kernel
theorem dX12_fact_42 : decode cX12_fact 42 = .ok (.aload_n 0, 1) := by decide +kernel
theorem dX12_fact_43 : decode cX12_fact 43 = .ok (.iload_n 2, 1) := by decide +kernel
theorem dX12_fact_44 : decode cX12_fact 44 = .ok (.iconst 1, 1) := by decide +kernel
theorem dX12_fact_45 : decode cX12_fact 45 = .ok (.invokevirtual 93, 3) := by decide +kernel
theorem dX12_fact_48 : decode cX12_fact 48 = .ok (.iadd, 1) := by decide +kernel
theorem dX12_fact_49 : decode cX12_fact 49 = .ok (.iaload, 1) := by decide +kernel
theorem dX12_fact_50 : decode cX12_fact 50 = .ok (.ireturn, 1) := by decide +kernel
theorem dX12_fact_51 : decode cX12_fact 51 = .ok (.aload_n 0, 1) := by decide +kernel
theorem dX12_fact_52 : decode cX12_fact 52 = .ok (.getfield 7, 3) := by decide +kernel
theorem dX12_fact_55 : decode cX12_fact 55 = .ok (.bipush 6, 2) := by decide +kernel
theorem dX12_fact_57 : decode cX12_fact 57 = .ok (.aload_n 0, 1) := by decide +kernel
theorem dX12_fact_58 : decode cX12_fact 58 = .ok (.iload_n 2, 1) := by decide +kernel
theorem dX12_fact_59 : decode cX12_fact 59 = .ok (.iconst 2, 1) := by decide +kernel
theorem dX12_fact_60 : decode cX12_fact 60 = .ok (.invokevirtual 93, 3) := by decide +kernel
theorem dX12_fact_63 : decode cX12_fact 63 = .ok (.iadd, 1) := by decide +kernel
theorem dX12_fact_64 : decode cX12_fact 64 = .ok (.iaload, 1) := by decide +kernel
theorem dX12_fact_65 : decode cX12_fact 65 = .ok (.ireturn, 1) := by decide +kernel
theorem dX12_fact_66 : decode cX12_fact 66 = .ok (.aload_n 0, 1) := by decide +kernel
theorem dX12_fact_67 : decode cX12_fact 67 = .ok (.iload_n 2, 1) := by decide +kernel
theorem dX12_fact_68 : decode cX12_fact 68 = .ok (.iconst 3, 1) := by decide +kernel
theorem dX12_fact_69 : decode cX12_fact 69 = .ok (.invokevirtual 93, 3) := by decide +kernel
theorem dX12_fact_72 : decode cX12_fact 72 = .ok (.ireturn, 1) := by decide +kernel
theorem dX12_fact_73 : decode cX12_fact 73 = .ok (.aload_n 0, 1) := by decide +kernel
theorem dX12_fact_74 : decode cX12_fact 74 = .ok (.invokevirtual 99, 3) := by decide +kernel
theorem dX12_fact_77 : decode cX12_fact 77 = .ok (.invokestatic 103, 3) := by decide +kernel
theorem dX12_fact_80 : decode cX12_fact 80 = .ok (.ireturn, 1) := by decide +kernel
theorem dX12_fact_81 : decode cX12_fact 81 = .ok (.iload_n 2, 1) := by decide +kernel
theorem dX12_fact_82 : decode cX12_fact 82 = .ok (.ireturn, 1) := by decide +kernel
theorem dX12_fact_83 : decode cX12_fact 83 = .ok (.iload_n 1, 1) := by decide +kernel
theorem dX12_fact_84 : decode cX12_fact 84 = .ok (.ireturn, 1) := by decide +kernel
theorem dX12_isHolding_0 : decode cX12_isHolding 0 = .ok (.iload_n 0, 1) := by decide +kernel
theorem dX12_isHolding_1 : decode cX12_isHolding 1 = .ok (.lookupswitch 92 #[(-21, 76), (-13, 65), (-12, 54), (-11, 43)], 43) := by decide +kernel
theorem dX12_isHolding_44 : decode cX12_isHolding 44 = .ok (.iload_n 1, 1) := by decide +kernel
theorem dX12_isHolding_45 : decode cX12_isHolding 45 = .ok (.iload_n 2, 1) := by decide +kernel
theorem dX12_isHolding_46 : decode cX12_isHolding 46 = .ok (.if_icmp .ge 7, 3) := by decide +kernel
theorem dX12_isHolding_49 : decode cX12_isHolding 49 = .ok (.iconst 1, 1) := by decide +kernel
theorem dX12_isHolding_50 : decode cX12_isHolding 50 = .ok (.goto 4, 3) := by decide +kernel
theorem dX12_isHolding_53 : decode cX12_isHolding 53 = .ok (.iconst 0, 1) := by decide +kernel
theorem dX12_isHolding_54 : decode cX12_isHolding 54 = .ok (.ireturn, 1) := by decide +kernel
theorem dX12_isHolding_55 : decode cX12_isHolding 55 = .ok (.iload_n 1, 1) := by decide +kernel
theorem dX12_isHolding_56 : decode cX12_isHolding 56 = .ok (.iload_n 2, 1) := by decide +kernel
theorem dX12_isHolding_57 : decode cX12_isHolding 57 = .ok (.if_icmp .ne 7, 3) := by decide +kernel
theorem dX12_isHolding_60 : decode cX12_isHolding 60 = .ok (.iconst 1, 1) := by decide +kernel
theorem dX12_isHolding_61 : decode cX12_isHolding 61 = .ok (.goto 4, 3) := by decide +kernel
theorem dX12_isHolding_64 : decode cX12_isHolding 64 = .ok (.iconst 0, 1) := by decide +kernel
theorem dX12_isHolding_65 : decode cX12_isHolding 65 = .ok (.ireturn, 1) := by decide +kernel
theorem dX12_isHolding_66 : decode cX12_isHolding 66 = .ok (.iload_n 1, 1) := by decide +kernel
theorem dX12_isHolding_67 : decode cX12_isHolding 67 = .ok (.iload_n 2, 1) := by decide +kernel
theorem dX12_isHolding_68 : decode cX12_isHolding 68 = .ok (.if_icmp .le 7, 3) := by decide +kernel
theorem dX12_isHolding_71 : decode cX12_isHolding 71 = .ok (.iconst 1, 1) := by decide +kernel
theorem dX12_isHolding_72 : decode cX12_isHolding 72 = .ok (.goto 4, 3) := by decide +kernel
theorem dX12_isHolding_75 : decode cX12_isHolding 75 = .ok (.iconst 0, 1) := by decide +kernel
theorem dX12_isHolding_76 : decode cX12_isHolding 76 = .ok (.ireturn, 1) := by decide +kernel
theorem dX12_isHolding_77 : decode cX12_isHolding 77 = .ok (.iload_n 1, 1) := by decide +kernel
theorem dX12_isHolding_78 : decode cX12_isHolding 78 = .ok (.iconst 1, 1) := by decide +kernel
theorem dX12_isHolding_79 : decode cX12_isHolding 79 = .ok (.if_icmp .ne 12, 3) := by decide +kernel
theorem dX12_isHolding_82 : decode cX12_isHolding 82 = .ok (.iload_n 2, 1) := by decide +kernel
theorem dX12_isHolding_83 : decode cX12_isHolding 83 = .ok (.iconst 1, 1) := by decide +kernel
theorem dX12_isHolding_84 : decode cX12_isHolding 84 = .ok (.if_icmp .ne 7, 3) := by decide +kernel
theorem dX12_isHolding_87 : decode cX12_isHolding 87 = .ok (.iconst 1, 1) := by decide +kernel
theorem dX12_isHolding_88 : decode cX12_isHolding 88 = .ok (.goto 4, 3) := by decide +kernel
theorem dX12_isHolding_91 : decode cX12_isHolding 91 = .ok (.iconst 0, 1) := by decide +kernel
theorem dX12_isHolding_92 : decode cX12_isHolding 92 = .ok (.ireturn, 1) := by decide +kernel
theorem dX12_isHolding_93 : decode cX12_isHolding 93 = .ok (.iload_n 1, 1) := by decide +kernel
theorem dX12_isHolding_94 : decode cX12_isHolding 94 = .ok (.iconst 1, 1) := by decide +kernel
theorem dX12_isHolding_95 : decode cX12_isHolding 95 = .ok (.if_icmp .eq 8, 3) := by decide +kernel
theorem dX12_isHolding_98 : decode cX12_isHolding 98 = .ok (.iload_n 2, 1) := by decide +kernel
theorem dX12_isHolding_99 : decode cX12_isHolding 99 = .ok (.iconst 1, 1) := by decide +kernel
theorem dX12_isHolding_100 : decode cX12_isHolding 100 = .ok (.if_icmp .ne 7, 3) := by decide +kernel
theorem dX12_isHolding_103 : decode cX12_isHolding 103 = .ok (.iconst 1, 1) := by decide +kernel
theorem dX12_isHolding_104 : decode cX12_isHolding 104 = .ok (.goto 4, 3) := by decide +kernel
theorem dX12_isHolding_107 : decode cX12_isHolding 107 = .ok (.iconst 0, 1) := by decide +kernel
theorem dX12_isHolding_108 : decode cX12_isHolding 108 = .ok (.ireturn, 1) := by decide +kernel
theorem dX12_isSo_0 : decode cX12_isSo 0 = .ok (.iconst 0, 1) := by decide +kernel
theorem dX12_isSo_1 : decode cX12_isSo 1 = .ok (.istore 4, 2) := by decide +kernel
theorem dX12_isSo_3 : decode cX12_isSo 3 = .ok (.iload_n 1, 1) := by decide +kernel
theorem dX12_isSo_4 : decode cX12_isSo 4 = .ok (.istore 5, 2) := by decide +kernel
theorem dX12_isSo_6 : decode cX12_isSo 6 = .ok (.iload 5, 2) := by decide +kernel
theorem dX12_isSo_8 : decode cX12_isSo 8 = .ok (.iload_n 2, 1) := by decide +kernel
theorem dX12_isSo_9 : decode cX12_isSo 9 = .ok (.if_icmp .ge 120, 3) := by decide +kernel
theorem dX12_isSo_12 : decode cX12_isSo 12 = .ok (.aload_n 0, 1) := by decide +kernel
theorem dX12_isSo_13 : decode cX12_isSo 13 = .ok (.getfield 7, 3) := by decide +kernel
theorem dX12_isSo_16 : decode cX12_isSo 16 = .ok (.sipush 138, 3) := by decide +kernel
theorem dX12_isSo_19 : decode cX12_isSo 19 = .ok (.iload 5, 2) := by decide +kernel
theorem dX12_isSo_21 : decode cX12_isSo 21 = .ok (.iadd, 1) := by decide +kernel
theorem dX12_isSo_22 : decode cX12_isSo 22 = .ok (.iaload, 1) := by decide +kernel
theorem dX12_isSo_23 : decode cX12_isSo 23 = .ok (.istore 6, 2) := by decide +kernel
theorem dX12_isSo_25 : decode cX12_isSo 25 = .ok (.iload 6, 2) := by decide +kernel
theorem dX12_isSo_27 : decode cX12_isSo 27 = .ok (.bipush (-10), 2) := by decide +kernel
theorem dX12_isSo_29 : decode cX12_isSo 29 = .ok (.if_icmp .le 23, 3) := by decide +kernel
theorem dX12_isSo_32 : decode cX12_isSo 32 = .ok (.aload_n 0, 1) := by decide +kernel
theorem dX12_isSo_33 : decode cX12_isSo 33 = .ok (.getfield 23, 3) := by decide +kernel
theorem dX12_isSo_36 : decode cX12_isSo 36 = .ok (.iload 4, 2) := by decide +kernel
theorem dX12_isSo_38 : decode cX12_isSo 38 = .ok (.aload_n 0, 1) := by decide +kernel
theorem dX12_isSo_39 : decode cX12_isSo 39 = .ok (.iload 6, 2) := by decide +kernel
theorem dX12_isSo_41 : decode cX12_isSo 41 = .ok (.iload_n 3, 1) := by decide +kernel
theorem dX12_isSo_42 : decode cX12_isSo 42 = .ok (.invokevirtual 107, 3) := by decide +kernel
theorem dX12_isSo_45 : decode cX12_isSo 45 = .ok (.iastore, 1) := by decide +kernel
theorem dX12_isSo_46 : decode cX12_isSo 46 = .ok (.iinc 4 1, 3) := by decide +kernel
theorem dX12_isSo_49 : decode cX12_isSo 49 = .ok (.goto 74, 3) := by decide +kernel
theorem dX12_isSo_52 : decode cX12_isSo 52 = .ok (.iload 6, 2) := by decide +kernel
theorem dX12_isSo_54 : decode cX12_isSo 54 = .ok (.bipush (-20), 2) := by decide +kernel
theorem dX12_isSo_56 : decode cX12_isSo 56 = .ok (.if_icmp .ne 26, 3) := by decide +kernel
theorem dX12_isSo_59 : decode cX12_isSo 59 = .ok (.aload_n 0, 1) := by decide +kernel
theorem dX12_isSo_60 : decode cX12_isSo 60 = .ok (.getfield 23, 3) := by decide +kernel
theorem dX12_isSo_63 : decode cX12_isSo 63 = .ok (.iload 4, 2) := by decide +kernel
theorem dX12_isSo_65 : decode cX12_isSo 65 = .ok (.iconst 1, 1) := by decide +kernel
theorem dX12_isSo_66 : decode cX12_isSo 66 = .ok (.isub, 1) := by decide +kernel
theorem dX12_isSo_67 : decode cX12_isSo 67 = .ok (.iconst 1, 1) := by decide +kernel
theorem dX12_isSo_68 : decode cX12_isSo 68 = .ok (.aload_n 0, 1) := by decide +kernel
theorem dX12_isSo_69 : decode cX12_isSo 69 = .ok (.getfield 23, 3) := by decide +kernel
theorem dX12_isSo_72 : decode cX12_isSo 72 = .ok (.iload 4, 2) := by decide +kernel
theorem dX12_isSo_74 : decode cX12_isSo 74 = .ok (.iconst 1, 1) := by decide +kernel
theorem dX12_isSo_75 : decode cX12_isSo 75 = .ok (.isub, 1) := by decide +kernel
theorem dX12_isSo_76 : decode cX12_isSo 76 = .ok (.iaload, 1) := by decide +kernel
theorem dX12_isSo_77 : decode cX12_isSo 77 = .ok (.isub, 1) := by decide +kernel
theorem dX12_isSo_78 : decode cX12_isSo 78 = .ok (.iastore, 1) := by decide +kernel
theorem dX12_isSo_79 : decode cX12_isSo 79 = .ok (.goto 44, 3) := by decide +kernel
theorem dX12_isSo_82 : decode cX12_isSo 82 = .ok (.iinc 4 (-1), 3) := by decide +kernel
theorem dX12_isSo_85 : decode cX12_isSo 85 = .ok (.aload_n 0, 1) := by decide +kernel
theorem dX12_isSo_86 : decode cX12_isSo 86 = .ok (.getfield 23, 3) := by decide +kernel
theorem dX12_isSo_89 : decode cX12_isSo 89 = .ok (.iload 4, 2) := by decide +kernel
theorem dX12_isSo_91 : decode cX12_isSo 91 = .ok (.iconst 1, 1) := by decide +kernel
theorem dX12_isSo_92 : decode cX12_isSo 92 = .ok (.isub, 1) := by decide +kernel
theorem dX12_isSo_93 : decode cX12_isSo 93 = .ok (.iload 6, 2) := by decide +kernel
theorem dX12_isSo_95 : decode cX12_isSo 95 = .ok (.aload_n 0, 1) := by decide +kernel
theorem dX12_isSo_96 : decode cX12_isSo 96 = .ok (.getfield 23, 3) := by decide +kernel
theorem dX12_isSo_99 : decode cX12_isSo 99 = .ok (.iload 4, 2) := by decide +kernel
theorem dX12_isSo_101 : decode cX12_isSo 101 = .ok (.iconst 1, 1) := by decide +kernel
theorem dX12_isSo_102 : decode cX12_isSo 102 = .ok (.isub, 1) := by decide +kernel
theorem dX12_isSo_103 : decode cX12_isSo 103 = .ok (.iaload, 1) := by decide +kernel
theorem dX12_isSo_104 : decode cX12_isSo 104 = .ok (.aload_n 0, 1) := by decide +kernel
theorem dX12_isSo_105 : decode cX12_isSo 105 = .ok (.getfield 23, 3) := by decide +kernel
theorem dX12_isSo_108 : decode cX12_isSo 108 = .ok (.iload 4, 2) := by decide +kernel
theorem dX12_isSo_110 : decode cX12_isSo 110 = .ok (.iaload, 1) := by decide +kernel
theorem dX12_isSo_111 : decode cX12_isSo 111 = .ok (.invokestatic 110, 3) := by decide +kernel
theorem dX12_isSo_114 : decode cX12_isSo 114 = .ok (.ifCond .eq 7, 3) := by decide +kernel
theorem dX12_isSo_117 : decode cX12_isSo 117 = .ok (.iconst 1, 1) := by decide +kernel
theorem dX12_isSo_118 : decode cX12_isSo 118 = .ok (.goto 4, 3) := by decide +kernel
theorem dX12_isSo_121 : decode cX12_isSo 121 = .ok (.iconst 0, 1) := by decide +kernel
theorem dX12_isSo_122 : decode cX12_isSo 122 = .ok (.iastore, 1) := by decide +kernel
theorem dX12_isSo_123 : decode cX12_isSo 123 = .ok (.iinc 5 1, 3) := by decide +kernel
theorem dX12_isSo_126 : decode cX12_isSo 126 = .ok (.goto (-120), 3) := by decide +kernel
theorem dX12_isSo_129 : decode cX12_isSo 129 = .ok (.iload 4, 2) := by decide +kernel
theorem dX12_isSo_131 : decode cX12_isSo 131 = .ok (.ifCond .eq 13, 3) := by decide +kernel
theorem dX12_isSo_134 : decode cX12_isSo 134 = .ok (.aload_n 0, 1) := by decide +kernel
theorem dX12_isSo_135 : decode cX12_isSo 135 = .ok (.getfield 23, 3) := by decide +kernel
theorem dX12_isSo_138 : decode cX12_isSo 138 = .ok (.iconst 0, 1) := by decide +kernel
theorem dX12_isSo_139 : decode cX12_isSo 139 = .ok (.iaload, 1) := by decide +kernel
theorem dX12_isSo_140 : decode cX12_isSo 140 = .ok (.iconst 1, 1) := by decide +kernel
theorem dX12_isSo_141 : decode cX12_isSo 141 = .ok (.if_icmp .ne 7, 3) := by decide +kernel
theorem dX12_isSo_144 : decode cX12_isSo 144 = .ok (.iconst 1, 1) := by decide +kernel
theorem dX12_isSo_145 : decode cX12_isSo 145 = .ok (.goto 4, 3) := by decide +kernel
theorem dX12_isSo_148 : decode cX12_isSo 148 = .ok (.iconst 0, 1) := by decide +kernel
theorem dX12_isSo_149 : decode cX12_isSo 149 = .ok (.ireturn, 1) := by decide +kernel
theorem dX12_atLeast_0 : decode cX12_atLeast 0 = .ok (.iload_n 0, 1) := by decide +kernel
theorem dX12_atLeast_1 : decode cX12_atLeast 1 = .ok (.ifCond .ge 7, 3) := by decide +kernel
theorem dX12_atLeast_4 : decode cX12_atLeast 4 = .ok (.iconst 0, 1) := by decide +kernel
theorem dX12_atLeast_5 : decode cX12_atLeast 5 = .ok (.goto 4, 3) := by decide +kernel
theorem dX12_atLeast_8 : decode cX12_atLeast 8 = .ok (.iload_n 0, 1) := by decide +kernel
theorem dX12_atLeast_9 : decode cX12_atLeast 9 = .ok (.ireturn, 1) := by decide +kernel
theorem dX12_asked_0 : decode cX12_asked 0 = .ok (.aload_n 0, 1) := by decide +kernel
theorem dX12_asked_1 : decode cX12_asked 1 = .ok (.iload_n 1, 1) := by decide +kernel
theorem dX12_asked_2 : decode cX12_asked 2 = .ok (.iconst 0, 1) := by decide +kernel
theorem dX12_asked_3 : decode cX12_asked 3 = .ok (.invokevirtual 93, 3) := by decide +kernel
theorem dX12_asked_6 : decode cX12_asked 6 = .ok (.istore_n 2, 1) := by decide +kernel
theorem dX12_asked_7 : decode cX12_asked 7 = .ok (.iconst (-1), 1) := by decide +kernel
theorem dX12_asked_8 : decode cX12_asked 8 = .ok (.istore_n 3, 1) := by decide +kernel
theorem dX12_asked_9 : decode cX12_asked 9 = .ok (.iconst 0, 1) := by decide +kernel
theorem dX12_asked_10 : decode cX12_asked 10 = .ok (.istore 4, 2) := by decide +kernel
theorem dX12_asked_12 : decode cX12_asked 12 = .ok (.iconst 0, 1) := by decide +kernel
theorem dX12_asked_13 : decode cX12_asked 13 = .ok (.istore 5, 2) := by decide +kernel
theorem dX12_asked_15 : decode cX12_asked 15 = .ok (.iload 5, 2) := by decide +kernel
theorem dX12_asked_17 : decode cX12_asked 17 = .ok (.aload_n 0, 1) := by decide +kernel
theorem dX12_asked_18 : decode cX12_asked 18 = .ok (.getfield 7, 3) := by decide +kernel
theorem dX12_asked_21 : decode cX12_asked 21 = .ok (.iconst 1, 1) := by decide +kernel
theorem dX12_asked_22 : decode cX12_asked 22 = .ok (.iaload, 1) := by decide +kernel
theorem dX12_asked_23 : decode cX12_asked 23 = .ok (.if_icmp .ge 75, 3) := by decide +kernel
theorem dX12_asked_26 : decode cX12_asked 26 = .ok (.iload_n 3, 1) := by decide +kernel
theorem dX12_asked_27 : decode cX12_asked 27 = .ok (.ifCond .ge 71, 3) := by decide +kernel
theorem dX12_asked_30 : decode cX12_asked 30 = .ok (.bipush 106, 2) := by decide +kernel
theorem dX12_asked_32 : decode cX12_asked 32 = .ok (.iconst 4, 1) := by decide +kernel
theorem dX12_asked_33 : decode cX12_asked 33 = .ok (.iload 5, 2) := by decide +kernel
theorem dX12_asked_35 : decode cX12_asked 35 = .ok (.imul, 1) := by decide +kernel
theorem dX12_asked_36 : decode cX12_asked 36 = .ok (.iadd, 1) := by decide +kernel
theorem dX12_asked_37 : decode cX12_asked 37 = .ok (.istore 6, 2) := by decide +kernel
theorem dX12_asked_39 : decode cX12_asked 39 = .ok (.iload_n 2, 1) := by decide +kernel
theorem dX12_asked_40 : decode cX12_asked 40 = .ok (.aload_n 0, 1) := by decide +kernel
theorem dX12_asked_41 : decode cX12_asked 41 = .ok (.getfield 7, 3) := by decide +kernel
theorem dX12_asked_44 : decode cX12_asked 44 = .ok (.iload 6, 2) := by decide +kernel
theorem dX12_asked_46 : decode cX12_asked 46 = .ok (.iconst 0, 1) := by decide +kernel
theorem dX12_asked_47 : decode cX12_asked 47 = .ok (.iadd, 1) := by decide +kernel
theorem dX12_asked_48 : decode cX12_asked 48 = .ok (.iaload, 1) := by decide +kernel
theorem dX12_asked_49 : decode cX12_asked 49 = .ok (.invokestatic 114, 3) := by decide +kernel
theorem dX12_asked_52 : decode cX12_asked 52 = .ok (.ifCond .eq 27, 3) := by decide +kernel
theorem dX12_asked_55 : decode cX12_asked 55 = .ok (.aload_n 0, 1) := by decide +kernel
theorem dX12_asked_56 : decode cX12_asked 56 = .ok (.iload 4, 2) := by decide +kernel
theorem dX12_asked_58 : decode cX12_asked 58 = .ok (.aload_n 0, 1) := by decide +kernel
theorem dX12_asked_59 : decode cX12_asked 59 = .ok (.getfield 7, 3) := by decide +kernel
theorem dX12_asked_62 : decode cX12_asked 62 = .ok (.iload 6, 2) := by decide +kernel
theorem dX12_asked_64 : decode cX12_asked 64 = .ok (.iconst 3, 1) := by decide +kernel
theorem dX12_asked_65 : decode cX12_asked 65 = .ok (.iadd, 1) := by decide +kernel
theorem dX12_asked_66 : decode cX12_asked 66 = .ok (.iaload, 1) := by decide +kernel
theorem dX12_asked_67 : decode cX12_asked 67 = .ok (.iload_n 1, 1) := by decide +kernel
theorem dX12_asked_68 : decode cX12_asked 68 = .ok (.invokevirtual 117, 3) := by decide +kernel
theorem dX12_asked_71 : decode cX12_asked 71 = .ok (.ifCond .eq 8, 3) := by decide +kernel
theorem dX12_asked_74 : decode cX12_asked 74 = .ok (.iload 6, 2) := by decide +kernel
theorem dX12_asked_76 : decode cX12_asked 76 = .ok (.goto 4, 3) := by decide +kernel
theorem dX12_asked_79 : decode cX12_asked 79 = .ok (.iconst (-1), 1) := by decide +kernel
theorem dX12_asked_80 : decode cX12_asked 80 = .ok (.istore_n 3, 1) := by decide +kernel
theorem dX12_asked_81 : decode cX12_asked 81 = .ok (.aload_n 0, 1) := by decide +kernel
theorem dX12_asked_82 : decode cX12_asked 82 = .ok (.getfield 7, 3) := by decide +kernel
theorem dX12_asked_85 : decode cX12_asked 85 = .ok (.iload 6, 2) := by decide +kernel
theorem dX12_asked_87 : decode cX12_asked 87 = .ok (.iconst 3, 1) := by decide +kernel
theorem dX12_asked_88 : decode cX12_asked 88 = .ok (.iadd, 1) := by decide +kernel
theorem dX12_asked_89 : decode cX12_asked 89 = .ok (.iaload, 1) := by decide +kernel
theorem dX12_asked_90 : decode cX12_asked 90 = .ok (.istore 4, 2) := by decide +kernel
theorem dX12_asked_92 : decode cX12_asked 92 = .ok (.iinc 5 1, 3) := by decide +kernel
theorem dX12_asked_95 : decode cX12_asked 95 = .ok (.goto (-80), 3) := by decide +kernel
theorem dX12_asked_98 : decode cX12_asked 98 = .ok (.iload_n 3, 1) := by decide +kernel
theorem dX12_asked_99 : decode cX12_asked 99 = .ok (.ifCond .ge 7, 3) := by decide +kernel
theorem dX12_asked_102 : decode cX12_asked 102 = .ok (.iconst (-1), 1) := by decide +kernel
theorem dX12_asked_103 : decode cX12_asked 103 = .ok (.goto 11, 3) := by decide +kernel
theorem dX12_asked_106 : decode cX12_asked 106 = .ok (.aload_n 0, 1) := by decide +kernel
theorem dX12_asked_107 : decode cX12_asked 107 = .ok (.getfield 7, 3) := by decide +kernel
theorem dX12_asked_110 : decode cX12_asked 110 = .ok (.iload_n 3, 1) := by decide +kernel
theorem dX12_asked_111 : decode cX12_asked 111 = .ok (.iconst 1, 1) := by decide +kernel
theorem dX12_asked_112 : decode cX12_asked 112 = .ok (.iadd, 1) := by decide +kernel
theorem dX12_asked_113 : decode cX12_asked 113 = .ok (.iaload, 1) := by decide +kernel
theorem dX12_asked_114 : decode cX12_asked 114 = .ok (.istore 5, 2) := by decide +kernel
theorem dX12_asked_116 : decode cX12_asked 116 = .ok (.iload_n 3, 1) := by decide +kernel
theorem dX12_asked_117 : decode cX12_asked 117 = .ok (.ifCond .ge 7, 3) := by decide +kernel
theorem dX12_asked_120 : decode cX12_asked 120 = .ok (.iconst 0, 1) := by decide +kernel
theorem dX12_asked_121 : decode cX12_asked 121 = .ok (.goto 11, 3) := by decide +kernel
theorem dX12_asked_124 : decode cX12_asked 124 = .ok (.aload_n 0, 1) := by decide +kernel
theorem dX12_asked_125 : decode cX12_asked 125 = .ok (.getfield 7, 3) := by decide +kernel
theorem dX12_asked_128 : decode cX12_asked 128 = .ok (.iload_n 3, 1) := by decide +kernel
theorem dX12_asked_129 : decode cX12_asked 129 = .ok (.iconst 2, 1) := by decide +kernel
theorem dX12_asked_130 : decode cX12_asked 130 = .ok (.iadd, 1) := by decide +kernel
theorem dX12_asked_131 : decode cX12_asked 131 = .ok (.iaload, 1) := by decide +kernel
theorem dX12_asked_132 : decode cX12_asked 132 = .ok (.istore 6, 2) := by decide +kernel
theorem dX12_asked_134 : decode cX12_asked 134 = .ok (.aload_n 0, 1) := by decide +kernel
theorem dX12_asked_135 : decode cX12_asked 135 = .ok (.getfield 7, 3) := by decide +kernel
theorem dX12_asked_138 : decode cX12_asked 138 = .ok (.bipush 6, 2) := by decide +kernel
theorem dX12_asked_140 : decode cX12_asked 140 = .ok (.aload_n 0, 1) := by decide +kernel
theorem dX12_asked_141 : decode cX12_asked 141 = .ok (.iload_n 1, 1) := by decide +kernel
theorem dX12_asked_142 : decode cX12_asked 142 = .ok (.iconst 2, 1) := by decide +kernel
theorem dX12_asked_143 : decode cX12_asked 143 = .ok (.invokevirtual 93, 3) := by decide +kernel
theorem dX12_asked_146 : decode cX12_asked 146 = .ok (.iadd, 1) := by decide +kernel
theorem dX12_asked_147 : decode cX12_asked 147 = .ok (.iaload, 1) := by decide +kernel
theorem dX12_asked_148 : decode cX12_asked 148 = .ok (.aload_n 0, 1) := by decide +kernel
theorem dX12_asked_149 : decode cX12_asked 149 = .ok (.getfield 7, 3) := by decide +kernel
theorem dX12_asked_152 : decode cX12_asked 152 = .ok (.bipush 6, 2) := by decide +kernel
theorem dX12_asked_154 : decode cX12_asked 154 = .ok (.aload_n 0, 1) := by decide +kernel
theorem dX12_asked_155 : decode cX12_asked 155 = .ok (.iload_n 1, 1) := by decide +kernel
theorem dX12_asked_156 : decode cX12_asked 156 = .ok (.iconst 1, 1) := by decide +kernel
theorem dX12_asked_157 : decode cX12_asked 157 = .ok (.invokevirtual 93, 3) := by decide +kernel
theorem dX12_asked_160 : decode cX12_asked 160 = .ok (.iadd, 1) := by decide +kernel
theorem dX12_asked_161 : decode cX12_asked 161 = .ok (.iaload, 1) := by decide +kernel
theorem dX12_asked_162 : decode cX12_asked 162 = .ok (.isub, 1) := by decide +kernel
theorem dX12_asked_163 : decode cX12_asked 163 = .ok (.invokestatic 120, 3) := by decide +kernel
theorem dX12_asked_166 : decode cX12_asked 166 = .ok (.aload_n 0, 1) := by decide +kernel
theorem dX12_asked_167 : decode cX12_asked 167 = .ok (.getfield 7, 3) := by decide +kernel
theorem dX12_asked_170 : decode cX12_asked 170 = .ok (.iconst 2, 1) := by decide +kernel
theorem dX12_asked_171 : decode cX12_asked 171 = .ok (.iaload, 1) := by decide +kernel
theorem dX12_asked_172 : decode cX12_asked 172 = .ok (.iadd, 1) := by decide +kernel
theorem dX12_asked_173 : decode cX12_asked 173 = .ok (.istore 7, 2) := by decide +kernel
theorem dX12_asked_175 : decode cX12_asked 175 = .ok (.iload 5, 2) := by decide +kernel
theorem dX12_asked_177 : decode cX12_asked 177 = .ok (.ifCond .ne 11, 3) := by decide +kernel
theorem dX12_asked_180 : decode cX12_asked 180 = .ok (.iload 7, 2) := by decide +kernel
theorem dX12_asked_182 : decode cX12_asked 182 = .ok (.iload 6, 2) := by decide +kernel
theorem dX12_asked_184 : decode cX12_asked 184 = .ok (.iadd, 1) := by decide +kernel
theorem dX12_asked_185 : decode cX12_asked 185 = .ok (.goto 32, 3) := by decide +kernel
theorem dX12_asked_188 : decode cX12_asked 188 = .ok (.iload 5, 2) := by decide +kernel
theorem dX12_asked_190 : decode cX12_asked 190 = .ok (.iconst 1, 1) := by decide +kernel
theorem dX12_asked_191 : decode cX12_asked 191 = .ok (.if_icmp .ne 14, 3) := by decide +kernel
theorem dX12_asked_194 : decode cX12_asked 194 = .ok (.iload 7, 2) := by decide +kernel
theorem dX12_asked_196 : decode cX12_asked 196 = .ok (.iload 6, 2) := by decide +kernel
theorem dX12_asked_198 : decode cX12_asked 198 = .ok (.isub, 1) := by decide +kernel
theorem dX12_asked_199 : decode cX12_asked 199 = .ok (.invokestatic 120, 3) := by decide +kernel
theorem dX12_asked_202 : decode cX12_asked 202 = .ok (.goto 15, 3) := by decide +kernel
theorem dX12_asked_205 : decode cX12_asked 205 = .ok (.iload 5, 2) := by decide +kernel
theorem dX12_asked_207 : decode cX12_asked 207 = .ok (.iconst 2, 1) := by decide +kernel
theorem dX12_asked_208 : decode cX12_asked 208 = .ok (.if_icmp .ne 7, 3) := by decide +kernel
theorem dX12_asked_211 : decode cX12_asked 211 = .ok (.iconst 0, 1) := by decide +kernel
theorem dX12_asked_212 : decode cX12_asked 212 = .ok (.goto 5, 3) := by decide +kernel
theorem dX12_asked_215 : decode cX12_asked 215 = .ok (.iload 7, 2) := by decide +kernel
theorem dX12_asked_217 : decode cX12_asked 217 = .ok (.istore 7, 2) := by decide +kernel
theorem dX12_asked_219 : decode cX12_asked 219 = .ok (.iload 7, 2) := by decide +kernel
theorem dX12_asked_221 : decode cX12_asked 221 = .ok (.aload_n 0, 1) := by decide +kernel
theorem dX12_asked_222 : decode cX12_asked 222 = .ok (.iload_n 1, 1) := by decide +kernel
theorem dX12_asked_223 : decode cX12_asked 223 = .ok (.iconst 3, 1) := by decide +kernel
theorem dX12_asked_224 : decode cX12_asked 224 = .ok (.invokevirtual 93, 3) := by decide +kernel
theorem dX12_asked_227 : decode cX12_asked 227 = .ok (.bipush 10, 2) := by decide +kernel
theorem dX12_asked_229 : decode cX12_asked 229 = .ok (.idiv, 1) := by decide +kernel
theorem dX12_asked_230 : decode cX12_asked 230 = .ok (.isub, 1) := by decide +kernel
theorem dX12_asked_231 : decode cX12_asked 231 = .ok (.invokestatic 120, 3) := by decide +kernel
theorem dX12_asked_234 : decode cX12_asked 234 = .ok (.istore 8, 2) := by decide +kernel
theorem dX12_asked_236 : decode cX12_asked 236 = .ok (.iload_n 2, 1) := by decide +kernel
theorem dX12_asked_237 : decode cX12_asked 237 = .ok (.tableswitch 67 2 5 #[31, 34, 51, 56], 31) := by decide +kernel
theorem dX12_asked_268 : decode cX12_asked 268 = .ok (.iload 8, 2) := by decide +kernel
theorem dX12_asked_270 : decode cX12_asked 270 = .ok (.ireturn, 1) := by decide +kernel
theorem dX12_asked_271 : decode cX12_asked 271 = .ok (.aload_n 0, 1) := by decide +kernel
theorem dX12_asked_272 : decode cX12_asked 272 = .ok (.invokevirtual 99, 3) := by decide +kernel
theorem dX12_asked_275 : decode cX12_asked 275 = .ok (.ifCond .ne 10, 3) := by decide +kernel
theorem dX12_asked_278 : decode cX12_asked 278 = .ok (.iload 8, 2) := by decide +kernel
theorem dX12_asked_280 : decode cX12_asked 280 = .ok (.iconst 2, 1) := by decide +kernel
theorem dX12_asked_281 : decode cX12_asked 281 = .ok (.idiv, 1) := by decide +kernel
theorem dX12_asked_282 : decode cX12_asked 282 = .ok (.goto 5, 3) := by decide +kernel
theorem dX12_asked_285 : decode cX12_asked 285 = .ok (.iload 8, 2) := by decide +kernel
theorem dX12_asked_287 : decode cX12_asked 287 = .ok (.ireturn, 1) := by decide +kernel
theorem dX12_asked_288 : decode cX12_asked 288 = .ok (.iconst 2, 1) := by decide +kernel
theorem dX12_asked_289 : decode cX12_asked 289 = .ok (.iload 7, 2) := by decide +kernel
theorem dX12_asked_291 : decode cX12_asked 291 = .ok (.imul, 1) := by decide +kernel
theorem dX12_asked_292 : decode cX12_asked 292 = .ok (.ireturn, 1) := by decide +kernel
theorem dX12_asked_293 : decode cX12_asked 293 = .ok (.iconst 2, 1) := by decide +kernel
theorem dX12_asked_294 : decode cX12_asked 294 = .ok (.iload 7, 2) := by decide +kernel
theorem dX12_asked_296 : decode cX12_asked 296 = .ok (.imul, 1) := by decide +kernel
theorem dX12_asked_297 : decode cX12_asked 297 = .ok (.bipush 7, 2) := by decide +kernel
theorem dX12_asked_299 : decode cX12_asked 299 = .ok (.isub, 1) := by decide +kernel
theorem dX12_asked_300 : decode cX12_asked 300 = .ok (.invokestatic 120, 3) := by decide +kernel
theorem dX12_asked_303 : decode cX12_asked 303 = .ok (.ireturn, 1) := by decide +kernel
theorem dX12_asked_304 : decode cX12_asked 304 = .ok (.iload 7, 2) := by decide +kernel
theorem dX12_asked_306 : decode cX12_asked 306 = .ok (.ireturn, 1) := by decide +kernel
theorem dX12_personOf_0 : decode cX12_personOf 0 = .ok (.aload_n 0, 1) := by decide +kernel
theorem dX12_personOf_1 : decode cX12_personOf 1 = .ok (.iload_n 1, 1) := by decide +kernel
theorem dX12_personOf_2 : decode cX12_personOf 2 = .ok (.invokevirtual 123, 3) := by decide +kernel
theorem dX12_personOf_5 : decode cX12_personOf 5 = .ok (.ifCond .eq 15, 3) := by decide +kernel
theorem dX12_personOf_8 : decode cX12_personOf 8 = .ok (.iload_n 2, 1) := by decide +kernel
theorem dX12_personOf_9 : decode cX12_personOf 9 = .ok (.i2l, 1) := by decide +kernel
theorem dX12_personOf_10 : decode cX12_personOf 10 = .ok (.lconst 0, 1) := by decide +kernel
theorem dX12_personOf_11 : decode cX12_personOf 11 = .ok (.ldc2_w 126, 3) := by decide +kernel
theorem dX12_personOf_14 : decode cX12_personOf 14 = .ok (.invokestatic 68, 3) := by decide +kernel
theorem dX12_personOf_17 : decode cX12_personOf 17 = .ok (.ifCond .ne 5, 3) := by decide +kernel
theorem dX12_personOf_20 : decode cX12_personOf 20 = .ok (.iconst (-1), 1) := by decide +kernel
theorem dX12_personOf_21 : decode cX12_personOf 21 = .ok (.ireturn, 1) := by decide +kernel
theorem dX12_personOf_22 : decode cX12_personOf 22 = .ok (.iload_n 2, 1) := by decide +kernel
theorem dX12_personOf_23 : decode cX12_personOf 23 = .ok (.iconst 4, 1) := by decide +kernel
theorem dX12_personOf_24 : decode cX12_personOf 24 = .ok (.if_icmp .ne 11, 3) := by decide +kernel
theorem dX12_personOf_27 : decode cX12_personOf 27 = .ok (.aload_n 0, 1) := by decide +kernel
theorem dX12_personOf_28 : decode cX12_personOf 28 = .ok (.iload_n 1, 1) := by decide +kernel
theorem dX12_personOf_29 : decode cX12_personOf 29 = .ok (.invokevirtual 128, 3) := by decide +kernel
theorem dX12_personOf_32 : decode cX12_personOf 32 = .ok (.goto 40, 3) := by decide +kernel
theorem dX12_personOf_35 : decode cX12_personOf 35 = .ok (.iload_n 2, 1) := by decide +kernel
theorem dX12_personOf_36 : decode cX12_personOf 36 = .ok (.iconst 5, 1) := by decide +kernel
theorem dX12_personOf_37 : decode cX12_personOf 37 = .ok (.if_icmp .ne 19, 3) := by decide +kernel
theorem dX12_personOf_40 : decode cX12_personOf 40 = .ok (.aload_n 0, 1) := by decide +kernel
theorem dX12_personOf_41 : decode cX12_personOf 41 = .ok (.iload_n 1, 1) := by decide +kernel
theorem dX12_personOf_42 : decode cX12_personOf 42 = .ok (.invokevirtual 96, 3) := by decide +kernel
theorem dX12_personOf_45 : decode cX12_personOf 45 = .ok (.ifCond .eq 7, 3) := by decide +kernel
theorem dX12_personOf_48 : decode cX12_personOf 48 = .ok (.iconst 1, 1) := by decide +kernel
theorem dX12_personOf_49 : decode cX12_personOf 49 = .ok (.goto 23, 3) := by decide +kernel
theorem dX12_personOf_52 : decode cX12_personOf 52 = .ok (.iconst 0, 1) := by decide +kernel
theorem dX12_personOf_53 : decode cX12_personOf 53 = .ok (.goto 19, 3) := by decide +kernel
theorem dX12_personOf_56 : decode cX12_personOf 56 = .ok (.aload_n 0, 1) := by decide +kernel
theorem dX12_personOf_57 : decode cX12_personOf 57 = .ok (.iload_n 1, 1) := by decide +kernel
theorem dX12_personOf_58 : decode cX12_personOf 58 = .ok (.iload_n 2, 1) := by decide +kernel
theorem dX12_personOf_59 : decode cX12_personOf 59 = .ok (.bipush 6, 2) := by decide +kernel
theorem dX12_personOf_61 : decode cX12_personOf 61 = .ok (.if_icmp .ne 7, 3) := by decide +kernel
theorem dX12_personOf_64 : decode cX12_personOf 64 = .ok (.iconst 4, 1) := by decide +kernel
theorem dX12_personOf_65 : decode cX12_personOf 65 = .ok (.goto 4, 3) := by decide +kernel
theorem dX12_personOf_68 : decode cX12_personOf 68 = .ok (.iload_n 2, 1) := by decide +kernel
theorem dX12_personOf_69 : decode cX12_personOf 69 = .ok (.invokevirtual 93, 3) := by decide +kernel
theorem dX12_personOf_72 : decode cX12_personOf 72 = .ok (.ireturn, 1) := by decide +kernel
theorem dX12_change_0 : decode cX12_change 0 = .ok (.aload_n 0, 1) := by decide +kernel
theorem dX12_change_1 : decode cX12_change 1 = .ok (.iload_n 1, 1) := by decide +kernel
theorem dX12_change_2 : decode cX12_change 2 = .ok (.invokevirtual 123, 3) := by decide +kernel
theorem dX12_change_5 : decode cX12_change 5 = .ok (.ifCond .eq 24, 3) := by decide +kernel
theorem dX12_change_8 : decode cX12_change 8 = .ok (.iload_n 2, 1) := by decide +kernel
theorem dX12_change_9 : decode cX12_change 9 = .ok (.iload_n 3, 1) := by decide +kernel
theorem dX12_change_10 : decode cX12_change 10 = .ok (.invokestatic 89, 3) := by decide +kernel
theorem dX12_change_13 : decode cX12_change 13 = .ok (.ifCond .eq 16, 3) := by decide +kernel
theorem dX12_change_16 : decode cX12_change 16 = .ok (.aload_n 0, 1) := by decide +kernel
theorem dX12_change_17 : decode cX12_change 17 = .ok (.iload_n 1, 1) := by decide +kernel
theorem dX12_change_18 : decode cX12_change 18 = .ok (.iload_n 2, 1) := by decide +kernel
theorem dX12_change_19 : decode cX12_change 19 = .ok (.invokestatic 74, 3) := by decide +kernel
theorem dX12_change_22 : decode cX12_change 22 = .ok (.iload_n 3, 1) := by decide +kernel
theorem dX12_change_23 : decode cX12_change 23 = .ok (.invokevirtual 131, 3) := by decide +kernel
theorem dX12_change_26 : decode cX12_change 26 = .ok (.goto 4, 3) := by decide +kernel
theorem dX12_change_29 : decode cX12_change 29 = .ok (.iconst (-1), 1) := by decide +kernel
theorem dX12_change_30 : decode cX12_change 30 = .ok (.ireturn, 1) := by decide +kernel
theorem dX12_remake_0 : decode cX12_remake 0 = .ok (.aload_n 0, 1) := by decide +kernel
theorem dX12_remake_1 : decode cX12_remake 1 = .ok (.iload_n 1, 1) := by decide +kernel
theorem dX12_remake_2 : decode cX12_remake 2 = .ok (.invokevirtual 123, 3) := by decide +kernel
theorem dX12_remake_5 : decode cX12_remake 5 = .ok (.ifCond .eq 23, 3) := by decide +kernel
theorem dX12_remake_8 : decode cX12_remake 8 = .ok (.iload_n 2, 1) := by decide +kernel
theorem dX12_remake_9 : decode cX12_remake 9 = .ok (.invokestatic 86, 3) := by decide +kernel
theorem dX12_remake_12 : decode cX12_remake 12 = .ok (.ifCond .eq 16, 3) := by decide +kernel
theorem dX12_remake_15 : decode cX12_remake 15 = .ok (.aload_n 0, 1) := by decide +kernel
theorem dX12_remake_16 : decode cX12_remake 16 = .ok (.iload_n 1, 1) := by decide +kernel
theorem dX12_remake_17 : decode cX12_remake 17 = .ok (.iconst 0, 1) := by decide +kernel
theorem dX12_remake_18 : decode cX12_remake 18 = .ok (.invokestatic 74, 3) := by decide +kernel
theorem dX12_remake_21 : decode cX12_remake 21 = .ok (.iload_n 2, 1) := by decide +kernel
theorem dX12_remake_22 : decode cX12_remake 22 = .ok (.invokevirtual 131, 3) := by decide +kernel
theorem dX12_remake_25 : decode cX12_remake 25 = .ok (.goto 4, 3) := by decide +kernel
theorem dX12_remake_28 : decode cX12_remake 28 = .ok (.iconst (-1), 1) := by decide +kernel
theorem dX12_remake_29 : decode cX12_remake 29 = .ok (.ireturn, 1) := by decide +kernel
theorem dX12_doMeet_0 : decode cX12_doMeet 0 = .ok (.aload_n 0, 1) := by decide +kernel
theorem dX12_doMeet_1 : decode cX12_doMeet 1 = .ok (.iload_n 1, 1) := by decide +kernel
theorem dX12_doMeet_2 : decode cX12_doMeet 2 = .ok (.iconst 4, 1) := by decide +kernel
theorem dX12_doMeet_3 : decode cX12_doMeet 3 = .ok (.invokevirtual 93, 3) := by decide +kernel
theorem dX12_doMeet_6 : decode cX12_doMeet 6 = .ok (.iload_n 2, 1) := by decide +kernel
theorem dX12_doMeet_7 : decode cX12_doMeet 7 = .ok (.ishr, 1) := by decide +kernel
theorem dX12_doMeet_8 : decode cX12_doMeet 8 = .ok (.iconst 1, 1) := by decide +kernel
theorem dX12_doMeet_9 : decode cX12_doMeet 9 = .ok (.iand, 1) := by decide +kernel
theorem dX12_doMeet_10 : decode cX12_doMeet 10 = .ok (.iconst 1, 1) := by decide +kernel
theorem dX12_doMeet_11 : decode cX12_doMeet 11 = .ok (.if_icmp .ne 7, 3) := by decide +kernel
theorem dX12_doMeet_14 : decode cX12_doMeet 14 = .ok (.iconst 1, 1) := by decide +kernel
theorem dX12_doMeet_15 : decode cX12_doMeet 15 = .ok (.goto 4, 3) := by decide +kernel
theorem dX12_doMeet_18 : decode cX12_doMeet 18 = .ok (.iconst 0, 1) := by decide +kernel
theorem dX12_doMeet_19 : decode cX12_doMeet 19 = .ok (.ireturn, 1) := by decide +kernel
theorem dX12_lets_0 : decode cX12_lets 0 = .ok (.aload_n 0, 1) := by decide +kernel
theorem dX12_lets_1 : decode cX12_lets 1 = .ok (.iload_n 1, 1) := by decide +kernel
theorem dX12_lets_2 : decode cX12_lets 2 = .ok (.iconst 4, 1) := by decide +kernel
theorem dX12_lets_3 : decode cX12_lets 3 = .ok (.invokevirtual 93, 3) := by decide +kernel
theorem dX12_lets_6 : decode cX12_lets 6 = .ok (.istore 4, 2) := by decide +kernel
theorem dX12_lets_8 : decode cX12_lets 8 = .ok (.aload_n 0, 1) := by decide +kernel
theorem dX12_lets_9 : decode cX12_lets 9 = .ok (.getfield 7, 3) := by decide +kernel
theorem dX12_lets_12 : decode cX12_lets 12 = .ok (.iload_n 1, 1) := by decide +kernel
theorem dX12_lets_13 : decode cX12_lets 13 = .ok (.iconst 4, 1) := by decide +kernel
theorem dX12_lets_14 : decode cX12_lets 14 = .ok (.invokestatic 74, 3) := by decide +kernel
theorem dX12_lets_17 : decode cX12_lets 17 = .ok (.iload_n 3, 1) := by decide +kernel
theorem dX12_lets_18 : decode cX12_lets 18 = .ok (.ifCond .eq 12, 3) := by decide +kernel
theorem dX12_lets_21 : decode cX12_lets 21 = .ok (.iload 4, 2) := by decide +kernel
theorem dX12_lets_23 : decode cX12_lets 23 = .ok (.iconst 1, 1) := by decide +kernel
theorem dX12_lets_24 : decode cX12_lets 24 = .ok (.iload_n 2, 1) := by decide +kernel
theorem dX12_lets_25 : decode cX12_lets 25 = .ok (.ishl, 1) := by decide +kernel
theorem dX12_lets_26 : decode cX12_lets 26 = .ok (.ior, 1) := by decide +kernel
theorem dX12_lets_27 : decode cX12_lets 27 = .ok (.goto 11, 3) := by decide +kernel
theorem dX12_lets_30 : decode cX12_lets 30 = .ok (.iload 4, 2) := by decide +kernel
theorem dX12_lets_32 : decode cX12_lets 32 = .ok (.iconst 1, 1) := by decide +kernel
theorem dX12_lets_33 : decode cX12_lets 33 = .ok (.iload_n 2, 1) := by decide +kernel
theorem dX12_lets_34 : decode cX12_lets 34 = .ok (.ishl, 1) := by decide +kernel
theorem dX12_lets_35 : decode cX12_lets 35 = .ok (.iconst (-1), 1) := by decide +kernel
theorem dX12_lets_36 : decode cX12_lets 36 = .ok (.ixor, 1) := by decide +kernel
theorem dX12_lets_37 : decode cX12_lets 37 = .ok (.iand, 1) := by decide +kernel
theorem dX12_lets_38 : decode cX12_lets 38 = .ok (.iastore, 1) := by decide +kernel
theorem dX12_lets_39 : decode cX12_lets 39 = .ok (.return_, 1) := by decide +kernel
theorem dX12_meets_0 : decode cX12_meets 0 = .ok (.aload_n 0, 1) := by decide +kernel
theorem dX12_meets_1 : decode cX12_meets 1 = .ok (.iload_n 1, 1) := by decide +kernel
theorem dX12_meets_2 : decode cX12_meets 2 = .ok (.invokevirtual 123, 3) := by decide +kernel
theorem dX12_meets_5 : decode cX12_meets 5 = .ok (.ifCond .eq 16, 3) := by decide +kernel
theorem dX12_meets_8 : decode cX12_meets 8 = .ok (.aload_n 0, 1) := by decide +kernel
theorem dX12_meets_9 : decode cX12_meets 9 = .ok (.iload_n 2, 1) := by decide +kernel
theorem dX12_meets_10 : decode cX12_meets 10 = .ok (.invokevirtual 123, 3) := by decide +kernel
theorem dX12_meets_13 : decode cX12_meets 13 = .ok (.ifCond .eq 8, 3) := by decide +kernel
theorem dX12_meets_16 : decode cX12_meets 16 = .ok (.iload_n 1, 1) := by decide +kernel
theorem dX12_meets_17 : decode cX12_meets 17 = .ok (.iload_n 2, 1) := by decide +kernel
theorem dX12_meets_18 : decode cX12_meets 18 = .ok (.if_icmp .ne 5, 3) := by decide +kernel
theorem dX12_meets_21 : decode cX12_meets 21 = .ok (.iconst (-1), 1) := by decide +kernel
theorem dX12_meets_22 : decode cX12_meets 22 = .ok (.ireturn, 1) := by decide +kernel
theorem dX12_meets_23 : decode cX12_meets 23 = .ok (.aload_n 0, 1) := by decide +kernel
theorem dX12_meets_24 : decode cX12_meets 24 = .ok (.iload_n 1, 1) := by decide +kernel
theorem dX12_meets_25 : decode cX12_meets 25 = .ok (.iload_n 2, 1) := by decide +kernel
theorem dX12_meets_26 : decode cX12_meets 26 = .ok (.invokevirtual 134, 3) := by decide +kernel
theorem dX12_meets_29 : decode cX12_meets 29 = .ok (.ifCond .eq 7, 3) := by decide +kernel
theorem dX12_meets_32 : decode cX12_meets 32 = .ok (.iconst 1, 1) := by decide +kernel
theorem dX12_meets_33 : decode cX12_meets 33 = .ok (.goto 4, 3) := by decide +kernel
theorem dX12_meets_36 : decode cX12_meets 36 = .ok (.iconst 0, 1) := by decide +kernel
theorem dX12_meets_37 : decode cX12_meets 37 = .ok (.istore 4, 2) := by decide +kernel
theorem dX12_meets_39 : decode cX12_meets 39 = .ok (.aload_n 0, 1) := by decide +kernel
theorem dX12_meets_40 : decode cX12_meets 40 = .ok (.iload_n 1, 1) := by decide +kernel
theorem dX12_meets_41 : decode cX12_meets 41 = .ok (.iload_n 2, 1) := by decide +kernel
theorem dX12_meets_42 : decode cX12_meets 42 = .ok (.iload_n 3, 1) := by decide +kernel
theorem dX12_meets_43 : decode cX12_meets 43 = .ok (.invokevirtual 137, 3) := by decide +kernel
theorem dX12_meets_46 : decode cX12_meets 46 = .ok (.aload_n 0, 1) := by decide +kernel
theorem dX12_meets_47 : decode cX12_meets 47 = .ok (.iload_n 2, 1) := by decide +kernel
theorem dX12_meets_48 : decode cX12_meets 48 = .ok (.iload_n 1, 1) := by decide +kernel
theorem dX12_meets_49 : decode cX12_meets 49 = .ok (.iload_n 3, 1) := by decide +kernel
theorem dX12_meets_50 : decode cX12_meets 50 = .ok (.invokevirtual 137, 3) := by decide +kernel
theorem dX12_meets_53 : decode cX12_meets 53 = .ok (.iload 4, 2) := by decide +kernel
theorem dX12_meets_55 : decode cX12_meets 55 = .ok (.ireturn, 1) := by decide +kernel
theorem dX12_worth_0 : decode cX12_worth 0 = .ok (.iload_n 1, 1) := by decide +kernel
theorem dX12_worth_1 : decode cX12_worth 1 = .ok (.invokestatic 80, 3) := by decide +kernel
theorem dX12_worth_4 : decode cX12_worth 4 = .ok (.ifCond .eq 27, 3) := by decide +kernel
theorem dX12_worth_7 : decode cX12_worth 7 = .ok (.iload_n 2, 1) := by decide +kernel
theorem dX12_worth_8 : decode cX12_worth 8 = .ok (.i2l, 1) := by decide +kernel
theorem dX12_worth_9 : decode cX12_worth 9 = .ok (.lconst 0, 1) := by decide +kernel
theorem dX12_worth_10 : decode cX12_worth 10 = .ok (.ldc2_w 141, 3) := by decide +kernel
theorem dX12_worth_13 : decode cX12_worth 13 = .ok (.invokestatic 68, 3) := by decide +kernel
theorem dX12_worth_16 : decode cX12_worth 16 = .ok (.ifCond .eq 15, 3) := by decide +kernel
theorem dX12_worth_19 : decode cX12_worth 19 = .ok (.aload_n 0, 1) := by decide +kernel
theorem dX12_worth_20 : decode cX12_worth 20 = .ok (.bipush 6, 2) := by decide +kernel
theorem dX12_worth_22 : decode cX12_worth 22 = .ok (.iload_n 1, 1) := by decide +kernel
theorem dX12_worth_23 : decode cX12_worth 23 = .ok (.iadd, 1) := by decide +kernel
theorem dX12_worth_24 : decode cX12_worth 24 = .ok (.iload_n 2, 1) := by decide +kernel
theorem dX12_worth_25 : decode cX12_worth 25 = .ok (.invokevirtual 131, 3) := by decide +kernel
theorem dX12_worth_28 : decode cX12_worth 28 = .ok (.goto 4, 3) := by decide +kernel
theorem dX12_worth_31 : decode cX12_worth 31 = .ok (.iconst (-1), 1) := by decide +kernel
theorem dX12_worth_32 : decode cX12_worth 32 = .ok (.ireturn, 1) := by decide +kernel
theorem dX12_jar_0 : decode cX12_jar 0 = .ok (.iload_n 1, 1) := by decide +kernel
theorem dX12_jar_1 : decode cX12_jar 1 = .ok (.invokestatic 80, 3) := by decide +kernel
theorem dX12_jar_4 : decode cX12_jar 4 = .ok (.ifCond .eq 27, 3) := by decide +kernel
theorem dX12_jar_7 : decode cX12_jar 7 = .ok (.iload_n 2, 1) := by decide +kernel
theorem dX12_jar_8 : decode cX12_jar 8 = .ok (.i2l, 1) := by decide +kernel
theorem dX12_jar_9 : decode cX12_jar 9 = .ok (.lconst 0, 1) := by decide +kernel
theorem dX12_jar_10 : decode cX12_jar 10 = .ok (.ldc2_w 143, 3) := by decide +kernel
theorem dX12_jar_13 : decode cX12_jar 13 = .ok (.invokestatic 68, 3) := by decide +kernel
theorem dX12_jar_16 : decode cX12_jar 16 = .ok (.ifCond .eq 15, 3) := by decide +kernel
theorem dX12_jar_19 : decode cX12_jar 19 = .ok (.aload_n 0, 1) := by decide +kernel
theorem dX12_jar_20 : decode cX12_jar 20 = .ok (.bipush 14, 2) := by decide +kernel
theorem dX12_jar_22 : decode cX12_jar 22 = .ok (.iload_n 1, 1) := by decide +kernel
theorem dX12_jar_23 : decode cX12_jar 23 = .ok (.iadd, 1) := by decide +kernel
theorem dX12_jar_24 : decode cX12_jar 24 = .ok (.iload_n 2, 1) := by decide +kernel
theorem dX12_jar_25 : decode cX12_jar 25 = .ok (.invokevirtual 131, 3) := by decide +kernel
theorem dX12_jar_28 : decode cX12_jar 28 = .ok (.goto 4, 3) := by decide +kernel
theorem dX12_jar_31 : decode cX12_jar 31 = .ok (.iconst (-1), 1) := by decide +kernel
theorem dX12_jar_32 : decode cX12_jar 32 = .ok (.ireturn, 1) := by decide +kernel
theorem dX12_fee_0 : decode cX12_fee 0 = .ok (.iload_n 1, 1) := by decide +kernel
theorem dX12_fee_1 : decode cX12_fee 1 = .ok (.i2l, 1) := by decide +kernel
theorem dX12_fee_2 : decode cX12_fee 2 = .ok (.lconst 0, 1) := by decide +kernel
theorem dX12_fee_3 : decode cX12_fee 3 = .ok (.ldc2_w 145, 3) := by decide +kernel
theorem dX12_fee_6 : decode cX12_fee 6 = .ok (.invokestatic 68, 3) := by decide +kernel
theorem dX12_fee_9 : decode cX12_fee 9 = .ok (.ifCond .eq 12, 3) := by decide +kernel
theorem dX12_fee_12 : decode cX12_fee 12 = .ok (.aload_n 0, 1) := by decide +kernel
theorem dX12_fee_13 : decode cX12_fee 13 = .ok (.iconst 2, 1) := by decide +kernel
theorem dX12_fee_14 : decode cX12_fee 14 = .ok (.iload_n 1, 1) := by decide +kernel
theorem dX12_fee_15 : decode cX12_fee 15 = .ok (.invokevirtual 131, 3) := by decide +kernel
theorem dX12_fee_18 : decode cX12_fee 18 = .ok (.goto 4, 3) := by decide +kernel
theorem dX12_fee_21 : decode cX12_fee 21 = .ok (.iconst (-1), 1) := by decide +kernel
theorem dX12_fee_22 : decode cX12_fee 22 = .ok (.ireturn, 1) := by decide +kernel
theorem dX12_whoWith_0 : decode cX12_whoWith 0 = .ok (.iconst 0, 1) := by decide +kernel
theorem dX12_whoWith_1 : decode cX12_whoWith 1 = .ok (.istore_n 3, 1) := by decide +kernel
theorem dX12_whoWith_2 : decode cX12_whoWith 2 = .ok (.iconst 0, 1) := by decide +kernel
theorem dX12_whoWith_3 : decode cX12_whoWith 3 = .ok (.istore 4, 2) := by decide +kernel
theorem dX12_whoWith_5 : decode cX12_whoWith 5 = .ok (.iload 4, 2) := by decide +kernel
theorem dX12_whoWith_7 : decode cX12_whoWith 7 = .ok (.aload_n 0, 1) := by decide +kernel
theorem dX12_whoWith_8 : decode cX12_whoWith 8 = .ok (.getfield 7, 3) := by decide +kernel
theorem dX12_whoWith_11 : decode cX12_whoWith 11 = .ok (.iconst 0, 1) := by decide +kernel
theorem dX12_whoWith_12 : decode cX12_whoWith 12 = .ok (.iaload, 1) := by decide +kernel
theorem dX12_whoWith_13 : decode cX12_whoWith 13 = .ok (.if_icmp .ge 31, 3) := by decide +kernel
theorem dX12_whoWith_16 : decode cX12_whoWith 16 = .ok (.iload_n 3, 1) := by decide +kernel
theorem dX12_whoWith_17 : decode cX12_whoWith 17 = .ok (.aload_n 0, 1) := by decide +kernel
theorem dX12_whoWith_18 : decode cX12_whoWith 18 = .ok (.iload 4, 2) := by decide +kernel
theorem dX12_whoWith_20 : decode cX12_whoWith 20 = .ok (.iload_n 1, 1) := by decide +kernel
theorem dX12_whoWith_21 : decode cX12_whoWith 21 = .ok (.invokevirtual 93, 3) := by decide +kernel
theorem dX12_whoWith_24 : decode cX12_whoWith 24 = .ok (.iload_n 2, 1) := by decide +kernel
theorem dX12_whoWith_25 : decode cX12_whoWith 25 = .ok (.if_icmp .ne 10, 3) := by decide +kernel
theorem dX12_whoWith_28 : decode cX12_whoWith 28 = .ok (.iconst 1, 1) := by decide +kernel
theorem dX12_whoWith_29 : decode cX12_whoWith 29 = .ok (.iload 4, 2) := by decide +kernel
theorem dX12_whoWith_31 : decode cX12_whoWith 31 = .ok (.ishl, 1) := by decide +kernel
theorem dX12_whoWith_32 : decode cX12_whoWith 32 = .ok (.goto 4, 3) := by decide +kernel
theorem dX12_whoWith_35 : decode cX12_whoWith 35 = .ok (.iconst 0, 1) := by decide +kernel
theorem dX12_whoWith_36 : decode cX12_whoWith 36 = .ok (.ior, 1) := by decide +kernel
theorem dX12_whoWith_37 : decode cX12_whoWith 37 = .ok (.istore_n 3, 1) := by decide +kernel
theorem dX12_whoWith_38 : decode cX12_whoWith 38 = .ok (.iinc 4 1, 3) := by decide +kernel
theorem dX12_whoWith_41 : decode cX12_whoWith 41 = .ok (.goto (-36), 3) := by decide +kernel
theorem dX12_whoWith_44 : decode cX12_whoWith 44 = .ok (.iload_n 3, 1) := by decide +kernel
theorem dX12_whoWith_45 : decode cX12_whoWith 45 = .ok (.ireturn, 1) := by decide +kernel
theorem dX12_thing_0 : decode cX12_thing 0 = .ok (.iload_n 1, 1) := by decide +kernel
theorem dX12_thing_1 : decode cX12_thing 1 = .ok (.invokestatic 80, 3) := by decide +kernel
theorem dX12_thing_4 : decode cX12_thing 4 = .ok (.ifCond .ne 5, 3) := by decide +kernel
theorem dX12_thing_7 : decode cX12_thing 7 = .ok (.iconst (-1), 1) := by decide +kernel
theorem dX12_thing_8 : decode cX12_thing 8 = .ok (.ireturn, 1) := by decide +kernel
theorem dX12_thing_9 : decode cX12_thing 9 = .ok (.iload_n 2, 1) := by decide +kernel
theorem dX12_thing_10 : decode cX12_thing 10 = .ok (.tableswitch 64 0 3 #[30, 40, 50, 57], 30) := by decide +kernel
theorem dX12_thing_40 : decode cX12_thing 40 = .ok (.aload_n 0, 1) := by decide +kernel
theorem dX12_thing_41 : decode cX12_thing 41 = .ok (.getfield 7, 3) := by decide +kernel
theorem dX12_thing_44 : decode cX12_thing 44 = .ok (.bipush 6, 2) := by decide +kernel
theorem dX12_thing_46 : decode cX12_thing 46 = .ok (.iload_n 1, 1) := by decide +kernel
theorem dX12_thing_47 : decode cX12_thing 47 = .ok (.iadd, 1) := by decide +kernel
theorem dX12_thing_48 : decode cX12_thing 48 = .ok (.iaload, 1) := by decide +kernel
theorem dX12_thing_49 : decode cX12_thing 49 = .ok (.ireturn, 1) := by decide +kernel
theorem dX12_thing_50 : decode cX12_thing 50 = .ok (.aload_n 0, 1) := by decide +kernel
theorem dX12_thing_51 : decode cX12_thing 51 = .ok (.getfield 7, 3) := by decide +kernel
theorem dX12_thing_54 : decode cX12_thing 54 = .ok (.bipush 14, 2) := by decide +kernel
theorem dX12_thing_56 : decode cX12_thing 56 = .ok (.iload_n 1, 1) := by decide +kernel
theorem dX12_thing_57 : decode cX12_thing 57 = .ok (.iadd, 1) := by decide +kernel
theorem dX12_thing_58 : decode cX12_thing 58 = .ok (.iaload, 1) := by decide +kernel
theorem dX12_thing_59 : decode cX12_thing 59 = .ok (.ireturn, 1) := by decide +kernel
theorem dX12_thing_60 : decode cX12_thing 60 = .ok (.aload_n 0, 1) := by decide +kernel
theorem dX12_thing_61 : decode cX12_thing 61 = .ok (.iconst 1, 1) := by decide +kernel
theorem dX12_thing_62 : decode cX12_thing 62 = .ok (.iload_n 1, 1) := by decide +kernel
theorem dX12_thing_63 : decode cX12_thing 63 = .ok (.invokevirtual 147, 3) := by decide +kernel
theorem dX12_thing_66 : decode cX12_thing 66 = .ok (.ireturn, 1) := by decide +kernel
theorem dX12_thing_67 : decode cX12_thing 67 = .ok (.aload_n 0, 1) := by decide +kernel
theorem dX12_thing_68 : decode cX12_thing 68 = .ok (.iconst 2, 1) := by decide +kernel
theorem dX12_thing_69 : decode cX12_thing 69 = .ok (.iload_n 1, 1) := by decide +kernel
theorem dX12_thing_70 : decode cX12_thing 70 = .ok (.invokevirtual 147, 3) := by decide +kernel
theorem dX12_thing_73 : decode cX12_thing 73 = .ok (.ireturn, 1) := by decide +kernel
theorem dX12_thing_74 : decode cX12_thing 74 = .ok (.iconst (-1), 1) := by decide +kernel
theorem dX12_thing_75 : decode cX12_thing 75 = .ok (.ireturn, 1) := by decide +kernel
theorem dX12_state_0 : decode cX12_state 0 = .ok (.iload_n 1, 1) := by decide +kernel
theorem dX12_state_1 : decode cX12_state 1 = .ok (.tableswitch 55 0 3 #[31, 36, 41, 48], 31) := by decide +kernel
theorem dX12_state_32 : decode cX12_state 32 = .ok (.aload_n 0, 1) := by decide +kernel
theorem dX12_state_33 : decode cX12_state 33 = .ok (.invokevirtual 99, 3) := by decide +kernel
theorem dX12_state_36 : decode cX12_state 36 = .ok (.ireturn, 1) := by decide +kernel
theorem dX12_state_37 : decode cX12_state 37 = .ok (.aload_n 0, 1) := by decide +kernel
theorem dX12_state_38 : decode cX12_state 38 = .ok (.invokevirtual 150, 3) := by decide +kernel
theorem dX12_state_41 : decode cX12_state 41 = .ok (.ireturn, 1) := by decide +kernel
theorem dX12_state_42 : decode cX12_state 42 = .ok (.aload_n 0, 1) := by decide +kernel
theorem dX12_state_43 : decode cX12_state 43 = .ok (.getfield 7, 3) := by decide +kernel
theorem dX12_state_46 : decode cX12_state 46 = .ok (.iconst 2, 1) := by decide +kernel
theorem dX12_state_47 : decode cX12_state 47 = .ok (.iaload, 1) := by decide +kernel
theorem dX12_state_48 : decode cX12_state 48 = .ok (.ireturn, 1) := by decide +kernel
theorem dX12_state_49 : decode cX12_state 49 = .ok (.aload_n 0, 1) := by decide +kernel
theorem dX12_state_50 : decode cX12_state 50 = .ok (.getfield 7, 3) := by decide +kernel
theorem dX12_state_53 : decode cX12_state 53 = .ok (.iconst 4, 1) := by decide +kernel
theorem dX12_state_54 : decode cX12_state 54 = .ok (.iaload, 1) := by decide +kernel
theorem dX12_state_55 : decode cX12_state 55 = .ok (.ireturn, 1) := by decide +kernel
theorem dX12_state_56 : decode cX12_state 56 = .ok (.iconst (-1), 1) := by decide +kernel
theorem dX12_state_57 : decode cX12_state 57 = .ok (.ireturn, 1) := by decide +kernel
theorem dX12_isChange_0 : decode cX12_isChange 0 = .ok (.aload_n 0, 1) := by decide +kernel
theorem dX12_isChange_1 : decode cX12_isChange 1 = .ok (.iload_n 1, 1) := by decide +kernel
theorem dX12_isChange_2 : decode cX12_isChange 2 = .ok (.invokevirtual 123, 3) := by decide +kernel
theorem dX12_isChange_5 : decode cX12_isChange 5 = .ok (.ifCond .eq 26, 3) := by decide +kernel
theorem dX12_isChange_8 : decode cX12_isChange 8 = .ok (.iload_n 2, 1) := by decide +kernel
theorem dX12_isChange_9 : decode cX12_isChange 9 = .ok (.bipush 9, 2) := by decide +kernel
theorem dX12_isChange_11 : decode cX12_isChange 11 = .ok (.if_icmp .eq 16, 3) := by decide +kernel
theorem dX12_isChange_14 : decode cX12_isChange 14 = .ok (.iload_n 2, 1) := by decide +kernel
theorem dX12_isChange_15 : decode cX12_isChange 15 = .ok (.iload_n 1, 1) := by decide +kernel
theorem dX12_isChange_16 : decode cX12_isChange 16 = .ok (.if_icmp .le 15, 3) := by decide +kernel
theorem dX12_isChange_19 : decode cX12_isChange 19 = .ok (.aload_n 0, 1) := by decide +kernel
theorem dX12_isChange_20 : decode cX12_isChange 20 = .ok (.iload_n 2, 1) := by decide +kernel
theorem dX12_isChange_21 : decode cX12_isChange 21 = .ok (.invokevirtual 123, 3) := by decide +kernel
theorem dX12_isChange_24 : decode cX12_isChange 24 = .ok (.ifCond .eq 7, 3) := by decide +kernel
theorem dX12_isChange_27 : decode cX12_isChange 27 = .ok (.iconst 1, 1) := by decide +kernel
theorem dX12_isChange_28 : decode cX12_isChange 28 = .ok (.goto 4, 3) := by decide +kernel
theorem dX12_isChange_31 : decode cX12_isChange 31 = .ok (.iconst 0, 1) := by decide +kernel
theorem dX12_isChange_32 : decode cX12_isChange 32 = .ok (.ireturn, 1) := by decide +kernel
theorem dX12_isNumber_0 : decode cX12_isNumber 0 = .ok (.iload_n 1, 1) := by decide +kernel
theorem dX12_isNumber_1 : decode cX12_isNumber 1 = .ok (.ifCond .lt 22, 3) := by decide +kernel
theorem dX12_isNumber_4 : decode cX12_isNumber 4 = .ok (.aload_n 0, 1) := by decide +kernel
theorem dX12_isNumber_5 : decode cX12_isNumber 5 = .ok (.iload_n 1, 1) := by decide +kernel
theorem dX12_isNumber_6 : decode cX12_isNumber 6 = .ok (.bipush 10, 2) := by decide +kernel
theorem dX12_isNumber_8 : decode cX12_isNumber 8 = .ok (.idiv, 1) := by decide +kernel
theorem dX12_isNumber_9 : decode cX12_isNumber 9 = .ok (.iload_n 1, 1) := by decide +kernel
theorem dX12_isNumber_10 : decode cX12_isNumber 10 = .ok (.bipush 10, 2) := by decide +kernel
theorem dX12_isNumber_12 : decode cX12_isNumber 12 = .ok (.irem, 1) := by decide +kernel
theorem dX12_isNumber_13 : decode cX12_isNumber 13 = .ok (.invokevirtual 153, 3) := by decide +kernel
theorem dX12_isNumber_16 : decode cX12_isNumber 16 = .ok (.ifCond .eq 7, 3) := by decide +kernel
theorem dX12_isNumber_19 : decode cX12_isNumber 19 = .ok (.iconst 1, 1) := by decide +kernel
theorem dX12_isNumber_20 : decode cX12_isNumber 20 = .ok (.goto 4, 3) := by decide +kernel
theorem dX12_isNumber_23 : decode cX12_isNumber 23 = .ok (.iconst 0, 1) := by decide +kernel
theorem dX12_isNumber_24 : decode cX12_isNumber 24 = .ok (.ireturn, 1) := by decide +kernel
theorem dX12_isThere_0 : decode cX12_isThere 0 = .ok (.iload_n 1, 1) := by decide +kernel
theorem dX12_isThere_1 : decode cX12_isThere 1 = .ok (.aload_n 0, 1) := by decide +kernel
theorem dX12_isThere_2 : decode cX12_isThere 2 = .ok (.getfield 19, 3) := by decide +kernel
theorem dX12_isThere_5 : decode cX12_isThere 5 = .ok (.if_icmp .eq 15, 3) := by decide +kernel
theorem dX12_isThere_8 : decode cX12_isThere 8 = .ok (.aload_n 0, 1) := by decide +kernel
theorem dX12_isThere_9 : decode cX12_isThere 9 = .ok (.iload_n 1, 1) := by decide +kernel
theorem dX12_isThere_10 : decode cX12_isThere 10 = .ok (.invokevirtual 96, 3) := by decide +kernel
theorem dX12_isThere_13 : decode cX12_isThere 13 = .ok (.ifCond .ne 7, 3) := by decide +kernel
theorem dX12_isThere_16 : decode cX12_isThere 16 = .ok (.iconst 1, 1) := by decide +kernel
theorem dX12_isThere_17 : decode cX12_isThere 17 = .ok (.goto 4, 3) := by decide +kernel
theorem dX12_isThere_20 : decode cX12_isThere 20 = .ok (.iconst 0, 1) := by decide +kernel
theorem dX12_isThere_21 : decode cX12_isThere 21 = .ok (.ireturn, 1) := by decide +kernel
theorem dX12_canBe_0 : decode cX12_canBe 0 = .ok (.iload_n 1, 1) := by decide +kernel
theorem dX12_canBe_1 : decode cX12_canBe 1 = .ok (.bipush 10, 2) := by decide +kernel
theorem dX12_canBe_3 : decode cX12_canBe 3 = .ok (.idiv, 1) := by decide +kernel
theorem dX12_canBe_4 : decode cX12_canBe 4 = .ok (.istore_n 2, 1) := by decide +kernel
theorem dX12_canBe_5 : decode cX12_canBe 5 = .ok (.iload_n 1, 1) := by decide +kernel
theorem dX12_canBe_6 : decode cX12_canBe 6 = .ok (.bipush 10, 2) := by decide +kernel
theorem dX12_canBe_8 : decode cX12_canBe 8 = .ok (.irem, 1) := by decide +kernel
theorem dX12_canBe_9 : decode cX12_canBe 9 = .ok (.istore_n 3, 1) := by decide +kernel
theorem dX12_canBe_10 : decode cX12_canBe 10 = .ok (.aload_n 0, 1) := by decide +kernel
theorem dX12_canBe_11 : decode cX12_canBe 11 = .ok (.iload_n 2, 1) := by decide +kernel
theorem dX12_canBe_12 : decode cX12_canBe 12 = .ok (.invokevirtual 156, 3) := by decide +kernel
theorem dX12_canBe_15 : decode cX12_canBe 15 = .ok (.ifCond .ne 5, 3) := by decide +kernel
theorem dX12_canBe_18 : decode cX12_canBe 18 = .ok (.iconst 0, 1) := by decide +kernel
theorem dX12_canBe_19 : decode cX12_canBe 19 = .ok (.ireturn, 1) := by decide +kernel
theorem dX12_canBe_20 : decode cX12_canBe 20 = .ok (.iload_n 3, 1) := by decide +kernel
theorem dX12_canBe_21 : decode cX12_canBe 21 = .ok (.bipush 9, 2) := by decide +kernel
theorem dX12_canBe_23 : decode cX12_canBe 23 = .ok (.if_icmp .ne 59, 3) := by decide +kernel
theorem dX12_canBe_26 : decode cX12_canBe 26 = .ok (.aload_n 0, 1) := by decide +kernel
theorem dX12_canBe_27 : decode cX12_canBe 27 = .ok (.getfield 7, 3) := by decide +kernel
theorem dX12_canBe_30 : decode cX12_canBe 30 = .ok (.bipush 14, 2) := by decide +kernel
theorem dX12_canBe_32 : decode cX12_canBe 32 = .ok (.aload_n 0, 1) := by decide +kernel
theorem dX12_canBe_33 : decode cX12_canBe 33 = .ok (.iload_n 2, 1) := by decide +kernel
theorem dX12_canBe_34 : decode cX12_canBe 34 = .ok (.iconst 2, 1) := by decide +kernel
theorem dX12_canBe_35 : decode cX12_canBe 35 = .ok (.invokevirtual 93, 3) := by decide +kernel
theorem dX12_canBe_38 : decode cX12_canBe 38 = .ok (.iadd, 1) := by decide +kernel
theorem dX12_canBe_39 : decode cX12_canBe 39 = .ok (.iaload, 1) := by decide +kernel
theorem dX12_canBe_40 : decode cX12_canBe 40 = .ok (.ifCond .le 40, 3) := by decide +kernel
theorem dX12_canBe_43 : decode cX12_canBe 43 = .ok (.aload_n 0, 1) := by decide +kernel
theorem dX12_canBe_44 : decode cX12_canBe 44 = .ok (.getfield 7, 3) := by decide +kernel
theorem dX12_canBe_47 : decode cX12_canBe 47 = .ok (.bipush 14, 2) := by decide +kernel
theorem dX12_canBe_49 : decode cX12_canBe 49 = .ok (.aload_n 0, 1) := by decide +kernel
theorem dX12_canBe_50 : decode cX12_canBe 50 = .ok (.iload_n 2, 1) := by decide +kernel
theorem dX12_canBe_51 : decode cX12_canBe 51 = .ok (.iconst 1, 1) := by decide +kernel
theorem dX12_canBe_52 : decode cX12_canBe 52 = .ok (.invokevirtual 93, 3) := by decide +kernel
theorem dX12_canBe_55 : decode cX12_canBe 55 = .ok (.iadd, 1) := by decide +kernel
theorem dX12_canBe_56 : decode cX12_canBe 56 = .ok (.iaload, 1) := by decide +kernel
theorem dX12_canBe_57 : decode cX12_canBe 57 = .ok (.bipush 99, 2) := by decide +kernel
theorem dX12_canBe_59 : decode cX12_canBe 59 = .ok (.if_icmp .ge 21, 3) := by decide +kernel
theorem dX12_canBe_62 : decode cX12_canBe 62 = .ok (.aload_n 0, 1) := by decide +kernel
theorem dX12_canBe_63 : decode cX12_canBe 63 = .ok (.iload_n 2, 1) := by decide +kernel
theorem dX12_canBe_64 : decode cX12_canBe 64 = .ok (.iconst 3, 1) := by decide +kernel
theorem dX12_canBe_65 : decode cX12_canBe 65 = .ok (.invokevirtual 93, 3) := by decide +kernel
theorem dX12_canBe_68 : decode cX12_canBe 68 = .ok (.aload_n 0, 1) := by decide +kernel
theorem dX12_canBe_69 : decode cX12_canBe 69 = .ok (.iload_n 2, 1) := by decide +kernel
theorem dX12_canBe_70 : decode cX12_canBe 70 = .ok (.invokevirtual 128, 3) := by decide +kernel
theorem dX12_canBe_73 : decode cX12_canBe 73 = .ok (.if_icmp .lt 7, 3) := by decide +kernel
theorem dX12_canBe_76 : decode cX12_canBe 76 = .ok (.iconst 1, 1) := by decide +kernel
theorem dX12_canBe_77 : decode cX12_canBe 77 = .ok (.goto 4, 3) := by decide +kernel
theorem dX12_canBe_80 : decode cX12_canBe 80 = .ok (.iconst 0, 1) := by decide +kernel
theorem dX12_canBe_81 : decode cX12_canBe 81 = .ok (.ireturn, 1) := by decide +kernel
theorem dX12_canBe_82 : decode cX12_canBe 82 = .ok (.aload_n 0, 1) := by decide +kernel
theorem dX12_canBe_83 : decode cX12_canBe 83 = .ok (.iload_n 3, 1) := by decide +kernel
theorem dX12_canBe_84 : decode cX12_canBe 84 = .ok (.invokevirtual 156, 3) := by decide +kernel
theorem dX12_canBe_87 : decode cX12_canBe 87 = .ok (.ifCond .eq 46, 3) := by decide +kernel
theorem dX12_canBe_90 : decode cX12_canBe 90 = .ok (.aload_n 0, 1) := by decide +kernel
theorem dX12_canBe_91 : decode cX12_canBe 91 = .ok (.iload_n 2, 1) := by decide +kernel
theorem dX12_canBe_92 : decode cX12_canBe 92 = .ok (.iload_n 3, 1) := by decide +kernel
theorem dX12_canBe_93 : decode cX12_canBe 93 = .ok (.invokevirtual 134, 3) := by decide +kernel
theorem dX12_canBe_96 : decode cX12_canBe 96 = .ok (.ifCond .eq 37, 3) := by decide +kernel
theorem dX12_canBe_99 : decode cX12_canBe 99 = .ok (.aload_n 0, 1) := by decide +kernel
theorem dX12_canBe_100 : decode cX12_canBe 100 = .ok (.iload_n 2, 1) := by decide +kernel
theorem dX12_canBe_101 : decode cX12_canBe 101 = .ok (.iconst 1, 1) := by decide +kernel
theorem dX12_canBe_102 : decode cX12_canBe 102 = .ok (.invokevirtual 93, 3) := by decide +kernel
theorem dX12_canBe_105 : decode cX12_canBe 105 = .ok (.aload_n 0, 1) := by decide +kernel
theorem dX12_canBe_106 : decode cX12_canBe 106 = .ok (.iload_n 3, 1) := by decide +kernel
theorem dX12_canBe_107 : decode cX12_canBe 107 = .ok (.iconst 2, 1) := by decide +kernel
theorem dX12_canBe_108 : decode cX12_canBe 108 = .ok (.invokevirtual 93, 3) := by decide +kernel
theorem dX12_canBe_111 : decode cX12_canBe 111 = .ok (.if_icmp .eq 18, 3) := by decide +kernel
theorem dX12_canBe_114 : decode cX12_canBe 114 = .ok (.aload_n 0, 1) := by decide +kernel
theorem dX12_canBe_115 : decode cX12_canBe 115 = .ok (.iload_n 3, 1) := by decide +kernel
theorem dX12_canBe_116 : decode cX12_canBe 116 = .ok (.iconst 1, 1) := by decide +kernel
theorem dX12_canBe_117 : decode cX12_canBe 117 = .ok (.invokevirtual 93, 3) := by decide +kernel
theorem dX12_canBe_120 : decode cX12_canBe 120 = .ok (.aload_n 0, 1) := by decide +kernel
theorem dX12_canBe_121 : decode cX12_canBe 121 = .ok (.iload_n 2, 1) := by decide +kernel
theorem dX12_canBe_122 : decode cX12_canBe 122 = .ok (.iconst 2, 1) := by decide +kernel
theorem dX12_canBe_123 : decode cX12_canBe 123 = .ok (.invokevirtual 93, 3) := by decide +kernel
theorem dX12_canBe_126 : decode cX12_canBe 126 = .ok (.if_icmp .ne 7, 3) := by decide +kernel
theorem dX12_canBe_129 : decode cX12_canBe 129 = .ok (.iconst 1, 1) := by decide +kernel
theorem dX12_canBe_130 : decode cX12_canBe 130 = .ok (.goto 4, 3) := by decide +kernel
theorem dX12_canBe_133 : decode cX12_canBe 133 = .ok (.iconst 0, 1) := by decide +kernel
theorem dX12_canBe_134 : decode cX12_canBe 134 = .ok (.ireturn, 1) := by decide +kernel
theorem dX12_nextChange_0 : decode cX12_nextChange 0 = .ok (.bipush 10, 2) := by decide +kernel
theorem dX12_nextChange_2 : decode cX12_nextChange 2 = .ok (.aload_n 0, 1) := by decide +kernel
theorem dX12_nextChange_3 : decode cX12_nextChange 3 = .ok (.getfield 7, 3) := by decide +kernel
theorem dX12_nextChange_6 : decode cX12_nextChange 6 = .ok (.iconst 0, 1) := by decide +kernel
theorem dX12_nextChange_7 : decode cX12_nextChange 7 = .ok (.iaload, 1) := by decide +kernel
theorem dX12_nextChange_8 : decode cX12_nextChange 8 = .ok (.imul, 1) := by decide +kernel
theorem dX12_nextChange_9 : decode cX12_nextChange 9 = .ok (.istore_n 2, 1) := by decide +kernel
theorem dX12_nextChange_10 : decode cX12_nextChange 10 = .ok (.iload_n 1, 1) := by decide +kernel
theorem dX12_nextChange_11 : decode cX12_nextChange 11 = .ok (.iconst 1, 1) := by decide +kernel
theorem dX12_nextChange_12 : decode cX12_nextChange 12 = .ok (.iadd, 1) := by decide +kernel
theorem dX12_nextChange_13 : decode cX12_nextChange 13 = .ok (.istore_n 3, 1) := by decide +kernel
theorem dX12_nextChange_14 : decode cX12_nextChange 14 = .ok (.iload_n 1, 1) := by decide +kernel
theorem dX12_nextChange_15 : decode cX12_nextChange 15 = .ok (.iload_n 2, 1) := by decide +kernel
theorem dX12_nextChange_16 : decode cX12_nextChange 16 = .ok (.if_icmp .ge 32, 3) := by decide +kernel
theorem dX12_nextChange_19 : decode cX12_nextChange 19 = .ok (.iload_n 3, 1) := by decide +kernel
theorem dX12_nextChange_20 : decode cX12_nextChange 20 = .ok (.iload_n 2, 1) := by decide +kernel
theorem dX12_nextChange_21 : decode cX12_nextChange 21 = .ok (.if_icmp .ge 27, 3) := by decide +kernel
theorem dX12_nextChange_24 : decode cX12_nextChange 24 = .ok (.aload_n 0, 1) := by decide +kernel
theorem dX12_nextChange_25 : decode cX12_nextChange 25 = .ok (.iload_n 3, 1) := by decide +kernel
theorem dX12_nextChange_26 : decode cX12_nextChange 26 = .ok (.invokevirtual 159, 3) := by decide +kernel
theorem dX12_nextChange_29 : decode cX12_nextChange 29 = .ok (.ifCond .eq 13, 3) := by decide +kernel
theorem dX12_nextChange_32 : decode cX12_nextChange 32 = .ok (.aload_n 0, 1) := by decide +kernel
theorem dX12_nextChange_33 : decode cX12_nextChange 33 = .ok (.iload_n 3, 1) := by decide +kernel
theorem dX12_nextChange_34 : decode cX12_nextChange 34 = .ok (.invokevirtual 162, 3) := by decide +kernel
theorem dX12_nextChange_37 : decode cX12_nextChange 37 = .ok (.ifCond .eq 5, 3) := by decide +kernel
theorem dX12_nextChange_40 : decode cX12_nextChange 40 = .ok (.iload_n 3, 1) := by decide +kernel
theorem dX12_nextChange_41 : decode cX12_nextChange 41 = .ok (.ireturn, 1) := by decide +kernel
theorem dX12_nextChange_42 : decode cX12_nextChange 42 = .ok (.iinc 3 1, 3) := by decide +kernel
theorem dX12_nextChange_45 : decode cX12_nextChange 45 = .ok (.goto (-31), 3) := by decide +kernel
theorem dX12_nextChange_48 : decode cX12_nextChange 48 = .ok (.iconst (-1), 1) := by decide +kernel
theorem dX12_nextChange_49 : decode cX12_nextChange 49 = .ok (.ireturn, 1) := by decide +kernel
theorem dX12_swaps_0 : decode cX12_swaps 0 = .ok (.aload_n 0, 1) := by decide +kernel
theorem dX12_swaps_1 : decode cX12_swaps 1 = .ok (.iload_n 1, 1) := by decide +kernel
theorem dX12_swaps_2 : decode cX12_swaps 2 = .ok (.iconst 1, 1) := by decide +kernel
theorem dX12_swaps_3 : decode cX12_swaps 3 = .ok (.invokevirtual 93, 3) := by decide +kernel
theorem dX12_swaps_6 : decode cX12_swaps 6 = .ok (.istore_n 3, 1) := by decide +kernel
theorem dX12_swaps_7 : decode cX12_swaps 7 = .ok (.aload_n 0, 1) := by decide +kernel
theorem dX12_swaps_8 : decode cX12_swaps 8 = .ok (.getfield 7, 3) := by decide +kernel
theorem dX12_swaps_11 : decode cX12_swaps 11 = .ok (.iload_n 1, 1) := by decide +kernel
theorem dX12_swaps_12 : decode cX12_swaps 12 = .ok (.iconst 1, 1) := by decide +kernel
theorem dX12_swaps_13 : decode cX12_swaps 13 = .ok (.invokestatic 74, 3) := by decide +kernel
theorem dX12_swaps_16 : decode cX12_swaps 16 = .ok (.aload_n 0, 1) := by decide +kernel
theorem dX12_swaps_17 : decode cX12_swaps 17 = .ok (.iload_n 2, 1) := by decide +kernel
theorem dX12_swaps_18 : decode cX12_swaps 18 = .ok (.iconst 1, 1) := by decide +kernel
theorem dX12_swaps_19 : decode cX12_swaps 19 = .ok (.invokevirtual 93, 3) := by decide +kernel
theorem dX12_swaps_22 : decode cX12_swaps 22 = .ok (.iastore, 1) := by decide +kernel
theorem dX12_swaps_23 : decode cX12_swaps 23 = .ok (.aload_n 0, 1) := by decide +kernel
theorem dX12_swaps_24 : decode cX12_swaps 24 = .ok (.getfield 7, 3) := by decide +kernel
theorem dX12_swaps_27 : decode cX12_swaps 27 = .ok (.iload_n 2, 1) := by decide +kernel
theorem dX12_swaps_28 : decode cX12_swaps 28 = .ok (.iconst 1, 1) := by decide +kernel
theorem dX12_swaps_29 : decode cX12_swaps 29 = .ok (.invokestatic 74, 3) := by decide +kernel
theorem dX12_swaps_32 : decode cX12_swaps 32 = .ok (.iload_n 3, 1) := by decide +kernel
theorem dX12_swaps_33 : decode cX12_swaps 33 = .ok (.iastore, 1) := by decide +kernel
theorem dX12_swaps_34 : decode cX12_swaps 34 = .ok (.return_, 1) := by decide +kernel
theorem dX12_does_0 : decode cX12_does 0 = .ok (.iload_n 1, 1) := by decide +kernel
theorem dX12_does_1 : decode cX12_does 1 = .ok (.bipush 10, 2) := by decide +kernel
theorem dX12_does_3 : decode cX12_does 3 = .ok (.idiv, 1) := by decide +kernel
theorem dX12_does_4 : decode cX12_does 4 = .ok (.istore_n 2, 1) := by decide +kernel
theorem dX12_does_5 : decode cX12_does 5 = .ok (.iload_n 1, 1) := by decide +kernel
theorem dX12_does_6 : decode cX12_does 6 = .ok (.bipush 10, 2) := by decide +kernel
theorem dX12_does_8 : decode cX12_does 8 = .ok (.irem, 1) := by decide +kernel
theorem dX12_does_9 : decode cX12_does 9 = .ok (.istore_n 3, 1) := by decide +kernel
theorem dX12_does_10 : decode cX12_does 10 = .ok (.aload_n 0, 1) := by decide +kernel
theorem dX12_does_11 : decode cX12_does 11 = .ok (.aload_n 0, 1) := by decide +kernel
theorem dX12_does_12 : decode cX12_does 12 = .ok (.iload_n 2, 1) := by decide +kernel
theorem dX12_does_13 : decode cX12_does 13 = .ok (.iconst 1, 1) := by decide +kernel
theorem dX12_does_14 : decode cX12_does 14 = .ok (.invokevirtual 93, 3) := by decide +kernel
theorem dX12_does_17 : decode cX12_does 17 = .ok (.putfield 165, 3) := by decide +kernel
theorem dX12_does_20 : decode cX12_does 20 = .ok (.aload_n 0, 1) := by decide +kernel
theorem dX12_does_21 : decode cX12_does 21 = .ok (.iconst 0, 1) := by decide +kernel
theorem dX12_does_22 : decode cX12_does 22 = .ok (.putfield 168, 3) := by decide +kernel
theorem dX12_does_25 : decode cX12_does 25 = .ok (.iload_n 3, 1) := by decide +kernel
theorem dX12_does_26 : decode cX12_does 26 = .ok (.bipush 9, 2) := by decide +kernel
theorem dX12_does_28 : decode cX12_does 28 = .ok (.if_icmp .ne 82, 3) := by decide +kernel
theorem dX12_does_31 : decode cX12_does 31 = .ok (.aload_n 0, 1) := by decide +kernel
theorem dX12_does_32 : decode cX12_does 32 = .ok (.aload_n 0, 1) := by decide +kernel
theorem dX12_does_33 : decode cX12_does 33 = .ok (.iload_n 2, 1) := by decide +kernel
theorem dX12_does_34 : decode cX12_does 34 = .ok (.invokevirtual 128, 3) := by decide +kernel
theorem dX12_does_37 : decode cX12_does 37 = .ok (.putfield 168, 3) := by decide +kernel
theorem dX12_does_40 : decode cX12_does 40 = .ok (.aload_n 0, 1) := by decide +kernel
theorem dX12_does_41 : decode cX12_does 41 = .ok (.getfield 7, 3) := by decide +kernel
theorem dX12_does_44 : decode cX12_does 44 = .ok (.bipush 14, 2) := by decide +kernel
theorem dX12_does_46 : decode cX12_does 46 = .ok (.aload_n 0, 1) := by decide +kernel
theorem dX12_does_47 : decode cX12_does 47 = .ok (.getfield 165, 3) := by decide +kernel
theorem dX12_does_50 : decode cX12_does 50 = .ok (.iadd, 1) := by decide +kernel
theorem dX12_does_51 : decode cX12_does 51 = .ok (.dup2, 1) := by decide +kernel
theorem dX12_does_52 : decode cX12_does 52 = .ok (.iaload, 1) := by decide +kernel
theorem dX12_does_53 : decode cX12_does 53 = .ok (.iconst 1, 1) := by decide +kernel
theorem dX12_does_54 : decode cX12_does 54 = .ok (.iadd, 1) := by decide +kernel
theorem dX12_does_55 : decode cX12_does 55 = .ok (.iastore, 1) := by decide +kernel
theorem dX12_does_56 : decode cX12_does 56 = .ok (.aload_n 0, 1) := by decide +kernel
theorem dX12_does_57 : decode cX12_does 57 = .ok (.getfield 7, 3) := by decide +kernel
theorem dX12_does_60 : decode cX12_does 60 = .ok (.bipush 14, 2) := by decide +kernel
theorem dX12_does_62 : decode cX12_does 62 = .ok (.aload_n 0, 1) := by decide +kernel
theorem dX12_does_63 : decode cX12_does 63 = .ok (.iload_n 2, 1) := by decide +kernel
theorem dX12_does_64 : decode cX12_does 64 = .ok (.iconst 2, 1) := by decide +kernel
theorem dX12_does_65 : decode cX12_does 65 = .ok (.invokevirtual 93, 3) := by decide +kernel
theorem dX12_does_68 : decode cX12_does 68 = .ok (.iadd, 1) := by decide +kernel
theorem dX12_does_69 : decode cX12_does 69 = .ok (.dup2, 1) := by decide +kernel
theorem dX12_does_70 : decode cX12_does 70 = .ok (.iaload, 1) := by decide +kernel
theorem dX12_does_71 : decode cX12_does 71 = .ok (.iconst 1, 1) := by decide +kernel
theorem dX12_does_72 : decode cX12_does 72 = .ok (.isub, 1) := by decide +kernel
theorem dX12_does_73 : decode cX12_does 73 = .ok (.iastore, 1) := by decide +kernel
theorem dX12_does_74 : decode cX12_does 74 = .ok (.aload_n 0, 1) := by decide +kernel
theorem dX12_does_75 : decode cX12_does 75 = .ok (.getfield 7, 3) := by decide +kernel
theorem dX12_does_78 : decode cX12_does 78 = .ok (.iload_n 2, 1) := by decide +kernel
theorem dX12_does_79 : decode cX12_does 79 = .ok (.iconst 1, 1) := by decide +kernel
theorem dX12_does_80 : decode cX12_does 80 = .ok (.invokestatic 74, 3) := by decide +kernel
theorem dX12_does_83 : decode cX12_does 83 = .ok (.aload_n 0, 1) := by decide +kernel
theorem dX12_does_84 : decode cX12_does 84 = .ok (.iload_n 2, 1) := by decide +kernel
theorem dX12_does_85 : decode cX12_does 85 = .ok (.iconst 2, 1) := by decide +kernel
theorem dX12_does_86 : decode cX12_does 86 = .ok (.invokevirtual 93, 3) := by decide +kernel
theorem dX12_does_89 : decode cX12_does 89 = .ok (.iastore, 1) := by decide +kernel
theorem dX12_does_90 : decode cX12_does 90 = .ok (.aload_n 0, 1) := by decide +kernel
theorem dX12_does_91 : decode cX12_does 91 = .ok (.getfield 7, 3) := by decide +kernel
theorem dX12_does_94 : decode cX12_does 94 = .ok (.iload_n 2, 1) := by decide +kernel
theorem dX12_does_95 : decode cX12_does 95 = .ok (.iconst 3, 1) := by decide +kernel
theorem dX12_does_96 : decode cX12_does 96 = .ok (.invokestatic 74, 3) := by decide +kernel
theorem dX12_does_99 : decode cX12_does 99 = .ok (.dup2, 1) := by decide +kernel
theorem dX12_does_100 : decode cX12_does 100 = .ok (.iaload, 1) := by decide +kernel
theorem dX12_does_101 : decode cX12_does 101 = .ok (.aload_n 0, 1) := by decide +kernel
theorem dX12_does_102 : decode cX12_does 102 = .ok (.getfield 168, 3) := by decide +kernel
theorem dX12_does_105 : decode cX12_does 105 = .ok (.isub, 1) := by decide +kernel
theorem dX12_does_106 : decode cX12_does 106 = .ok (.iastore, 1) := by decide +kernel
theorem dX12_does_107 : decode cX12_does 107 = .ok (.goto 9, 3) := by decide +kernel
theorem dX12_does_110 : decode cX12_does 110 = .ok (.aload_n 0, 1) := by decide +kernel
theorem dX12_does_111 : decode cX12_does 111 = .ok (.iload_n 2, 1) := by decide +kernel
theorem dX12_does_112 : decode cX12_does 112 = .ok (.iload_n 3, 1) := by decide +kernel
theorem dX12_does_113 : decode cX12_does 113 = .ok (.invokevirtual 171, 3) := by decide +kernel
theorem dX12_does_116 : decode cX12_does 116 = .ok (.return_, 1) := by decide +kernel
theorem dX12_undoes_0 : decode cX12_undoes 0 = .ok (.iload_n 1, 1) := by decide +kernel
theorem dX12_undoes_1 : decode cX12_undoes 1 = .ok (.bipush 10, 2) := by decide +kernel
theorem dX12_undoes_3 : decode cX12_undoes 3 = .ok (.idiv, 1) := by decide +kernel
theorem dX12_undoes_4 : decode cX12_undoes 4 = .ok (.istore 4, 2) := by decide +kernel
theorem dX12_undoes_6 : decode cX12_undoes 6 = .ok (.iload_n 1, 1) := by decide +kernel
theorem dX12_undoes_7 : decode cX12_undoes 7 = .ok (.bipush 10, 2) := by decide +kernel
theorem dX12_undoes_9 : decode cX12_undoes 9 = .ok (.irem, 1) := by decide +kernel
theorem dX12_undoes_10 : decode cX12_undoes 10 = .ok (.istore 5, 2) := by decide +kernel
theorem dX12_undoes_12 : decode cX12_undoes 12 = .ok (.iload 5, 2) := by decide +kernel
theorem dX12_undoes_14 : decode cX12_undoes 14 = .ok (.bipush 9, 2) := by decide +kernel
theorem dX12_undoes_16 : decode cX12_undoes 16 = .ok (.if_icmp .ne 65, 3) := by decide +kernel
theorem dX12_undoes_19 : decode cX12_undoes 19 = .ok (.aload_n 0, 1) := by decide +kernel
theorem dX12_undoes_20 : decode cX12_undoes 20 = .ok (.getfield 7, 3) := by decide +kernel
theorem dX12_undoes_23 : decode cX12_undoes 23 = .ok (.bipush 14, 2) := by decide +kernel
theorem dX12_undoes_25 : decode cX12_undoes 25 = .ok (.aload_n 0, 1) := by decide +kernel
theorem dX12_undoes_26 : decode cX12_undoes 26 = .ok (.iload 4, 2) := by decide +kernel
theorem dX12_undoes_28 : decode cX12_undoes 28 = .ok (.iconst 1, 1) := by decide +kernel
theorem dX12_undoes_29 : decode cX12_undoes 29 = .ok (.invokevirtual 93, 3) := by decide +kernel
theorem dX12_undoes_32 : decode cX12_undoes 32 = .ok (.iadd, 1) := by decide +kernel
theorem dX12_undoes_33 : decode cX12_undoes 33 = .ok (.dup2, 1) := by decide +kernel
theorem dX12_undoes_34 : decode cX12_undoes 34 = .ok (.iaload, 1) := by decide +kernel
theorem dX12_undoes_35 : decode cX12_undoes 35 = .ok (.iconst 1, 1) := by decide +kernel
theorem dX12_undoes_36 : decode cX12_undoes 36 = .ok (.iadd, 1) := by decide +kernel
theorem dX12_undoes_37 : decode cX12_undoes 37 = .ok (.iastore, 1) := by decide +kernel
theorem dX12_undoes_38 : decode cX12_undoes 38 = .ok (.aload_n 0, 1) := by decide +kernel
theorem dX12_undoes_39 : decode cX12_undoes 39 = .ok (.getfield 7, 3) := by decide +kernel
theorem dX12_undoes_42 : decode cX12_undoes 42 = .ok (.bipush 14, 2) := by decide +kernel
theorem dX12_undoes_44 : decode cX12_undoes 44 = .ok (.iload_n 2, 1) := by decide +kernel
theorem dX12_undoes_45 : decode cX12_undoes 45 = .ok (.iadd, 1) := by decide +kernel
theorem dX12_undoes_46 : decode cX12_undoes 46 = .ok (.dup2, 1) := by decide +kernel
theorem dX12_undoes_47 : decode cX12_undoes 47 = .ok (.iaload, 1) := by decide +kernel
theorem dX12_undoes_48 : decode cX12_undoes 48 = .ok (.iconst 1, 1) := by decide +kernel
theorem dX12_undoes_49 : decode cX12_undoes 49 = .ok (.isub, 1) := by decide +kernel
theorem dX12_undoes_50 : decode cX12_undoes 50 = .ok (.iastore, 1) := by decide +kernel
theorem dX12_undoes_51 : decode cX12_undoes 51 = .ok (.aload_n 0, 1) := by decide +kernel
theorem dX12_undoes_52 : decode cX12_undoes 52 = .ok (.getfield 7, 3) := by decide +kernel
theorem dX12_undoes_55 : decode cX12_undoes 55 = .ok (.iload 4, 2) := by decide +kernel
theorem dX12_undoes_57 : decode cX12_undoes 57 = .ok (.iconst 1, 1) := by decide +kernel
theorem dX12_undoes_58 : decode cX12_undoes 58 = .ok (.invokestatic 74, 3) := by decide +kernel
theorem dX12_undoes_61 : decode cX12_undoes 61 = .ok (.iload_n 2, 1) := by decide +kernel
theorem dX12_undoes_62 : decode cX12_undoes 62 = .ok (.iastore, 1) := by decide +kernel
theorem dX12_undoes_63 : decode cX12_undoes 63 = .ok (.aload_n 0, 1) := by decide +kernel
theorem dX12_undoes_64 : decode cX12_undoes 64 = .ok (.getfield 7, 3) := by decide +kernel
theorem dX12_undoes_67 : decode cX12_undoes 67 = .ok (.iload 4, 2) := by decide +kernel
theorem dX12_undoes_69 : decode cX12_undoes 69 = .ok (.iconst 3, 1) := by decide +kernel
theorem dX12_undoes_70 : decode cX12_undoes 70 = .ok (.invokestatic 74, 3) := by decide +kernel
theorem dX12_undoes_73 : decode cX12_undoes 73 = .ok (.dup2, 1) := by decide +kernel
theorem dX12_undoes_74 : decode cX12_undoes 74 = .ok (.iaload, 1) := by decide +kernel
theorem dX12_undoes_75 : decode cX12_undoes 75 = .ok (.iload_n 3, 1) := by decide +kernel
theorem dX12_undoes_76 : decode cX12_undoes 76 = .ok (.iadd, 1) := by decide +kernel
theorem dX12_undoes_77 : decode cX12_undoes 77 = .ok (.iastore, 1) := by decide +kernel
theorem dX12_undoes_78 : decode cX12_undoes 78 = .ok (.goto 11, 3) := by decide +kernel
theorem dX12_undoes_81 : decode cX12_undoes 81 = .ok (.aload_n 0, 1) := by decide +kernel
theorem dX12_undoes_82 : decode cX12_undoes 82 = .ok (.iload 4, 2) := by decide +kernel
theorem dX12_undoes_84 : decode cX12_undoes 84 = .ok (.iload 5, 2) := by decide +kernel
theorem dX12_undoes_86 : decode cX12_undoes 86 = .ok (.invokevirtual 171, 3) := by decide +kernel
theorem dX12_undoes_89 : decode cX12_undoes 89 = .ok (.return_, 1) := by decide +kernel
theorem dX12_makes_0 : decode cX12_makes 0 = .ok (.aload_n 0, 1) := by decide +kernel
theorem dX12_makes_1 : decode cX12_makes 1 = .ok (.iload_n 1, 1) := by decide +kernel
theorem dX12_makes_2 : decode cX12_makes 2 = .ok (.invokevirtual 175, 3) := by decide +kernel
theorem dX12_makes_5 : decode cX12_makes 5 = .ok (.aload_n 0, 1) := by decide +kernel
theorem dX12_makes_6 : decode cX12_makes 6 = .ok (.getfield 7, 3) := by decide +kernel
theorem dX12_makes_9 : decode cX12_makes 9 = .ok (.iconst 4, 1) := by decide +kernel
theorem dX12_makes_10 : decode cX12_makes 10 = .ok (.iaload, 1) := by decide +kernel
theorem dX12_makes_11 : decode cX12_makes 11 = .ok (.bipush 12, 2) := by decide +kernel
theorem dX12_makes_13 : decode cX12_makes 13 = .ok (.if_icmp .ne 42, 3) := by decide +kernel
theorem dX12_makes_16 : decode cX12_makes 16 = .ok (.bipush 70, 2) := by decide +kernel
theorem dX12_makes_18 : decode cX12_makes 18 = .ok (.istore_n 2, 1) := by decide +kernel
theorem dX12_makes_19 : decode cX12_makes 19 = .ok (.iload_n 2, 1) := by decide +kernel
theorem dX12_makes_20 : decode cX12_makes 20 = .ok (.bipush 103, 2) := by decide +kernel
theorem dX12_makes_22 : decode cX12_makes 22 = .ok (.if_icmp .ge 23, 3) := by decide +kernel
theorem dX12_makes_25 : decode cX12_makes 25 = .ok (.aload_n 0, 1) := by decide +kernel
theorem dX12_makes_26 : decode cX12_makes 26 = .ok (.getfield 7, 3) := by decide +kernel
theorem dX12_makes_29 : decode cX12_makes 29 = .ok (.iload_n 2, 1) := by decide +kernel
theorem dX12_makes_30 : decode cX12_makes 30 = .ok (.aload_n 0, 1) := by decide +kernel
theorem dX12_makes_31 : decode cX12_makes 31 = .ok (.getfield 7, 3) := by decide +kernel
theorem dX12_makes_34 : decode cX12_makes 34 = .ok (.iload_n 2, 1) := by decide +kernel
theorem dX12_makes_35 : decode cX12_makes 35 = .ok (.iconst 3, 1) := by decide +kernel
theorem dX12_makes_36 : decode cX12_makes 36 = .ok (.iadd, 1) := by decide +kernel
theorem dX12_makes_37 : decode cX12_makes 37 = .ok (.iaload, 1) := by decide +kernel
theorem dX12_makes_38 : decode cX12_makes 38 = .ok (.iastore, 1) := by decide +kernel
theorem dX12_makes_39 : decode cX12_makes 39 = .ok (.iinc 2 1, 3) := by decide +kernel
theorem dX12_makes_42 : decode cX12_makes 42 = .ok (.goto (-23), 3) := by decide +kernel
theorem dX12_makes_45 : decode cX12_makes 45 = .ok (.aload_n 0, 1) := by decide +kernel
theorem dX12_makes_46 : decode cX12_makes 46 = .ok (.getfield 7, 3) := by decide +kernel
theorem dX12_makes_49 : decode cX12_makes 49 = .ok (.iconst 4, 1) := by decide +kernel
theorem dX12_makes_50 : decode cX12_makes 50 = .ok (.dup2, 1) := by decide +kernel
theorem dX12_makes_51 : decode cX12_makes 51 = .ok (.iaload, 1) := by decide +kernel
theorem dX12_makes_52 : decode cX12_makes 52 = .ok (.iconst 1, 1) := by decide +kernel
theorem dX12_makes_53 : decode cX12_makes 53 = .ok (.isub, 1) := by decide +kernel
theorem dX12_makes_54 : decode cX12_makes 54 = .ok (.iastore, 1) := by decide +kernel
theorem dX12_makes_55 : decode cX12_makes 55 = .ok (.bipush 70, 2) := by decide +kernel
theorem dX12_makes_57 : decode cX12_makes 57 = .ok (.iconst 3, 1) := by decide +kernel
theorem dX12_makes_58 : decode cX12_makes 58 = .ok (.aload_n 0, 1) := by decide +kernel
theorem dX12_makes_59 : decode cX12_makes 59 = .ok (.getfield 7, 3) := by decide +kernel
theorem dX12_makes_62 : decode cX12_makes 62 = .ok (.iconst 4, 1) := by decide +kernel
theorem dX12_makes_63 : decode cX12_makes 63 = .ok (.iaload, 1) := by decide +kernel
theorem dX12_makes_64 : decode cX12_makes 64 = .ok (.imul, 1) := by decide +kernel
theorem dX12_makes_65 : decode cX12_makes 65 = .ok (.iadd, 1) := by decide +kernel
theorem dX12_makes_66 : decode cX12_makes 66 = .ok (.istore_n 2, 1) := by decide +kernel
theorem dX12_makes_67 : decode cX12_makes 67 = .ok (.iload_n 1, 1) := by decide +kernel
theorem dX12_makes_68 : decode cX12_makes 68 = .ok (.bipush 10, 2) := by decide +kernel
theorem dX12_makes_70 : decode cX12_makes 70 = .ok (.irem, 1) := by decide +kernel
theorem dX12_makes_71 : decode cX12_makes 71 = .ok (.istore_n 3, 1) := by decide +kernel
theorem dX12_makes_72 : decode cX12_makes 72 = .ok (.aload_n 0, 1) := by decide +kernel
theorem dX12_makes_73 : decode cX12_makes 73 = .ok (.getfield 7, 3) := by decide +kernel
theorem dX12_makes_76 : decode cX12_makes 76 = .ok (.iload_n 2, 1) := by decide +kernel
theorem dX12_makes_77 : decode cX12_makes 77 = .ok (.iload_n 1, 1) := by decide +kernel
theorem dX12_makes_78 : decode cX12_makes 78 = .ok (.iastore, 1) := by decide +kernel
theorem dX12_makes_79 : decode cX12_makes 79 = .ok (.aload_n 0, 1) := by decide +kernel
theorem dX12_makes_80 : decode cX12_makes 80 = .ok (.getfield 7, 3) := by decide +kernel
theorem dX12_makes_83 : decode cX12_makes 83 = .ok (.iload_n 2, 1) := by decide +kernel
theorem dX12_makes_84 : decode cX12_makes 84 = .ok (.iconst 1, 1) := by decide +kernel
theorem dX12_makes_85 : decode cX12_makes 85 = .ok (.iadd, 1) := by decide +kernel
theorem dX12_makes_86 : decode cX12_makes 86 = .ok (.aload_n 0, 1) := by decide +kernel
theorem dX12_makes_87 : decode cX12_makes 87 = .ok (.iload_n 1, 1) := by decide +kernel
theorem dX12_makes_88 : decode cX12_makes 88 = .ok (.bipush 10, 2) := by decide +kernel
theorem dX12_makes_90 : decode cX12_makes 90 = .ok (.idiv, 1) := by decide +kernel
theorem dX12_makes_91 : decode cX12_makes 91 = .ok (.iconst 1, 1) := by decide +kernel
theorem dX12_makes_92 : decode cX12_makes 92 = .ok (.invokevirtual 93, 3) := by decide +kernel
theorem dX12_makes_95 : decode cX12_makes 95 = .ok (.iastore, 1) := by decide +kernel
theorem dX12_makes_96 : decode cX12_makes 96 = .ok (.aload_n 0, 1) := by decide +kernel
theorem dX12_makes_97 : decode cX12_makes 97 = .ok (.getfield 7, 3) := by decide +kernel
theorem dX12_makes_100 : decode cX12_makes 100 = .ok (.iload_n 2, 1) := by decide +kernel
theorem dX12_makes_101 : decode cX12_makes 101 = .ok (.iconst 2, 1) := by decide +kernel
theorem dX12_makes_102 : decode cX12_makes 102 = .ok (.iadd, 1) := by decide +kernel
theorem dX12_makes_103 : decode cX12_makes 103 = .ok (.iload_n 3, 1) := by decide +kernel
theorem dX12_makes_104 : decode cX12_makes 104 = .ok (.bipush 9, 2) := by decide +kernel
theorem dX12_makes_106 : decode cX12_makes 106 = .ok (.if_icmp .ne 10, 3) := by decide +kernel
theorem dX12_makes_109 : decode cX12_makes 109 = .ok (.aload_n 0, 1) := by decide +kernel
theorem dX12_makes_110 : decode cX12_makes 110 = .ok (.getfield 165, 3) := by decide +kernel
theorem dX12_makes_113 : decode cX12_makes 113 = .ok (.goto 9, 3) := by decide +kernel
theorem dX12_makes_116 : decode cX12_makes 116 = .ok (.aload_n 0, 1) := by decide +kernel
theorem dX12_makes_117 : decode cX12_makes 117 = .ok (.iload_n 3, 1) := by decide +kernel
theorem dX12_makes_118 : decode cX12_makes 118 = .ok (.iconst 1, 1) := by decide +kernel
theorem dX12_makes_119 : decode cX12_makes 119 = .ok (.invokevirtual 93, 3) := by decide +kernel
theorem dX12_makes_122 : decode cX12_makes 122 = .ok (.iastore, 1) := by decide +kernel
theorem dX12_makes_123 : decode cX12_makes 123 = .ok (.aload_n 0, 1) := by decide +kernel
theorem dX12_makes_124 : decode cX12_makes 124 = .ok (.getfield 7, 3) := by decide +kernel
theorem dX12_makes_127 : decode cX12_makes 127 = .ok (.iconst 4, 1) := by decide +kernel
theorem dX12_makes_128 : decode cX12_makes 128 = .ok (.dup2, 1) := by decide +kernel
theorem dX12_makes_129 : decode cX12_makes 129 = .ok (.iaload, 1) := by decide +kernel
theorem dX12_makes_130 : decode cX12_makes 130 = .ok (.iconst 1, 1) := by decide +kernel
theorem dX12_makes_131 : decode cX12_makes 131 = .ok (.iadd, 1) := by decide +kernel
theorem dX12_makes_132 : decode cX12_makes 132 = .ok (.iastore, 1) := by decide +kernel
theorem dX12_makes_133 : decode cX12_makes 133 = .ok (.return_, 1) := by decide +kernel
theorem dX12_cans_0 : decode cX12_cans 0 = .ok (.iload_n 1, 1) := by decide +kernel
theorem dX12_cans_1 : decode cX12_cans 1 = .ok (.iconst (-1), 1) := by decide +kernel
theorem dX12_cans_2 : decode cX12_cans 2 = .ok (.if_icmp .ge 5, 3) := by decide +kernel
theorem dX12_cans_5 : decode cX12_cans 5 = .ok (.iconst (-1), 1) := by decide +kernel
theorem dX12_cans_6 : decode cX12_cans 6 = .ok (.ireturn, 1) := by decide +kernel
theorem dX12_cans_7 : decode cX12_cans 7 = .ok (.aload_n 0, 1) := by decide +kernel
theorem dX12_cans_8 : decode cX12_cans 8 = .ok (.iload_n 1, 1) := by decide +kernel
theorem dX12_cans_9 : decode cX12_cans 9 = .ok (.invokevirtual 179, 3) := by decide +kernel
theorem dX12_cans_12 : decode cX12_cans 12 = .ok (.istore_n 2, 1) := by decide +kernel
theorem dX12_cans_13 : decode cX12_cans 13 = .ok (.iload_n 2, 1) := by decide +kernel
theorem dX12_cans_14 : decode cX12_cans 14 = .ok (.ifCond .ge 8, 3) := by decide +kernel
theorem dX12_cans_17 : decode cX12_cans 17 = .ok (.bipush (-3), 2) := by decide +kernel
theorem dX12_cans_19 : decode cX12_cans 19 = .ok (.goto 4, 3) := by decide +kernel
theorem dX12_cans_22 : decode cX12_cans 22 = .ok (.iload_n 2, 1) := by decide +kernel
theorem dX12_cans_23 : decode cX12_cans 23 = .ok (.ireturn, 1) := by decide +kernel
theorem dX12_make_0 : decode cX12_make 0 = .ok (.aload_n 0, 1) := by decide +kernel
theorem dX12_make_1 : decode cX12_make 1 = .ok (.iload_n 1, 1) := by decide +kernel
theorem dX12_make_2 : decode cX12_make 2 = .ok (.iload_n 2, 1) := by decide +kernel
theorem dX12_make_3 : decode cX12_make 3 = .ok (.invokevirtual 153, 3) := by decide +kernel
theorem dX12_make_6 : decode cX12_make 6 = .ok (.ifCond .ne 5, 3) := by decide +kernel
theorem dX12_make_9 : decode cX12_make 9 = .ok (.iconst (-1), 1) := by decide +kernel
theorem dX12_make_10 : decode cX12_make 10 = .ok (.ireturn, 1) := by decide +kernel
theorem dX12_make_11 : decode cX12_make 11 = .ok (.aload_n 0, 1) := by decide +kernel
theorem dX12_make_12 : decode cX12_make 12 = .ok (.bipush 10, 2) := by decide +kernel
theorem dX12_make_14 : decode cX12_make 14 = .ok (.iload_n 1, 1) := by decide +kernel
theorem dX12_make_15 : decode cX12_make 15 = .ok (.imul, 1) := by decide +kernel
theorem dX12_make_16 : decode cX12_make 16 = .ok (.iload_n 2, 1) := by decide +kernel
theorem dX12_make_17 : decode cX12_make 17 = .ok (.iadd, 1) := by decide +kernel
theorem dX12_make_18 : decode cX12_make 18 = .ok (.invokevirtual 162, 3) := by decide +kernel
theorem dX12_make_21 : decode cX12_make 21 = .ok (.ifCond .ne 6, 3) := by decide +kernel
theorem dX12_make_24 : decode cX12_make 24 = .ok (.bipush (-4), 2) := by decide +kernel
theorem dX12_make_26 : decode cX12_make 26 = .ok (.ireturn, 1) := by decide +kernel
theorem dX12_make_27 : decode cX12_make 27 = .ok (.aload_n 0, 1) := by decide +kernel
theorem dX12_make_28 : decode cX12_make 28 = .ok (.bipush 10, 2) := by decide +kernel
theorem dX12_make_30 : decode cX12_make 30 = .ok (.iload_n 1, 1) := by decide +kernel
theorem dX12_make_31 : decode cX12_make 31 = .ok (.imul, 1) := by decide +kernel
theorem dX12_make_32 : decode cX12_make 32 = .ok (.iload_n 2, 1) := by decide +kernel
theorem dX12_make_33 : decode cX12_make 33 = .ok (.iadd, 1) := by decide +kernel
theorem dX12_make_34 : decode cX12_make 34 = .ok (.invokevirtual 182, 3) := by decide +kernel
theorem dX12_make_37 : decode cX12_make 37 = .ok (.aload_n 0, 1) := by decide +kernel
theorem dX12_make_38 : decode cX12_make 38 = .ok (.getfield 168, 3) := by decide +kernel
theorem dX12_make_41 : decode cX12_make 41 = .ok (.ireturn, 1) := by decide +kernel
theorem dX12_back_0 : decode cX12_back 0 = .ok (.aload_n 0, 1) := by decide +kernel
theorem dX12_back_1 : decode cX12_back 1 = .ok (.getfield 7, 3) := by decide +kernel
theorem dX12_back_4 : decode cX12_back 4 = .ok (.iconst 4, 1) := by decide +kernel
theorem dX12_back_5 : decode cX12_back 5 = .ok (.iaload, 1) := by decide +kernel
theorem dX12_back_6 : decode cX12_back 6 = .ok (.ifCond .ne 6, 3) := by decide +kernel
theorem dX12_back_9 : decode cX12_back 9 = .ok (.bipush (-3), 2) := by decide +kernel
theorem dX12_back_11 : decode cX12_back 11 = .ok (.ireturn, 1) := by decide +kernel
theorem dX12_back_12 : decode cX12_back 12 = .ok (.bipush 70, 2) := by decide +kernel
theorem dX12_back_14 : decode cX12_back 14 = .ok (.iconst 3, 1) := by decide +kernel
theorem dX12_back_15 : decode cX12_back 15 = .ok (.aload_n 0, 1) := by decide +kernel
theorem dX12_back_16 : decode cX12_back 16 = .ok (.getfield 7, 3) := by decide +kernel
theorem dX12_back_19 : decode cX12_back 19 = .ok (.iconst 4, 1) := by decide +kernel
theorem dX12_back_20 : decode cX12_back 20 = .ok (.iaload, 1) := by decide +kernel
theorem dX12_back_21 : decode cX12_back 21 = .ok (.imul, 1) := by decide +kernel
theorem dX12_back_22 : decode cX12_back 22 = .ok (.iadd, 1) := by decide +kernel
theorem dX12_back_23 : decode cX12_back 23 = .ok (.iconst 3, 1) := by decide +kernel
theorem dX12_back_24 : decode cX12_back 24 = .ok (.isub, 1) := by decide +kernel
theorem dX12_back_25 : decode cX12_back 25 = .ok (.istore_n 1, 1) := by decide +kernel
theorem dX12_back_26 : decode cX12_back 26 = .ok (.aload_n 0, 1) := by decide +kernel
theorem dX12_back_27 : decode cX12_back 27 = .ok (.getfield 7, 3) := by decide +kernel
theorem dX12_back_30 : decode cX12_back 30 = .ok (.iload_n 1, 1) := by decide +kernel
theorem dX12_back_31 : decode cX12_back 31 = .ok (.iaload, 1) := by decide +kernel
theorem dX12_back_32 : decode cX12_back 32 = .ok (.istore_n 2, 1) := by decide +kernel
theorem dX12_back_33 : decode cX12_back 33 = .ok (.iload_n 2, 1) := by decide +kernel
theorem dX12_back_34 : decode cX12_back 34 = .ok (.bipush 10, 2) := by decide +kernel
theorem dX12_back_36 : decode cX12_back 36 = .ok (.idiv, 1) := by decide +kernel
theorem dX12_back_37 : decode cX12_back 37 = .ok (.istore_n 3, 1) := by decide +kernel
theorem dX12_back_38 : decode cX12_back 38 = .ok (.iload_n 2, 1) := by decide +kernel
theorem dX12_back_39 : decode cX12_back 39 = .ok (.bipush 10, 2) := by decide +kernel
theorem dX12_back_41 : decode cX12_back 41 = .ok (.irem, 1) := by decide +kernel
theorem dX12_back_42 : decode cX12_back 42 = .ok (.istore 4, 2) := by decide +kernel
theorem dX12_back_44 : decode cX12_back 44 = .ok (.aload_n 0, 1) := by decide +kernel
theorem dX12_back_45 : decode cX12_back 45 = .ok (.iload_n 3, 1) := by decide +kernel
theorem dX12_back_46 : decode cX12_back 46 = .ok (.iconst 1, 1) := by decide +kernel
theorem dX12_back_47 : decode cX12_back 47 = .ok (.invokevirtual 93, 3) := by decide +kernel
theorem dX12_back_50 : decode cX12_back 50 = .ok (.aload_n 0, 1) := by decide +kernel
theorem dX12_back_51 : decode cX12_back 51 = .ok (.getfield 7, 3) := by decide +kernel
theorem dX12_back_54 : decode cX12_back 54 = .ok (.iload_n 1, 1) := by decide +kernel
theorem dX12_back_55 : decode cX12_back 55 = .ok (.iconst 1, 1) := by decide +kernel
theorem dX12_back_56 : decode cX12_back 56 = .ok (.iadd, 1) := by decide +kernel
theorem dX12_back_57 : decode cX12_back 57 = .ok (.iaload, 1) := by decide +kernel
theorem dX12_back_58 : decode cX12_back 58 = .ok (.if_icmp .ne 7, 3) := by decide +kernel
theorem dX12_back_61 : decode cX12_back 61 = .ok (.iconst 1, 1) := by decide +kernel
theorem dX12_back_62 : decode cX12_back 62 = .ok (.goto 4, 3) := by decide +kernel
theorem dX12_back_65 : decode cX12_back 65 = .ok (.iconst 0, 1) := by decide +kernel
theorem dX12_back_66 : decode cX12_back 66 = .ok (.istore 5, 2) := by decide +kernel
theorem dX12_back_68 : decode cX12_back 68 = .ok (.iload 4, 2) := by decide +kernel
theorem dX12_back_70 : decode cX12_back 70 = .ok (.bipush 9, 2) := by decide +kernel
theorem dX12_back_72 : decode cX12_back 72 = .ok (.if_icmp .ne 64, 3) := by decide +kernel
theorem dX12_back_75 : decode cX12_back 75 = .ok (.aload_n 0, 1) := by decide +kernel
theorem dX12_back_76 : decode cX12_back 76 = .ok (.getfield 7, 3) := by decide +kernel
theorem dX12_back_79 : decode cX12_back 79 = .ok (.iload_n 1, 1) := by decide +kernel
theorem dX12_back_80 : decode cX12_back 80 = .ok (.iconst 2, 1) := by decide +kernel
theorem dX12_back_81 : decode cX12_back 81 = .ok (.iadd, 1) := by decide +kernel
theorem dX12_back_82 : decode cX12_back 82 = .ok (.iaload, 1) := by decide +kernel
theorem dX12_back_83 : decode cX12_back 83 = .ok (.istore 6, 2) := by decide +kernel
theorem dX12_back_85 : decode cX12_back 85 = .ok (.iload 5, 2) := by decide +kernel
theorem dX12_back_87 : decode cX12_back 87 = .ok (.ifCond .eq 35, 3) := by decide +kernel
theorem dX12_back_90 : decode cX12_back 90 = .ok (.aload_n 0, 1) := by decide +kernel
theorem dX12_back_91 : decode cX12_back 91 = .ok (.getfield 7, 3) := by decide +kernel
theorem dX12_back_94 : decode cX12_back 94 = .ok (.bipush 14, 2) := by decide +kernel
theorem dX12_back_96 : decode cX12_back 96 = .ok (.iload 6, 2) := by decide +kernel
theorem dX12_back_98 : decode cX12_back 98 = .ok (.iadd, 1) := by decide +kernel
theorem dX12_back_99 : decode cX12_back 99 = .ok (.iaload, 1) := by decide +kernel
theorem dX12_back_100 : decode cX12_back 100 = .ok (.ifCond .eq 22, 3) := by decide +kernel
theorem dX12_back_103 : decode cX12_back 103 = .ok (.aload_n 0, 1) := by decide +kernel
theorem dX12_back_104 : decode cX12_back 104 = .ok (.getfield 7, 3) := by decide +kernel
theorem dX12_back_107 : decode cX12_back 107 = .ok (.bipush 14, 2) := by decide +kernel
theorem dX12_back_109 : decode cX12_back 109 = .ok (.aload_n 0, 1) := by decide +kernel
theorem dX12_back_110 : decode cX12_back 110 = .ok (.iload_n 3, 1) := by decide +kernel
theorem dX12_back_111 : decode cX12_back 111 = .ok (.iconst 1, 1) := by decide +kernel
theorem dX12_back_112 : decode cX12_back 112 = .ok (.invokevirtual 93, 3) := by decide +kernel
theorem dX12_back_115 : decode cX12_back 115 = .ok (.iadd, 1) := by decide +kernel
theorem dX12_back_116 : decode cX12_back 116 = .ok (.iaload, 1) := by decide +kernel
theorem dX12_back_117 : decode cX12_back 117 = .ok (.bipush 99, 2) := by decide +kernel
theorem dX12_back_119 : decode cX12_back 119 = .ok (.if_icmp .ne 6, 3) := by decide +kernel
theorem dX12_back_122 : decode cX12_back 122 = .ok (.bipush (-4), 2) := by decide +kernel
theorem dX12_back_124 : decode cX12_back 124 = .ok (.ireturn, 1) := by decide +kernel
theorem dX12_back_125 : decode cX12_back 125 = .ok (.aload_n 0, 1) := by decide +kernel
theorem dX12_back_126 : decode cX12_back 126 = .ok (.iload_n 2, 1) := by decide +kernel
theorem dX12_back_127 : decode cX12_back 127 = .ok (.iload 6, 2) := by decide +kernel
theorem dX12_back_129 : decode cX12_back 129 = .ok (.iconst 0, 1) := by decide +kernel
theorem dX12_back_130 : decode cX12_back 130 = .ok (.invokevirtual 185, 3) := by decide +kernel
theorem dX12_back_133 : decode cX12_back 133 = .ok (.goto 36, 3) := by decide +kernel
theorem dX12_back_136 : decode cX12_back 136 = .ok (.iload 5, 2) := by decide +kernel
theorem dX12_back_138 : decode cX12_back 138 = .ok (.ifCond .eq 21, 3) := by decide +kernel
theorem dX12_back_141 : decode cX12_back 141 = .ok (.aload_n 0, 1) := by decide +kernel
theorem dX12_back_142 : decode cX12_back 142 = .ok (.iload 4, 2) := by decide +kernel
theorem dX12_back_144 : decode cX12_back 144 = .ok (.iconst 1, 1) := by decide +kernel
theorem dX12_back_145 : decode cX12_back 145 = .ok (.invokevirtual 93, 3) := by decide +kernel
theorem dX12_back_148 : decode cX12_back 148 = .ok (.aload_n 0, 1) := by decide +kernel
theorem dX12_back_149 : decode cX12_back 149 = .ok (.getfield 7, 3) := by decide +kernel
theorem dX12_back_152 : decode cX12_back 152 = .ok (.iload_n 1, 1) := by decide +kernel
theorem dX12_back_153 : decode cX12_back 153 = .ok (.iconst 2, 1) := by decide +kernel
theorem dX12_back_154 : decode cX12_back 154 = .ok (.iadd, 1) := by decide +kernel
theorem dX12_back_155 : decode cX12_back 155 = .ok (.iaload, 1) := by decide +kernel
theorem dX12_back_156 : decode cX12_back 156 = .ok (.if_icmp .eq 6, 3) := by decide +kernel
theorem dX12_back_159 : decode cX12_back 159 = .ok (.bipush (-4), 2) := by decide +kernel
theorem dX12_back_161 : decode cX12_back 161 = .ok (.ireturn, 1) := by decide +kernel
theorem dX12_back_162 : decode cX12_back 162 = .ok (.aload_n 0, 1) := by decide +kernel
theorem dX12_back_163 : decode cX12_back 163 = .ok (.iload_n 3, 1) := by decide +kernel
theorem dX12_back_164 : decode cX12_back 164 = .ok (.iload 4, 2) := by decide +kernel
theorem dX12_back_166 : decode cX12_back 166 = .ok (.invokevirtual 171, 3) := by decide +kernel
theorem dX12_back_169 : decode cX12_back 169 = .ok (.aload_n 0, 1) := by decide +kernel
theorem dX12_back_170 : decode cX12_back 170 = .ok (.getfield 7, 3) := by decide +kernel
theorem dX12_back_173 : decode cX12_back 173 = .ok (.iconst 4, 1) := by decide +kernel
theorem dX12_back_174 : decode cX12_back 174 = .ok (.dup2, 1) := by decide +kernel
theorem dX12_back_175 : decode cX12_back 175 = .ok (.iaload, 1) := by decide +kernel
theorem dX12_back_176 : decode cX12_back 176 = .ok (.iconst 1, 1) := by decide +kernel
theorem dX12_back_177 : decode cX12_back 177 = .ok (.isub, 1) := by decide +kernel
theorem dX12_back_178 : decode cX12_back 178 = .ok (.iastore, 1) := by decide +kernel
theorem dX12_back_179 : decode cX12_back 179 = .ok (.iload_n 2, 1) := by decide +kernel
theorem dX12_back_180 : decode cX12_back 180 = .ok (.ireturn, 1) := by decide +kernel
theorem dX12_thereSet_0 : decode cX12_thereSet 0 = .ok (.iconst 1, 1) := by decide +kernel
theorem dX12_thereSet_1 : decode cX12_thereSet 1 = .ok (.aload_n 0, 1) := by decide +kernel
theorem dX12_thereSet_2 : decode cX12_thereSet 2 = .ok (.getfield 7, 3) := by decide +kernel
theorem dX12_thereSet_5 : decode cX12_thereSet 5 = .ok (.iconst 0, 1) := by decide +kernel
theorem dX12_thereSet_6 : decode cX12_thereSet 6 = .ok (.iaload, 1) := by decide +kernel
theorem dX12_thereSet_7 : decode cX12_thereSet 7 = .ok (.ishl, 1) := by decide +kernel
theorem dX12_thereSet_8 : decode cX12_thereSet 8 = .ok (.iconst 1, 1) := by decide +kernel
theorem dX12_thereSet_9 : decode cX12_thereSet 9 = .ok (.isub, 1) := by decide +kernel
theorem dX12_thereSet_10 : decode cX12_thereSet 10 = .ok (.istore_n 1, 1) := by decide +kernel
theorem dX12_thereSet_11 : decode cX12_thereSet 11 = .ok (.aload_n 0, 1) := by decide +kernel
theorem dX12_thereSet_12 : decode cX12_thereSet 12 = .ok (.getfield 19, 3) := by decide +kernel
theorem dX12_thereSet_15 : decode cX12_thereSet 15 = .ok (.ifCond .ge 7, 3) := by decide +kernel
theorem dX12_thereSet_18 : decode cX12_thereSet 18 = .ok (.iload_n 1, 1) := by decide +kernel
theorem dX12_thereSet_19 : decode cX12_thereSet 19 = .ok (.goto 13, 3) := by decide +kernel
theorem dX12_thereSet_22 : decode cX12_thereSet 22 = .ok (.iload_n 1, 1) := by decide +kernel
theorem dX12_thereSet_23 : decode cX12_thereSet 23 = .ok (.iconst 1, 1) := by decide +kernel
theorem dX12_thereSet_24 : decode cX12_thereSet 24 = .ok (.aload_n 0, 1) := by decide +kernel
theorem dX12_thereSet_25 : decode cX12_thereSet 25 = .ok (.getfield 19, 3) := by decide +kernel
theorem dX12_thereSet_28 : decode cX12_thereSet 28 = .ok (.ishl, 1) := by decide +kernel
theorem dX12_thereSet_29 : decode cX12_thereSet 29 = .ok (.iconst (-1), 1) := by decide +kernel
theorem dX12_thereSet_30 : decode cX12_thereSet 30 = .ok (.ixor, 1) := by decide +kernel
theorem dX12_thereSet_31 : decode cX12_thereSet 31 = .ok (.iand, 1) := by decide +kernel
theorem dX12_thereSet_32 : decode cX12_thereSet 32 = .ok (.ireturn, 1) := by decide +kernel
theorem dX12_keeps_0 : decode cX12_keeps 0 = .ok (.aload_n 0, 1) := by decide +kernel
theorem dX12_keeps_1 : decode cX12_keeps 1 = .ok (.dup, 1) := by decide +kernel
theorem dX12_keeps_2 : decode cX12_keeps 2 = .ok (.getfield 189, 3) := by decide +kernel
theorem dX12_keeps_5 : decode cX12_keeps 5 = .ok (.iconst 1, 1) := by decide +kernel
theorem dX12_keeps_6 : decode cX12_keeps 6 = .ok (.iadd, 1) := by decide +kernel
theorem dX12_keeps_7 : decode cX12_keeps 7 = .ok (.putfield 189, 3) := by decide +kernel
theorem dX12_keeps_10 : decode cX12_keeps 10 = .ok (.aload_n 0, 1) := by decide +kernel
theorem dX12_keeps_11 : decode cX12_keeps 11 = .ok (.getfield 192, 3) := by decide +kernel
theorem dX12_keeps_14 : decode cX12_keeps 14 = .ok (.ifCond .lt 11, 3) := by decide +kernel
theorem dX12_keeps_17 : decode cX12_keeps 17 = .ok (.iload_n 1, 1) := by decide +kernel
theorem dX12_keeps_18 : decode cX12_keeps 18 = .ok (.aload_n 0, 1) := by decide +kernel
theorem dX12_keeps_19 : decode cX12_keeps 19 = .ok (.getfield 192, 3) := by decide +kernel
theorem dX12_keeps_22 : decode cX12_keeps 22 = .ok (.if_icmp .ge 33, 3) := by decide +kernel
theorem dX12_keeps_25 : decode cX12_keeps 25 = .ok (.aload_n 0, 1) := by decide +kernel
theorem dX12_keeps_26 : decode cX12_keeps 26 = .ok (.iload_n 1, 1) := by decide +kernel
theorem dX12_keeps_27 : decode cX12_keeps 27 = .ok (.putfield 192, 3) := by decide +kernel
theorem dX12_keeps_30 : decode cX12_keeps 30 = .ok (.iconst 0, 1) := by decide +kernel
theorem dX12_keeps_31 : decode cX12_keeps 31 = .ok (.istore_n 3, 1) := by decide +kernel
theorem dX12_keeps_32 : decode cX12_keeps 32 = .ok (.iload_n 3, 1) := by decide +kernel
theorem dX12_keeps_33 : decode cX12_keeps 33 = .ok (.iload_n 1, 1) := by decide +kernel
theorem dX12_keeps_34 : decode cX12_keeps 34 = .ok (.if_icmp .ge 21, 3) := by decide +kernel
theorem dX12_keeps_37 : decode cX12_keeps 37 = .ok (.aload_n 0, 1) := by decide +kernel
theorem dX12_keeps_38 : decode cX12_keeps 38 = .ok (.getfield 29, 3) := by decide +kernel
theorem dX12_keeps_41 : decode cX12_keeps 41 = .ok (.iload_n 3, 1) := by decide +kernel
theorem dX12_keeps_42 : decode cX12_keeps 42 = .ok (.aload_n 0, 1) := by decide +kernel
theorem dX12_keeps_43 : decode cX12_keeps 43 = .ok (.getfield 26, 3) := by decide +kernel
theorem dX12_keeps_46 : decode cX12_keeps 46 = .ok (.iload_n 3, 1) := by decide +kernel
theorem dX12_keeps_47 : decode cX12_keeps 47 = .ok (.iaload, 1) := by decide +kernel
theorem dX12_keeps_48 : decode cX12_keeps 48 = .ok (.iastore, 1) := by decide +kernel
theorem dX12_keeps_49 : decode cX12_keeps 49 = .ok (.iinc 3 1, 3) := by decide +kernel
theorem dX12_keeps_52 : decode cX12_keeps 52 = .ok (.goto (-20), 3) := by decide +kernel
theorem dX12_keeps_55 : decode cX12_keeps 55 = .ok (.aload_n 0, 1) := by decide +kernel
theorem dX12_keeps_56 : decode cX12_keeps 56 = .ok (.getfield 195, 3) := by decide +kernel
theorem dX12_keeps_59 : decode cX12_keeps 59 = .ok (.ifCond .lt 11, 3) := by decide +kernel
theorem dX12_keeps_62 : decode cX12_keeps 62 = .ok (.iload_n 2, 1) := by decide +kernel
theorem dX12_keeps_63 : decode cX12_keeps 63 = .ok (.aload_n 0, 1) := by decide +kernel
theorem dX12_keeps_64 : decode cX12_keeps 64 = .ok (.getfield 195, 3) := by decide +kernel
theorem dX12_keeps_67 : decode cX12_keeps 67 = .ok (.if_icmp .ge 38, 3) := by decide +kernel
theorem dX12_keeps_70 : decode cX12_keeps 70 = .ok (.aload_n 0, 1) := by decide +kernel
theorem dX12_keeps_71 : decode cX12_keeps 71 = .ok (.iload_n 2, 1) := by decide +kernel
theorem dX12_keeps_72 : decode cX12_keeps 72 = .ok (.putfield 195, 3) := by decide +kernel
theorem dX12_keeps_75 : decode cX12_keeps 75 = .ok (.aload_n 0, 1) := by decide +kernel
theorem dX12_keeps_76 : decode cX12_keeps 76 = .ok (.iload_n 1, 1) := by decide +kernel
theorem dX12_keeps_77 : decode cX12_keeps 77 = .ok (.putfield 198, 3) := by decide +kernel
theorem dX12_keeps_80 : decode cX12_keeps 80 = .ok (.iconst 0, 1) := by decide +kernel
theorem dX12_keeps_81 : decode cX12_keeps 81 = .ok (.istore_n 3, 1) := by decide +kernel
theorem dX12_keeps_82 : decode cX12_keeps 82 = .ok (.iload_n 3, 1) := by decide +kernel
theorem dX12_keeps_83 : decode cX12_keeps 83 = .ok (.iload_n 1, 1) := by decide +kernel
theorem dX12_keeps_84 : decode cX12_keeps 84 = .ok (.if_icmp .ge 21, 3) := by decide +kernel
theorem dX12_keeps_87 : decode cX12_keeps 87 = .ok (.aload_n 0, 1) := by decide +kernel
theorem dX12_keeps_88 : decode cX12_keeps 88 = .ok (.getfield 32, 3) := by decide +kernel
theorem dX12_keeps_91 : decode cX12_keeps 91 = .ok (.iload_n 3, 1) := by decide +kernel
theorem dX12_keeps_92 : decode cX12_keeps 92 = .ok (.aload_n 0, 1) := by decide +kernel
theorem dX12_keeps_93 : decode cX12_keeps 93 = .ok (.getfield 26, 3) := by decide +kernel
theorem dX12_keeps_96 : decode cX12_keeps 96 = .ok (.iload_n 3, 1) := by decide +kernel
theorem dX12_keeps_97 : decode cX12_keeps 97 = .ok (.iaload, 1) := by decide +kernel
theorem dX12_keeps_98 : decode cX12_keeps 98 = .ok (.iastore, 1) := by decide +kernel
theorem dX12_keeps_99 : decode cX12_keeps 99 = .ok (.iinc 3 1, 3) := by decide +kernel
theorem dX12_keeps_102 : decode cX12_keeps 102 = .ok (.goto (-20), 3) := by decide +kernel
theorem dX12_keeps_105 : decode cX12_keeps 105 = .ok (.return_, 1) := by decide +kernel
theorem dX12_goes_0 : decode cX12_goes 0 = .ok (.aload_n 0, 1) := by decide +kernel
theorem dX12_goes_1 : decode cX12_goes 1 = .ok (.invokevirtual 99, 3) := by decide +kernel
theorem dX12_goes_4 : decode cX12_goes 4 = .ok (.istore 4, 2) := by decide +kernel
theorem dX12_goes_6 : decode cX12_goes 6 = .ok (.iload 4, 2) := by decide +kernel
theorem dX12_goes_8 : decode cX12_goes 8 = .ok (.invokestatic 103, 3) := by decide +kernel
theorem dX12_goes_11 : decode cX12_goes 11 = .ok (.istore 5, 2) := by decide +kernel
theorem dX12_goes_13 : decode cX12_goes 13 = .ok (.aload_n 0, 1) := by decide +kernel
theorem dX12_goes_14 : decode cX12_goes 14 = .ok (.iload 5, 2) := by decide +kernel
theorem dX12_goes_16 : decode cX12_goes 16 = .ok (.aload_n 0, 1) := by decide +kernel
theorem dX12_goes_17 : decode cX12_goes 17 = .ok (.getfield 201, 3) := by decide +kernel
theorem dX12_goes_20 : decode cX12_goes 20 = .ok (.if_icmp .le 8, 3) := by decide +kernel
theorem dX12_goes_23 : decode cX12_goes 23 = .ok (.iload 5, 2) := by decide +kernel
theorem dX12_goes_25 : decode cX12_goes 25 = .ok (.goto 7, 3) := by decide +kernel
theorem dX12_goes_28 : decode cX12_goes 28 = .ok (.aload_n 0, 1) := by decide +kernel
theorem dX12_goes_29 : decode cX12_goes 29 = .ok (.getfield 201, 3) := by decide +kernel
theorem dX12_goes_32 : decode cX12_goes 32 = .ok (.putfield 201, 3) := by decide +kernel
theorem dX12_goes_35 : decode cX12_goes 35 = .ok (.iload 4, 2) := by decide +kernel
theorem dX12_goes_37 : decode cX12_goes 37 = .ok (.aload_n 0, 1) := by decide +kernel
theorem dX12_goes_38 : decode cX12_goes 38 = .ok (.invokevirtual 204, 3) := by decide +kernel
theorem dX12_goes_41 : decode cX12_goes 41 = .ok (.if_icmp .ne 10, 3) := by decide +kernel
theorem dX12_goes_44 : decode cX12_goes 44 = .ok (.aload_n 0, 1) := by decide +kernel
theorem dX12_goes_45 : decode cX12_goes 45 = .ok (.iload_n 1, 1) := by decide +kernel
theorem dX12_goes_46 : decode cX12_goes 46 = .ok (.iload_n 3, 1) := by decide +kernel
theorem dX12_goes_47 : decode cX12_goes 47 = .ok (.invokevirtual 207, 3) := by decide +kernel
theorem dX12_goes_50 : decode cX12_goes 50 = .ok (.return_, 1) := by decide +kernel
theorem dX12_goes_51 : decode cX12_goes 51 = .ok (.iload_n 1, 1) := by decide +kernel
theorem dX12_goes_52 : decode cX12_goes 52 = .ok (.iload_n 2, 1) := by decide +kernel
theorem dX12_goes_53 : decode cX12_goes 53 = .ok (.if_icmp .ne 4, 3) := by decide +kernel
theorem dX12_goes_56 : decode cX12_goes 56 = .ok (.return_, 1) := by decide +kernel
theorem dX12_goes_57 : decode cX12_goes 57 = .ok (.aload_n 0, 1) := by decide +kernel
theorem dX12_goes_58 : decode cX12_goes 58 = .ok (.iconst (-1), 1) := by decide +kernel
theorem dX12_goes_59 : decode cX12_goes 59 = .ok (.invokevirtual 179, 3) := by decide +kernel
theorem dX12_goes_62 : decode cX12_goes 62 = .ok (.istore 6, 2) := by decide +kernel
theorem dX12_goes_64 : decode cX12_goes 64 = .ok (.iload 6, 2) := by decide +kernel
theorem dX12_goes_66 : decode cX12_goes 66 = .ok (.ifCond .lt 62, 3) := by decide +kernel
theorem dX12_goes_69 : decode cX12_goes 69 = .ok (.aload_n 0, 1) := by decide +kernel
theorem dX12_goes_70 : decode cX12_goes 70 = .ok (.iload 6, 2) := by decide +kernel
theorem dX12_goes_72 : decode cX12_goes 72 = .ok (.invokevirtual 175, 3) := by decide +kernel
theorem dX12_goes_75 : decode cX12_goes 75 = .ok (.aload_n 0, 1) := by decide +kernel
theorem dX12_goes_76 : decode cX12_goes 76 = .ok (.getfield 165, 3) := by decide +kernel
theorem dX12_goes_79 : decode cX12_goes 79 = .ok (.istore 7, 2) := by decide +kernel
theorem dX12_goes_81 : decode cX12_goes 81 = .ok (.aload_n 0, 1) := by decide +kernel
theorem dX12_goes_82 : decode cX12_goes 82 = .ok (.getfield 168, 3) := by decide +kernel
theorem dX12_goes_85 : decode cX12_goes 85 = .ok (.istore 8, 2) := by decide +kernel
theorem dX12_goes_87 : decode cX12_goes 87 = .ok (.aload_n 0, 1) := by decide +kernel
theorem dX12_goes_88 : decode cX12_goes 88 = .ok (.getfield 26, 3) := by decide +kernel
theorem dX12_goes_91 : decode cX12_goes 91 = .ok (.iload_n 1, 1) := by decide +kernel
theorem dX12_goes_92 : decode cX12_goes 92 = .ok (.iload 6, 2) := by decide +kernel
theorem dX12_goes_94 : decode cX12_goes 94 = .ok (.iastore, 1) := by decide +kernel
theorem dX12_goes_95 : decode cX12_goes 95 = .ok (.aload_n 0, 1) := by decide +kernel
theorem dX12_goes_96 : decode cX12_goes 96 = .ok (.iload_n 1, 1) := by decide +kernel
theorem dX12_goes_97 : decode cX12_goes 97 = .ok (.iconst 1, 1) := by decide +kernel
theorem dX12_goes_98 : decode cX12_goes 98 = .ok (.iadd, 1) := by decide +kernel
theorem dX12_goes_99 : decode cX12_goes 99 = .ok (.iload_n 2, 1) := by decide +kernel
theorem dX12_goes_100 : decode cX12_goes 100 = .ok (.iload_n 3, 1) := by decide +kernel
theorem dX12_goes_101 : decode cX12_goes 101 = .ok (.iload 8, 2) := by decide +kernel
theorem dX12_goes_103 : decode cX12_goes 103 = .ok (.iadd, 1) := by decide +kernel
theorem dX12_goes_104 : decode cX12_goes 104 = .ok (.invokevirtual 210, 3) := by decide +kernel
theorem dX12_goes_107 : decode cX12_goes 107 = .ok (.aload_n 0, 1) := by decide +kernel
theorem dX12_goes_108 : decode cX12_goes 108 = .ok (.iload 6, 2) := by decide +kernel
theorem dX12_goes_110 : decode cX12_goes 110 = .ok (.iload 7, 2) := by decide +kernel
theorem dX12_goes_112 : decode cX12_goes 112 = .ok (.iload 8, 2) := by decide +kernel
theorem dX12_goes_114 : decode cX12_goes 114 = .ok (.invokevirtual 185, 3) := by decide +kernel
theorem dX12_goes_117 : decode cX12_goes 117 = .ok (.aload_n 0, 1) := by decide +kernel
theorem dX12_goes_118 : decode cX12_goes 118 = .ok (.iload 6, 2) := by decide +kernel
theorem dX12_goes_120 : decode cX12_goes 120 = .ok (.invokevirtual 179, 3) := by decide +kernel
theorem dX12_goes_123 : decode cX12_goes 123 = .ok (.istore 6, 2) := by decide +kernel
theorem dX12_goes_125 : decode cX12_goes 125 = .ok (.goto (-61), 3) := by decide +kernel
theorem dX12_goes_128 : decode cX12_goes 128 = .ok (.return_, 1) := by decide +kernel
theorem dX12_goesAll_0 : decode cX12_goesAll 0 = .ok (.aload_n 0, 1) := by decide +kernel
theorem dX12_goesAll_1 : decode cX12_goesAll 1 = .ok (.iconst 0, 1) := by decide +kernel
theorem dX12_goesAll_2 : decode cX12_goesAll 2 = .ok (.putfield 189, 3) := by decide +kernel
theorem dX12_goesAll_5 : decode cX12_goesAll 5 = .ok (.aload_n 0, 1) := by decide +kernel
theorem dX12_goesAll_6 : decode cX12_goesAll 6 = .ok (.iconst 0, 1) := by decide +kernel
theorem dX12_goesAll_7 : decode cX12_goesAll 7 = .ok (.putfield 201, 3) := by decide +kernel
theorem dX12_goesAll_10 : decode cX12_goesAll 10 = .ok (.aload_n 0, 1) := by decide +kernel
theorem dX12_goesAll_11 : decode cX12_goesAll 11 = .ok (.iconst (-1), 1) := by decide +kernel
theorem dX12_goesAll_12 : decode cX12_goesAll 12 = .ok (.putfield 192, 3) := by decide +kernel
theorem dX12_goesAll_15 : decode cX12_goesAll 15 = .ok (.aload_n 0, 1) := by decide +kernel
theorem dX12_goesAll_16 : decode cX12_goesAll 16 = .ok (.iconst (-1), 1) := by decide +kernel
theorem dX12_goesAll_17 : decode cX12_goesAll 17 = .ok (.putfield 195, 3) := by decide +kernel
theorem dX12_goesAll_20 : decode cX12_goesAll 20 = .ok (.aload_n 0, 1) := by decide +kernel
theorem dX12_goesAll_21 : decode cX12_goesAll 21 = .ok (.iconst 0, 1) := by decide +kernel
theorem dX12_goesAll_22 : decode cX12_goesAll 22 = .ok (.iload_n 1, 1) := by decide +kernel
theorem dX12_goesAll_23 : decode cX12_goesAll 23 = .ok (.iconst 0, 1) := by decide +kernel
theorem dX12_goesAll_24 : decode cX12_goesAll 24 = .ok (.invokevirtual 210, 3) := by decide +kernel
theorem dX12_goesAll_27 : decode cX12_goesAll 27 = .ok (.return_, 1) := by decide +kernel
theorem dX12_isLong_0 : decode cX12_isLong 0 = .ok (.iload_n 0, 1) := by decide +kernel
theorem dX12_isLong_1 : decode cX12_isLong 1 = .ok (.i2l, 1) := by decide +kernel
theorem dX12_isLong_2 : decode cX12_isLong 2 = .ok (.lconst 0, 1) := by decide +kernel
theorem dX12_isLong_3 : decode cX12_isLong 3 = .ok (.ldc2_w 126, 3) := by decide +kernel
theorem dX12_isLong_6 : decode cX12_isLong 6 = .ok (.invokestatic 68, 3) := by decide +kernel
theorem dX12_isLong_9 : decode cX12_isLong 9 = .ok (.ireturn, 1) := by decide +kernel
theorem dX12_isPlace_0 : decode cX12_isPlace 0 = .ok (.iload_n 0, 1) := by decide +kernel
theorem dX12_isPlace_1 : decode cX12_isPlace 1 = .ok (.i2l, 1) := by decide +kernel
theorem dX12_isPlace_2 : decode cX12_isPlace 2 = .ok (.lconst 0, 1) := by decide +kernel
theorem dX12_isPlace_3 : decode cX12_isPlace 3 = .ok (.ldc2_w 78, 3) := by decide +kernel
theorem dX12_isPlace_6 : decode cX12_isPlace 6 = .ok (.invokestatic 68, 3) := by decide +kernel
theorem dX12_isPlace_9 : decode cX12_isPlace 9 = .ok (.ireturn, 1) := by decide +kernel
theorem dX12_fewest_0 : decode cX12_fewest 0 = .ok (.aload_n 0, 1) := by decide +kernel
theorem dX12_fewest_1 : decode cX12_fewest 1 = .ok (.bipush 6, 2) := by decide +kernel
theorem dX12_fewest_3 : decode cX12_fewest 3 = .ok (.invokevirtual 213, 3) := by decide +kernel
theorem dX12_fewest_6 : decode cX12_fewest 6 = .ok (.aload_n 0, 1) := by decide +kernel
theorem dX12_fewest_7 : decode cX12_fewest 7 = .ok (.getfield 192, 3) := by decide +kernel
theorem dX12_fewest_10 : decode cX12_fewest 10 = .ok (.ifCond .ge 8, 3) := by decide +kernel
theorem dX12_fewest_13 : decode cX12_fewest 13 = .ok (.bipush (-3), 2) := by decide +kernel
theorem dX12_fewest_15 : decode cX12_fewest 15 = .ok (.goto 7, 3) := by decide +kernel
theorem dX12_fewest_18 : decode cX12_fewest 18 = .ok (.aload_n 0, 1) := by decide +kernel
theorem dX12_fewest_19 : decode cX12_fewest 19 = .ok (.getfield 192, 3) := by decide +kernel
theorem dX12_fewest_22 : decode cX12_fewest 22 = .ok (.ireturn, 1) := by decide +kernel
theorem dX12_ith_0 : decode cX12_ith 0 = .ok (.iload_n 1, 1) := by decide +kernel
theorem dX12_ith_1 : decode cX12_ith 1 = .ok (.invokestatic 216, 3) := by decide +kernel
theorem dX12_ith_4 : decode cX12_ith 4 = .ok (.ifCond .ne 5, 3) := by decide +kernel
theorem dX12_ith_7 : decode cX12_ith 7 = .ok (.iconst (-1), 1) := by decide +kernel
theorem dX12_ith_8 : decode cX12_ith 8 = .ok (.ireturn, 1) := by decide +kernel
theorem dX12_ith_9 : decode cX12_ith 9 = .ok (.aload_n 0, 1) := by decide +kernel
theorem dX12_ith_10 : decode cX12_ith 10 = .ok (.bipush 6, 2) := by decide +kernel
theorem dX12_ith_12 : decode cX12_ith 12 = .ok (.invokevirtual 213, 3) := by decide +kernel
theorem dX12_ith_15 : decode cX12_ith 15 = .ok (.iload_n 1, 1) := by decide +kernel
theorem dX12_ith_16 : decode cX12_ith 16 = .ok (.aload_n 0, 1) := by decide +kernel
theorem dX12_ith_17 : decode cX12_ith 17 = .ok (.getfield 192, 3) := by decide +kernel
theorem dX12_ith_20 : decode cX12_ith 20 = .ok (.if_icmp .ge 12, 3) := by decide +kernel
theorem dX12_ith_23 : decode cX12_ith 23 = .ok (.aload_n 0, 1) := by decide +kernel
theorem dX12_ith_24 : decode cX12_ith 24 = .ok (.getfield 29, 3) := by decide +kernel
theorem dX12_ith_27 : decode cX12_ith 27 = .ok (.iload_n 1, 1) := by decide +kernel
theorem dX12_ith_28 : decode cX12_ith 28 = .ok (.iaload, 1) := by decide +kernel
theorem dX12_ith_29 : decode cX12_ith 29 = .ok (.goto 5, 3) := by decide +kernel
theorem dX12_ith_32 : decode cX12_ith 32 = .ok (.bipush (-3), 2) := by decide +kernel
theorem dX12_ith_34 : decode cX12_ith 34 = .ok (.ireturn, 1) := by decide +kernel
theorem dX12_ways_0 : decode cX12_ways 0 = .ok (.iload_n 1, 1) := by decide +kernel
theorem dX12_ways_1 : decode cX12_ways 1 = .ok (.invokestatic 219, 3) := by decide +kernel
theorem dX12_ways_4 : decode cX12_ways 4 = .ok (.ifCond .ne 5, 3) := by decide +kernel
theorem dX12_ways_7 : decode cX12_ways 7 = .ok (.iconst (-1), 1) := by decide +kernel
theorem dX12_ways_8 : decode cX12_ways 8 = .ok (.ireturn, 1) := by decide +kernel
theorem dX12_ways_9 : decode cX12_ways 9 = .ok (.aload_n 0, 1) := by decide +kernel
theorem dX12_ways_10 : decode cX12_ways 10 = .ok (.iload_n 1, 1) := by decide +kernel
theorem dX12_ways_11 : decode cX12_ways 11 = .ok (.invokevirtual 213, 3) := by decide +kernel
theorem dX12_ways_14 : decode cX12_ways 14 = .ok (.aload_n 0, 1) := by decide +kernel
theorem dX12_ways_15 : decode cX12_ways 15 = .ok (.getfield 189, 3) := by decide +kernel
theorem dX12_ways_18 : decode cX12_ways 18 = .ok (.ireturn, 1) := by decide +kernel
theorem dX12_most_0 : decode cX12_most 0 = .ok (.iload_n 1, 1) := by decide +kernel
theorem dX12_most_1 : decode cX12_most 1 = .ok (.invokestatic 219, 3) := by decide +kernel
theorem dX12_most_4 : decode cX12_most 4 = .ok (.ifCond .ne 5, 3) := by decide +kernel
theorem dX12_most_7 : decode cX12_most 7 = .ok (.iconst (-1), 1) := by decide +kernel
theorem dX12_most_8 : decode cX12_most 8 = .ok (.ireturn, 1) := by decide +kernel
theorem dX12_most_9 : decode cX12_most 9 = .ok (.aload_n 0, 1) := by decide +kernel
theorem dX12_most_10 : decode cX12_most 10 = .ok (.iload_n 1, 1) := by decide +kernel
theorem dX12_most_11 : decode cX12_most 11 = .ok (.invokevirtual 213, 3) := by decide +kernel
theorem dX12_most_14 : decode cX12_most 14 = .ok (.aload_n 0, 1) := by decide +kernel
theorem dX12_most_15 : decode cX12_most 15 = .ok (.getfield 201, 3) := by decide +kernel
theorem dX12_most_18 : decode cX12_most 18 = .ok (.ireturn, 1) := by decide +kernel
theorem dX12_cheapest_0 : decode cX12_cheapest 0 = .ok (.iload_n 1, 1) := by decide +kernel
theorem dX12_cheapest_1 : decode cX12_cheapest 1 = .ok (.invokestatic 219, 3) := by decide +kernel
theorem dX12_cheapest_4 : decode cX12_cheapest 4 = .ok (.ifCond .ne 5, 3) := by decide +kernel
theorem dX12_cheapest_7 : decode cX12_cheapest 7 = .ok (.iconst (-1), 1) := by decide +kernel
theorem dX12_cheapest_8 : decode cX12_cheapest 8 = .ok (.ireturn, 1) := by decide +kernel
theorem dX12_cheapest_9 : decode cX12_cheapest 9 = .ok (.aload_n 0, 1) := by decide +kernel
theorem dX12_cheapest_10 : decode cX12_cheapest 10 = .ok (.iload_n 1, 1) := by decide +kernel
theorem dX12_cheapest_11 : decode cX12_cheapest 11 = .ok (.invokevirtual 213, 3) := by decide +kernel
theorem dX12_cheapest_14 : decode cX12_cheapest 14 = .ok (.aload_n 0, 1) := by decide +kernel
theorem dX12_cheapest_15 : decode cX12_cheapest 15 = .ok (.getfield 195, 3) := by decide +kernel
theorem dX12_cheapest_18 : decode cX12_cheapest 18 = .ok (.ifCond .ge 8, 3) := by decide +kernel
theorem dX12_cheapest_21 : decode cX12_cheapest 21 = .ok (.bipush (-3), 2) := by decide +kernel
theorem dX12_cheapest_23 : decode cX12_cheapest 23 = .ok (.goto 7, 3) := by decide +kernel
theorem dX12_cheapest_26 : decode cX12_cheapest 26 = .ok (.aload_n 0, 1) := by decide +kernel
theorem dX12_cheapest_27 : decode cX12_cheapest 27 = .ok (.getfield 195, 3) := by decide +kernel
theorem dX12_cheapest_30 : decode cX12_cheapest 30 = .ok (.ireturn, 1) := by decide +kernel
theorem dX12_cheaply_0 : decode cX12_cheaply 0 = .ok (.iload_n 1, 1) := by decide +kernel
theorem dX12_cheaply_1 : decode cX12_cheaply 1 = .ok (.invokestatic 219, 3) := by decide +kernel
theorem dX12_cheaply_4 : decode cX12_cheaply 4 = .ok (.ifCond .eq 10, 3) := by decide +kernel
theorem dX12_cheaply_7 : decode cX12_cheaply 7 = .ok (.iload_n 2, 1) := by decide +kernel
theorem dX12_cheaply_8 : decode cX12_cheaply 8 = .ok (.invokestatic 216, 3) := by decide +kernel
theorem dX12_cheaply_11 : decode cX12_cheaply 11 = .ok (.ifCond .ne 5, 3) := by decide +kernel
theorem dX12_cheaply_14 : decode cX12_cheaply 14 = .ok (.iconst (-1), 1) := by decide +kernel
theorem dX12_cheaply_15 : decode cX12_cheaply 15 = .ok (.ireturn, 1) := by decide +kernel
theorem dX12_cheaply_16 : decode cX12_cheaply 16 = .ok (.aload_n 0, 1) := by decide +kernel
theorem dX12_cheaply_17 : decode cX12_cheaply 17 = .ok (.iload_n 1, 1) := by decide +kernel
theorem dX12_cheaply_18 : decode cX12_cheaply 18 = .ok (.invokevirtual 213, 3) := by decide +kernel
theorem dX12_cheaply_21 : decode cX12_cheaply 21 = .ok (.aload_n 0, 1) := by decide +kernel
theorem dX12_cheaply_22 : decode cX12_cheaply 22 = .ok (.getfield 195, 3) := by decide +kernel
theorem dX12_cheaply_25 : decode cX12_cheaply 25 = .ok (.ifCond .lt 20, 3) := by decide +kernel
theorem dX12_cheaply_28 : decode cX12_cheaply 28 = .ok (.iload_n 2, 1) := by decide +kernel
theorem dX12_cheaply_29 : decode cX12_cheaply 29 = .ok (.aload_n 0, 1) := by decide +kernel
theorem dX12_cheaply_30 : decode cX12_cheaply 30 = .ok (.getfield 198, 3) := by decide +kernel
theorem dX12_cheaply_33 : decode cX12_cheaply 33 = .ok (.if_icmp .ge 12, 3) := by decide +kernel
theorem dX12_cheaply_36 : decode cX12_cheaply 36 = .ok (.aload_n 0, 1) := by decide +kernel
theorem dX12_cheaply_37 : decode cX12_cheaply 37 = .ok (.getfield 32, 3) := by decide +kernel
theorem dX12_cheaply_40 : decode cX12_cheaply 40 = .ok (.iload_n 2, 1) := by decide +kernel
theorem dX12_cheaply_41 : decode cX12_cheaply 41 = .ok (.iaload, 1) := by decide +kernel
theorem dX12_cheaply_42 : decode cX12_cheaply 42 = .ok (.goto 5, 3) := by decide +kernel
theorem dX12_cheaply_45 : decode cX12_cheaply 45 = .ok (.bipush (-3), 2) := by decide +kernel
theorem dX12_cheaply_47 : decode cX12_cheaply 47 = .ok (.ireturn, 1) := by decide +kernel
theorem dX12_bars_0 : decode cX12_bars 0 = .ok (.aload_n 0, 1) := by decide +kernel
theorem dX12_bars_1 : decode cX12_bars 1 = .ok (.bipush 6, 2) := by decide +kernel
theorem dX12_bars_3 : decode cX12_bars 3 = .ok (.invokevirtual 213, 3) := by decide +kernel
theorem dX12_bars_6 : decode cX12_bars 6 = .ok (.iconst 0, 1) := by decide +kernel
theorem dX12_bars_7 : decode cX12_bars 7 = .ok (.istore_n 1, 1) := by decide +kernel
theorem dX12_bars_8 : decode cX12_bars 8 = .ok (.iconst 0, 1) := by decide +kernel
theorem dX12_bars_9 : decode cX12_bars 9 = .ok (.istore_n 2, 1) := by decide +kernel
theorem dX12_bars_10 : decode cX12_bars 10 = .ok (.iload_n 2, 1) := by decide +kernel
theorem dX12_bars_11 : decode cX12_bars 11 = .ok (.aload_n 0, 1) := by decide +kernel
theorem dX12_bars_12 : decode cX12_bars 12 = .ok (.getfield 7, 3) := by decide +kernel
theorem dX12_bars_15 : decode cX12_bars 15 = .ok (.iconst 0, 1) := by decide +kernel
theorem dX12_bars_16 : decode cX12_bars 16 = .ok (.iaload, 1) := by decide +kernel
theorem dX12_bars_17 : decode cX12_bars 17 = .ok (.if_icmp .ge 54, 3) := by decide +kernel
theorem dX12_bars_20 : decode cX12_bars 20 = .ok (.aload_n 0, 1) := by decide +kernel
theorem dX12_bars_21 : decode cX12_bars 21 = .ok (.getfield 189, 3) := by decide +kernel
theorem dX12_bars_24 : decode cX12_bars 24 = .ok (.ifCond .ne 47, 3) := by decide +kernel
theorem dX12_bars_27 : decode cX12_bars 27 = .ok (.aload_n 0, 1) := by decide +kernel
theorem dX12_bars_28 : decode cX12_bars 28 = .ok (.iload_n 2, 1) := by decide +kernel
theorem dX12_bars_29 : decode cX12_bars 29 = .ok (.putfield 19, 3) := by decide +kernel
theorem dX12_bars_32 : decode cX12_bars 32 = .ok (.aload_n 0, 1) := by decide +kernel
theorem dX12_bars_33 : decode cX12_bars 33 = .ok (.bipush 6, 2) := by decide +kernel
theorem dX12_bars_35 : decode cX12_bars 35 = .ok (.invokevirtual 213, 3) := by decide +kernel
theorem dX12_bars_38 : decode cX12_bars 38 = .ok (.iload_n 1, 1) := by decide +kernel
theorem dX12_bars_39 : decode cX12_bars 39 = .ok (.aload_n 0, 1) := by decide +kernel
theorem dX12_bars_40 : decode cX12_bars 40 = .ok (.getfield 189, 3) := by decide +kernel
theorem dX12_bars_43 : decode cX12_bars 43 = .ok (.ifCond .le 9, 3) := by decide +kernel
theorem dX12_bars_46 : decode cX12_bars 46 = .ok (.iconst 1, 1) := by decide +kernel
theorem dX12_bars_47 : decode cX12_bars 47 = .ok (.iload_n 2, 1) := by decide +kernel
theorem dX12_bars_48 : decode cX12_bars 48 = .ok (.ishl, 1) := by decide +kernel
theorem dX12_bars_49 : decode cX12_bars 49 = .ok (.goto 4, 3) := by decide +kernel
theorem dX12_bars_52 : decode cX12_bars 52 = .ok (.iconst 0, 1) := by decide +kernel
theorem dX12_bars_53 : decode cX12_bars 53 = .ok (.ior, 1) := by decide +kernel
theorem dX12_bars_54 : decode cX12_bars 54 = .ok (.istore_n 1, 1) := by decide +kernel
theorem dX12_bars_55 : decode cX12_bars 55 = .ok (.aload_n 0, 1) := by decide +kernel
theorem dX12_bars_56 : decode cX12_bars 56 = .ok (.iconst (-1), 1) := by decide +kernel
theorem dX12_bars_57 : decode cX12_bars 57 = .ok (.putfield 19, 3) := by decide +kernel
theorem dX12_bars_60 : decode cX12_bars 60 = .ok (.aload_n 0, 1) := by decide +kernel
theorem dX12_bars_61 : decode cX12_bars 61 = .ok (.iconst 0, 1) := by decide +kernel
theorem dX12_bars_62 : decode cX12_bars 62 = .ok (.putfield 189, 3) := by decide +kernel
theorem dX12_bars_65 : decode cX12_bars 65 = .ok (.iinc 2 1, 3) := by decide +kernel
theorem dX12_bars_68 : decode cX12_bars 68 = .ok (.goto (-58), 3) := by decide +kernel
theorem dX12_bars_71 : decode cX12_bars 71 = .ok (.iload_n 1, 1) := by decide +kernel
theorem dX12_bars_72 : decode cX12_bars 72 = .ok (.ireturn, 1) := by decide +kernel
theorem dX12_jars_0 : decode cX12_jars 0 = .ok (.aload_n 0, 1) := by decide +kernel
theorem dX12_jars_1 : decode cX12_jars 1 = .ok (.bipush 6, 2) := by decide +kernel
theorem dX12_jars_3 : decode cX12_jars 3 = .ok (.invokevirtual 213, 3) := by decide +kernel
theorem dX12_jars_6 : decode cX12_jars 6 = .ok (.aload_n 0, 1) := by decide +kernel
theorem dX12_jars_7 : decode cX12_jars 7 = .ok (.getfield 201, 3) := by decide +kernel
theorem dX12_jars_10 : decode cX12_jars 10 = .ok (.istore_n 1, 1) := by decide +kernel
theorem dX12_jars_11 : decode cX12_jars 11 = .ok (.bipush (-3), 2) := by decide +kernel
theorem dX12_jars_13 : decode cX12_jars 13 = .ok (.istore_n 2, 1) := by decide +kernel
theorem dX12_jars_14 : decode cX12_jars 14 = .ok (.iconst 0, 1) := by decide +kernel
theorem dX12_jars_15 : decode cX12_jars 15 = .ok (.istore_n 3, 1) := by decide +kernel
theorem dX12_jars_16 : decode cX12_jars 16 = .ok (.iload_n 3, 1) := by decide +kernel
theorem dX12_jars_17 : decode cX12_jars 17 = .ok (.bipush 8, 2) := by decide +kernel
theorem dX12_jars_19 : decode cX12_jars 19 = .ok (.if_icmp .ge 72, 3) := by decide +kernel
theorem dX12_jars_22 : decode cX12_jars 22 = .ok (.aload_n 0, 1) := by decide +kernel
theorem dX12_jars_23 : decode cX12_jars 23 = .ok (.getfield 7, 3) := by decide +kernel
theorem dX12_jars_26 : decode cX12_jars 26 = .ok (.bipush 14, 2) := by decide +kernel
theorem dX12_jars_28 : decode cX12_jars 28 = .ok (.iload_n 3, 1) := by decide +kernel
theorem dX12_jars_29 : decode cX12_jars 29 = .ok (.iadd, 1) := by decide +kernel
theorem dX12_jars_30 : decode cX12_jars 30 = .ok (.dup2, 1) := by decide +kernel
theorem dX12_jars_31 : decode cX12_jars 31 = .ok (.iaload, 1) := by decide +kernel
theorem dX12_jars_32 : decode cX12_jars 32 = .ok (.iconst 1, 1) := by decide +kernel
theorem dX12_jars_33 : decode cX12_jars 33 = .ok (.iadd, 1) := by decide +kernel
theorem dX12_jars_34 : decode cX12_jars 34 = .ok (.iastore, 1) := by decide +kernel
theorem dX12_jars_35 : decode cX12_jars 35 = .ok (.aload_n 0, 1) := by decide +kernel
theorem dX12_jars_36 : decode cX12_jars 36 = .ok (.bipush 6, 2) := by decide +kernel
theorem dX12_jars_38 : decode cX12_jars 38 = .ok (.invokevirtual 213, 3) := by decide +kernel
theorem dX12_jars_41 : decode cX12_jars 41 = .ok (.aload_n 0, 1) := by decide +kernel
theorem dX12_jars_42 : decode cX12_jars 42 = .ok (.getfield 7, 3) := by decide +kernel
theorem dX12_jars_45 : decode cX12_jars 45 = .ok (.bipush 14, 2) := by decide +kernel
theorem dX12_jars_47 : decode cX12_jars 47 = .ok (.iload_n 3, 1) := by decide +kernel
theorem dX12_jars_48 : decode cX12_jars 48 = .ok (.iadd, 1) := by decide +kernel
theorem dX12_jars_49 : decode cX12_jars 49 = .ok (.dup2, 1) := by decide +kernel
theorem dX12_jars_50 : decode cX12_jars 50 = .ok (.iaload, 1) := by decide +kernel
theorem dX12_jars_51 : decode cX12_jars 51 = .ok (.iconst 1, 1) := by decide +kernel
theorem dX12_jars_52 : decode cX12_jars 52 = .ok (.isub, 1) := by decide +kernel
theorem dX12_jars_53 : decode cX12_jars 53 = .ok (.iastore, 1) := by decide +kernel
theorem dX12_jars_54 : decode cX12_jars 54 = .ok (.aload_n 0, 1) := by decide +kernel
theorem dX12_jars_55 : decode cX12_jars 55 = .ok (.getfield 201, 3) := by decide +kernel
theorem dX12_jars_58 : decode cX12_jars 58 = .ok (.iload_n 1, 1) := by decide +kernel
theorem dX12_jars_59 : decode cX12_jars 59 = .ok (.if_icmp .le 7, 3) := by decide +kernel
theorem dX12_jars_62 : decode cX12_jars 62 = .ok (.iload_n 3, 1) := by decide +kernel
theorem dX12_jars_63 : decode cX12_jars 63 = .ok (.goto 4, 3) := by decide +kernel
theorem dX12_jars_66 : decode cX12_jars 66 = .ok (.iload_n 2, 1) := by decide +kernel
theorem dX12_jars_67 : decode cX12_jars 67 = .ok (.istore_n 2, 1) := by decide +kernel
theorem dX12_jars_68 : decode cX12_jars 68 = .ok (.aload_n 0, 1) := by decide +kernel
theorem dX12_jars_69 : decode cX12_jars 69 = .ok (.getfield 201, 3) := by decide +kernel
theorem dX12_jars_72 : decode cX12_jars 72 = .ok (.iload_n 1, 1) := by decide +kernel
theorem dX12_jars_73 : decode cX12_jars 73 = .ok (.if_icmp .le 10, 3) := by decide +kernel
theorem dX12_jars_76 : decode cX12_jars 76 = .ok (.aload_n 0, 1) := by decide +kernel
theorem dX12_jars_77 : decode cX12_jars 77 = .ok (.getfield 201, 3) := by decide +kernel
theorem dX12_jars_80 : decode cX12_jars 80 = .ok (.goto 4, 3) := by decide +kernel
theorem dX12_jars_83 : decode cX12_jars 83 = .ok (.iload_n 1, 1) := by decide +kernel
theorem dX12_jars_84 : decode cX12_jars 84 = .ok (.istore_n 1, 1) := by decide +kernel
theorem dX12_jars_85 : decode cX12_jars 85 = .ok (.iinc 3 1, 3) := by decide +kernel
theorem dX12_jars_88 : decode cX12_jars 88 = .ok (.goto (-72), 3) := by decide +kernel
theorem dX12_jars_91 : decode cX12_jars 91 = .ok (.iload_n 2, 1) := by decide +kernel
theorem dX12_jars_92 : decode cX12_jars 92 = .ok (.ireturn, 1) := by decide +kernel
theorem dX12_feeFor_0 : decode cX12_feeFor 0 = .ok (.iload_n 1, 1) := by decide +kernel
theorem dX12_feeFor_1 : decode cX12_feeFor 1 = .ok (.i2l, 1) := by decide +kernel
theorem dX12_feeFor_2 : decode cX12_feeFor 2 = .ok (.lconst 1, 1) := by decide +kernel
theorem dX12_feeFor_3 : decode cX12_feeFor 3 = .ok (.ldc2_w 126, 3) := by decide +kernel
theorem dX12_feeFor_6 : decode cX12_feeFor 6 = .ok (.invokestatic 68, 3) := by decide +kernel
theorem dX12_feeFor_9 : decode cX12_feeFor 9 = .ok (.ifCond .ne 5, 3) := by decide +kernel
theorem dX12_feeFor_12 : decode cX12_feeFor 12 = .ok (.iconst (-1), 1) := by decide +kernel
theorem dX12_feeFor_13 : decode cX12_feeFor 13 = .ok (.ireturn, 1) := by decide +kernel
theorem dX12_feeFor_14 : decode cX12_feeFor 14 = .ok (.aload_n 0, 1) := by decide +kernel
theorem dX12_feeFor_15 : decode cX12_feeFor 15 = .ok (.getfield 7, 3) := by decide +kernel
theorem dX12_feeFor_18 : decode cX12_feeFor 18 = .ok (.iconst 2, 1) := by decide +kernel
theorem dX12_feeFor_19 : decode cX12_feeFor 19 = .ok (.iaload, 1) := by decide +kernel
theorem dX12_feeFor_20 : decode cX12_feeFor 20 = .ok (.istore_n 2, 1) := by decide +kernel
theorem dX12_feeFor_21 : decode cX12_feeFor 21 = .ok (.bipush (-3), 2) := by decide +kernel
theorem dX12_feeFor_23 : decode cX12_feeFor 23 = .ok (.istore_n 3, 1) := by decide +kernel
theorem dX12_feeFor_24 : decode cX12_feeFor 24 = .ok (.bipush 50, 2) := by decide +kernel
theorem dX12_feeFor_26 : decode cX12_feeFor 26 = .ok (.istore 4, 2) := by decide +kernel
theorem dX12_feeFor_28 : decode cX12_feeFor 28 = .ok (.iload 4, 2) := by decide +kernel
theorem dX12_feeFor_30 : decode cX12_feeFor 30 = .ok (.ifCond .lt 41, 3) := by decide +kernel
theorem dX12_feeFor_33 : decode cX12_feeFor 33 = .ok (.iload_n 3, 1) := by decide +kernel
theorem dX12_feeFor_34 : decode cX12_feeFor 34 = .ok (.ifCond .ge 37, 3) := by decide +kernel
theorem dX12_feeFor_37 : decode cX12_feeFor 37 = .ok (.aload_n 0, 1) := by decide +kernel
theorem dX12_feeFor_38 : decode cX12_feeFor 38 = .ok (.getfield 7, 3) := by decide +kernel
theorem dX12_feeFor_41 : decode cX12_feeFor 41 = .ok (.iconst 2, 1) := by decide +kernel
theorem dX12_feeFor_42 : decode cX12_feeFor 42 = .ok (.iload 4, 2) := by decide +kernel
theorem dX12_feeFor_44 : decode cX12_feeFor 44 = .ok (.iastore, 1) := by decide +kernel
theorem dX12_feeFor_45 : decode cX12_feeFor 45 = .ok (.aload_n 0, 1) := by decide +kernel
theorem dX12_feeFor_46 : decode cX12_feeFor 46 = .ok (.iload_n 1, 1) := by decide +kernel
theorem dX12_feeFor_47 : decode cX12_feeFor 47 = .ok (.invokevirtual 213, 3) := by decide +kernel
theorem dX12_feeFor_50 : decode cX12_feeFor 50 = .ok (.aload_n 0, 1) := by decide +kernel
theorem dX12_feeFor_51 : decode cX12_feeFor 51 = .ok (.getfield 189, 3) := by decide +kernel
theorem dX12_feeFor_54 : decode cX12_feeFor 54 = .ok (.ifCond .le 8, 3) := by decide +kernel
theorem dX12_feeFor_57 : decode cX12_feeFor 57 = .ok (.iload 4, 2) := by decide +kernel
theorem dX12_feeFor_59 : decode cX12_feeFor 59 = .ok (.goto 5, 3) := by decide +kernel
theorem dX12_feeFor_62 : decode cX12_feeFor 62 = .ok (.bipush (-3), 2) := by decide +kernel
theorem dX12_feeFor_64 : decode cX12_feeFor 64 = .ok (.istore_n 3, 1) := by decide +kernel
theorem dX12_feeFor_65 : decode cX12_feeFor 65 = .ok (.iinc 4 (-1), 3) := by decide +kernel
theorem dX12_feeFor_68 : decode cX12_feeFor 68 = .ok (.goto (-40), 3) := by decide +kernel
theorem dX12_feeFor_71 : decode cX12_feeFor 71 = .ok (.aload_n 0, 1) := by decide +kernel
theorem dX12_feeFor_72 : decode cX12_feeFor 72 = .ok (.getfield 7, 3) := by decide +kernel
theorem dX12_feeFor_75 : decode cX12_feeFor 75 = .ok (.iconst 2, 1) := by decide +kernel
theorem dX12_feeFor_76 : decode cX12_feeFor 76 = .ok (.iload_n 2, 1) := by decide +kernel
theorem dX12_feeFor_77 : decode cX12_feeFor 77 = .ok (.iastore, 1) := by decide +kernel
theorem dX12_feeFor_78 : decode cX12_feeFor 78 = .ok (.iload_n 3, 1) := by decide +kernel
theorem dX12_feeFor_79 : decode cX12_feeFor 79 = .ok (.ireturn, 1) := by decide +kernel
theorem dX12_isLink_0 : decode cX12_isLink 0 = .ok (.aload_n 0, 1) := by decide +kernel
theorem dX12_isLink_1 : decode cX12_isLink 1 = .ok (.iload_n 1, 1) := by decide +kernel
theorem dX12_isLink_2 : decode cX12_isLink 2 = .ok (.iload_n 2, 1) := by decide +kernel
theorem dX12_isLink_3 : decode cX12_isLink 3 = .ok (.invokevirtual 134, 3) := by decide +kernel
theorem dX12_isLink_6 : decode cX12_isLink 6 = .ok (.ifCond .eq 22, 3) := by decide +kernel
theorem dX12_isLink_9 : decode cX12_isLink 9 = .ok (.aload_n 0, 1) := by decide +kernel
theorem dX12_isLink_10 : decode cX12_isLink 10 = .ok (.iload_n 1, 1) := by decide +kernel
theorem dX12_isLink_11 : decode cX12_isLink 11 = .ok (.iconst 2, 1) := by decide +kernel
theorem dX12_isLink_12 : decode cX12_isLink 12 = .ok (.invokevirtual 93, 3) := by decide +kernel
theorem dX12_isLink_15 : decode cX12_isLink 15 = .ok (.aload_n 0, 1) := by decide +kernel
theorem dX12_isLink_16 : decode cX12_isLink 16 = .ok (.iload_n 2, 1) := by decide +kernel
theorem dX12_isLink_17 : decode cX12_isLink 17 = .ok (.iconst 1, 1) := by decide +kernel
theorem dX12_isLink_18 : decode cX12_isLink 18 = .ok (.invokevirtual 93, 3) := by decide +kernel
theorem dX12_isLink_21 : decode cX12_isLink 21 = .ok (.if_icmp .ne 7, 3) := by decide +kernel
theorem dX12_isLink_24 : decode cX12_isLink 24 = .ok (.iconst 1, 1) := by decide +kernel
theorem dX12_isLink_25 : decode cX12_isLink 25 = .ok (.goto 4, 3) := by decide +kernel
theorem dX12_isLink_28 : decode cX12_isLink 28 = .ok (.iconst 0, 1) := by decide +kernel
theorem dX12_isLink_29 : decode cX12_isLink 29 = .ok (.ireturn, 1) := by decide +kernel
theorem dX12_circles_0 : decode cX12_circles 0 = .ok (.aload_n 0, 1) := by decide +kernel
theorem dX12_circles_1 : decode cX12_circles 1 = .ok (.getfield 35, 3) := by decide +kernel
theorem dX12_circles_4 : decode cX12_circles 4 = .ok (.iload_n 1, 1) := by decide +kernel
theorem dX12_circles_5 : decode cX12_circles 5 = .ok (.iconst 1, 1) := by decide +kernel
theorem dX12_circles_6 : decode cX12_circles 6 = .ok (.isub, 1) := by decide +kernel
theorem dX12_circles_7 : decode cX12_circles 7 = .ok (.iaload, 1) := by decide +kernel
theorem dX12_circles_8 : decode cX12_circles 8 = .ok (.istore 4, 2) := by decide +kernel
theorem dX12_circles_10 : decode cX12_circles 10 = .ok (.iload_n 1, 1) := by decide +kernel
theorem dX12_circles_11 : decode cX12_circles 11 = .ok (.iload_n 3, 1) := by decide +kernel
theorem dX12_circles_12 : decode cX12_circles 12 = .ok (.if_icmp .ne 65, 3) := by decide +kernel
theorem dX12_circles_15 : decode cX12_circles 15 = .ok (.aload_n 0, 1) := by decide +kernel
theorem dX12_circles_16 : decode cX12_circles 16 = .ok (.iload 4, 2) := by decide +kernel
theorem dX12_circles_18 : decode cX12_circles 18 = .ok (.aload_n 0, 1) := by decide +kernel
theorem dX12_circles_19 : decode cX12_circles 19 = .ok (.getfield 35, 3) := by decide +kernel
theorem dX12_circles_22 : decode cX12_circles 22 = .ok (.iconst 0, 1) := by decide +kernel
theorem dX12_circles_23 : decode cX12_circles 23 = .ok (.iaload, 1) := by decide +kernel
theorem dX12_circles_24 : decode cX12_circles 24 = .ok (.invokevirtual 222, 3) := by decide +kernel
theorem dX12_circles_27 : decode cX12_circles 27 = .ok (.ifCond .eq 49, 3) := by decide +kernel
theorem dX12_circles_30 : decode cX12_circles 30 = .ok (.iconst 0, 1) := by decide +kernel
theorem dX12_circles_31 : decode cX12_circles 31 = .ok (.istore 5, 2) := by decide +kernel
theorem dX12_circles_33 : decode cX12_circles 33 = .ok (.iload 5, 2) := by decide +kernel
theorem dX12_circles_35 : decode cX12_circles 35 = .ok (.iload_n 3, 1) := by decide +kernel
theorem dX12_circles_36 : decode cX12_circles 36 = .ok (.if_icmp .ge 30, 3) := by decide +kernel
theorem dX12_circles_39 : decode cX12_circles 39 = .ok (.aload_n 0, 1) := by decide +kernel
theorem dX12_circles_40 : decode cX12_circles 40 = .ok (.getfield 225, 3) := by decide +kernel
theorem dX12_circles_43 : decode cX12_circles 43 = .ok (.ifCond .ne 23, 3) := by decide +kernel
theorem dX12_circles_46 : decode cX12_circles 46 = .ok (.aload_n 0, 1) := by decide +kernel
theorem dX12_circles_47 : decode cX12_circles 47 = .ok (.getfield 38, 3) := by decide +kernel
theorem dX12_circles_50 : decode cX12_circles 50 = .ok (.iload 5, 2) := by decide +kernel
theorem dX12_circles_52 : decode cX12_circles 52 = .ok (.aload_n 0, 1) := by decide +kernel
theorem dX12_circles_53 : decode cX12_circles 53 = .ok (.getfield 35, 3) := by decide +kernel
theorem dX12_circles_56 : decode cX12_circles 56 = .ok (.iload 5, 2) := by decide +kernel
theorem dX12_circles_58 : decode cX12_circles 58 = .ok (.iaload, 1) := by decide +kernel
theorem dX12_circles_59 : decode cX12_circles 59 = .ok (.iastore, 1) := by decide +kernel
theorem dX12_circles_60 : decode cX12_circles 60 = .ok (.iinc 5 1, 3) := by decide +kernel
theorem dX12_circles_63 : decode cX12_circles 63 = .ok (.goto (-30), 3) := by decide +kernel
theorem dX12_circles_66 : decode cX12_circles 66 = .ok (.aload_n 0, 1) := by decide +kernel
theorem dX12_circles_67 : decode cX12_circles 67 = .ok (.dup, 1) := by decide +kernel
theorem dX12_circles_68 : decode cX12_circles 68 = .ok (.getfield 225, 3) := by decide +kernel
theorem dX12_circles_71 : decode cX12_circles 71 = .ok (.iconst 1, 1) := by decide +kernel
theorem dX12_circles_72 : decode cX12_circles 72 = .ok (.iadd, 1) := by decide +kernel
theorem dX12_circles_73 : decode cX12_circles 73 = .ok (.putfield 225, 3) := by decide +kernel
theorem dX12_circles_76 : decode cX12_circles 76 = .ok (.return_, 1) := by decide +kernel
theorem dX12_circles_77 : decode cX12_circles 77 = .ok (.aload_n 0, 1) := by decide +kernel
theorem dX12_circles_78 : decode cX12_circles 78 = .ok (.getfield 35, 3) := by decide +kernel
theorem dX12_circles_81 : decode cX12_circles 81 = .ok (.iconst 0, 1) := by decide +kernel
theorem dX12_circles_82 : decode cX12_circles 82 = .ok (.iaload, 1) := by decide +kernel
theorem dX12_circles_83 : decode cX12_circles 83 = .ok (.iconst 1, 1) := by decide +kernel
theorem dX12_circles_84 : decode cX12_circles 84 = .ok (.iadd, 1) := by decide +kernel
theorem dX12_circles_85 : decode cX12_circles 85 = .ok (.istore 5, 2) := by decide +kernel
theorem dX12_circles_87 : decode cX12_circles 87 = .ok (.iload 5, 2) := by decide +kernel
theorem dX12_circles_89 : decode cX12_circles 89 = .ok (.aload_n 0, 1) := by decide +kernel
theorem dX12_circles_90 : decode cX12_circles 90 = .ok (.getfield 7, 3) := by decide +kernel
theorem dX12_circles_93 : decode cX12_circles 93 = .ok (.iconst 0, 1) := by decide +kernel
theorem dX12_circles_94 : decode cX12_circles 94 = .ok (.iaload, 1) := by decide +kernel
theorem dX12_circles_95 : decode cX12_circles 95 = .ok (.if_icmp .ge 60, 3) := by decide +kernel
theorem dX12_circles_98 : decode cX12_circles 98 = .ok (.iload_n 2, 1) := by decide +kernel
theorem dX12_circles_99 : decode cX12_circles 99 = .ok (.iload 5, 2) := by decide +kernel
theorem dX12_circles_101 : decode cX12_circles 101 = .ok (.ishr, 1) := by decide +kernel
theorem dX12_circles_102 : decode cX12_circles 102 = .ok (.iconst 1, 1) := by decide +kernel
theorem dX12_circles_103 : decode cX12_circles 103 = .ok (.iand, 1) := by decide +kernel
theorem dX12_circles_104 : decode cX12_circles 104 = .ok (.ifCond .ne 45, 3) := by decide +kernel
theorem dX12_circles_107 : decode cX12_circles 107 = .ok (.aload_n 0, 1) := by decide +kernel
theorem dX12_circles_108 : decode cX12_circles 108 = .ok (.iload 5, 2) := by decide +kernel
theorem dX12_circles_110 : decode cX12_circles 110 = .ok (.invokevirtual 96, 3) := by decide +kernel
theorem dX12_circles_113 : decode cX12_circles 113 = .ok (.ifCond .ne 36, 3) := by decide +kernel
theorem dX12_circles_116 : decode cX12_circles 116 = .ok (.aload_n 0, 1) := by decide +kernel
theorem dX12_circles_117 : decode cX12_circles 117 = .ok (.iload 4, 2) := by decide +kernel
theorem dX12_circles_119 : decode cX12_circles 119 = .ok (.iload 5, 2) := by decide +kernel
theorem dX12_circles_121 : decode cX12_circles 121 = .ok (.invokevirtual 222, 3) := by decide +kernel
theorem dX12_circles_124 : decode cX12_circles 124 = .ok (.ifCond .eq 25, 3) := by decide +kernel
theorem dX12_circles_127 : decode cX12_circles 127 = .ok (.aload_n 0, 1) := by decide +kernel
theorem dX12_circles_128 : decode cX12_circles 128 = .ok (.getfield 35, 3) := by decide +kernel
theorem dX12_circles_131 : decode cX12_circles 131 = .ok (.iload_n 1, 1) := by decide +kernel
theorem dX12_circles_132 : decode cX12_circles 132 = .ok (.iload 5, 2) := by decide +kernel
theorem dX12_circles_134 : decode cX12_circles 134 = .ok (.iastore, 1) := by decide +kernel
theorem dX12_circles_135 : decode cX12_circles 135 = .ok (.aload_n 0, 1) := by decide +kernel
theorem dX12_circles_136 : decode cX12_circles 136 = .ok (.iload_n 1, 1) := by decide +kernel
theorem dX12_circles_137 : decode cX12_circles 137 = .ok (.iconst 1, 1) := by decide +kernel
theorem dX12_circles_138 : decode cX12_circles 138 = .ok (.iadd, 1) := by decide +kernel
theorem dX12_circles_139 : decode cX12_circles 139 = .ok (.iload_n 2, 1) := by decide +kernel
theorem dX12_circles_140 : decode cX12_circles 140 = .ok (.iconst 1, 1) := by decide +kernel
theorem dX12_circles_141 : decode cX12_circles 141 = .ok (.iload 5, 2) := by decide +kernel
theorem dX12_circles_143 : decode cX12_circles 143 = .ok (.ishl, 1) := by decide +kernel
theorem dX12_circles_144 : decode cX12_circles 144 = .ok (.ior, 1) := by decide +kernel
theorem dX12_circles_145 : decode cX12_circles 145 = .ok (.iload_n 3, 1) := by decide +kernel
theorem dX12_circles_146 : decode cX12_circles 146 = .ok (.invokevirtual 228, 3) := by decide +kernel
theorem dX12_circles_149 : decode cX12_circles 149 = .ok (.iinc 5 1, 3) := by decide +kernel
theorem dX12_circles_152 : decode cX12_circles 152 = .ok (.goto (-65), 3) := by decide +kernel
theorem dX12_circles_155 : decode cX12_circles 155 = .ok (.return_, 1) := by decide +kernel
theorem dX12_findRings_0 : decode cX12_findRings 0 = .ok (.aload_n 0, 1) := by decide +kernel
theorem dX12_findRings_1 : decode cX12_findRings 1 = .ok (.iconst 0, 1) := by decide +kernel
theorem dX12_findRings_2 : decode cX12_findRings 2 = .ok (.putfield 225, 3) := by decide +kernel
theorem dX12_findRings_5 : decode cX12_findRings 5 = .ok (.iconst 0, 1) := by decide +kernel
theorem dX12_findRings_6 : decode cX12_findRings 6 = .ok (.istore_n 2, 1) := by decide +kernel
theorem dX12_findRings_7 : decode cX12_findRings 7 = .ok (.iload_n 2, 1) := by decide +kernel
theorem dX12_findRings_8 : decode cX12_findRings 8 = .ok (.aload_n 0, 1) := by decide +kernel
theorem dX12_findRings_9 : decode cX12_findRings 9 = .ok (.getfield 7, 3) := by decide +kernel
theorem dX12_findRings_12 : decode cX12_findRings 12 = .ok (.iconst 0, 1) := by decide +kernel
theorem dX12_findRings_13 : decode cX12_findRings 13 = .ok (.iaload, 1) := by decide +kernel
theorem dX12_findRings_14 : decode cX12_findRings 14 = .ok (.if_icmp .ge 33, 3) := by decide +kernel
theorem dX12_findRings_17 : decode cX12_findRings 17 = .ok (.aload_n 0, 1) := by decide +kernel
theorem dX12_findRings_18 : decode cX12_findRings 18 = .ok (.iload_n 2, 1) := by decide +kernel
theorem dX12_findRings_19 : decode cX12_findRings 19 = .ok (.invokevirtual 96, 3) := by decide +kernel
theorem dX12_findRings_22 : decode cX12_findRings 22 = .ok (.ifCond .ne 19, 3) := by decide +kernel
theorem dX12_findRings_25 : decode cX12_findRings 25 = .ok (.aload_n 0, 1) := by decide +kernel
theorem dX12_findRings_26 : decode cX12_findRings 26 = .ok (.getfield 35, 3) := by decide +kernel
theorem dX12_findRings_29 : decode cX12_findRings 29 = .ok (.iconst 0, 1) := by decide +kernel
theorem dX12_findRings_30 : decode cX12_findRings 30 = .ok (.iload_n 2, 1) := by decide +kernel
theorem dX12_findRings_31 : decode cX12_findRings 31 = .ok (.iastore, 1) := by decide +kernel
theorem dX12_findRings_32 : decode cX12_findRings 32 = .ok (.aload_n 0, 1) := by decide +kernel
theorem dX12_findRings_33 : decode cX12_findRings 33 = .ok (.iconst 1, 1) := by decide +kernel
theorem dX12_findRings_34 : decode cX12_findRings 34 = .ok (.iconst 1, 1) := by decide +kernel
theorem dX12_findRings_35 : decode cX12_findRings 35 = .ok (.iload_n 2, 1) := by decide +kernel
theorem dX12_findRings_36 : decode cX12_findRings 36 = .ok (.ishl, 1) := by decide +kernel
theorem dX12_findRings_37 : decode cX12_findRings 37 = .ok (.iload_n 1, 1) := by decide +kernel
theorem dX12_findRings_38 : decode cX12_findRings 38 = .ok (.invokevirtual 228, 3) := by decide +kernel
theorem dX12_findRings_41 : decode cX12_findRings 41 = .ok (.iinc 2 1, 3) := by decide +kernel
theorem dX12_findRings_44 : decode cX12_findRings 44 = .ok (.goto (-37), 3) := by decide +kernel
theorem dX12_findRings_47 : decode cX12_findRings 47 = .ok (.return_, 1) := by decide +kernel
theorem dX12_rings_0 : decode cX12_rings 0 = .ok (.iload_n 1, 1) := by decide +kernel
theorem dX12_rings_1 : decode cX12_rings 1 = .ok (.i2l, 1) := by decide +kernel
theorem dX12_rings_2 : decode cX12_rings 2 = .ok (.ldc2_w 231, 3) := by decide +kernel
theorem dX12_rings_5 : decode cX12_rings 5 = .ok (.ldc2_w 126, 3) := by decide +kernel
theorem dX12_rings_8 : decode cX12_rings 8 = .ok (.invokestatic 68, 3) := by decide +kernel
theorem dX12_rings_11 : decode cX12_rings 11 = .ok (.ifCond .ne 5, 3) := by decide +kernel
theorem dX12_rings_14 : decode cX12_rings 14 = .ok (.iconst (-1), 1) := by decide +kernel
theorem dX12_rings_15 : decode cX12_rings 15 = .ok (.ireturn, 1) := by decide +kernel
theorem dX12_rings_16 : decode cX12_rings 16 = .ok (.aload_n 0, 1) := by decide +kernel
theorem dX12_rings_17 : decode cX12_rings 17 = .ok (.iload_n 1, 1) := by decide +kernel
theorem dX12_rings_18 : decode cX12_rings 18 = .ok (.invokevirtual 233, 3) := by decide +kernel
theorem dX12_rings_21 : decode cX12_rings 21 = .ok (.aload_n 0, 1) := by decide +kernel
theorem dX12_rings_22 : decode cX12_rings 22 = .ok (.getfield 225, 3) := by decide +kernel
theorem dX12_rings_25 : decode cX12_rings 25 = .ok (.ireturn, 1) := by decide +kernel
theorem dX12_ring_0 : decode cX12_ring 0 = .ok (.iload_n 1, 1) := by decide +kernel
theorem dX12_ring_1 : decode cX12_ring 1 = .ok (.i2l, 1) := by decide +kernel
theorem dX12_ring_2 : decode cX12_ring 2 = .ok (.ldc2_w 231, 3) := by decide +kernel
theorem dX12_ring_5 : decode cX12_ring 5 = .ok (.ldc2_w 126, 3) := by decide +kernel
theorem dX12_ring_8 : decode cX12_ring 8 = .ok (.invokestatic 68, 3) := by decide +kernel
theorem dX12_ring_11 : decode cX12_ring 11 = .ok (.ifCond .eq 16, 3) := by decide +kernel
theorem dX12_ring_14 : decode cX12_ring 14 = .ok (.iload_n 2, 1) := by decide +kernel
theorem dX12_ring_15 : decode cX12_ring 15 = .ok (.i2l, 1) := by decide +kernel
theorem dX12_ring_16 : decode cX12_ring 16 = .ok (.lconst 0, 1) := by decide +kernel
theorem dX12_ring_17 : decode cX12_ring 17 = .ok (.iload_n 1, 1) := by decide +kernel
theorem dX12_ring_18 : decode cX12_ring 18 = .ok (.iconst 1, 1) := by decide +kernel
theorem dX12_ring_19 : decode cX12_ring 19 = .ok (.isub, 1) := by decide +kernel
theorem dX12_ring_20 : decode cX12_ring 20 = .ok (.i2l, 1) := by decide +kernel
theorem dX12_ring_21 : decode cX12_ring 21 = .ok (.invokestatic 68, 3) := by decide +kernel
theorem dX12_ring_24 : decode cX12_ring 24 = .ok (.ifCond .ne 5, 3) := by decide +kernel
theorem dX12_ring_27 : decode cX12_ring 27 = .ok (.iconst (-1), 1) := by decide +kernel
theorem dX12_ring_28 : decode cX12_ring 28 = .ok (.ireturn, 1) := by decide +kernel
theorem dX12_ring_29 : decode cX12_ring 29 = .ok (.aload_n 0, 1) := by decide +kernel
theorem dX12_ring_30 : decode cX12_ring 30 = .ok (.iload_n 1, 1) := by decide +kernel
theorem dX12_ring_31 : decode cX12_ring 31 = .ok (.invokevirtual 233, 3) := by decide +kernel
theorem dX12_ring_34 : decode cX12_ring 34 = .ok (.aload_n 0, 1) := by decide +kernel
theorem dX12_ring_35 : decode cX12_ring 35 = .ok (.getfield 225, 3) := by decide +kernel
theorem dX12_ring_38 : decode cX12_ring 38 = .ok (.ifCond .ne 8, 3) := by decide +kernel
theorem dX12_ring_41 : decode cX12_ring 41 = .ok (.bipush (-3), 2) := by decide +kernel
theorem dX12_ring_43 : decode cX12_ring 43 = .ok (.goto 9, 3) := by decide +kernel
theorem dX12_ring_46 : decode cX12_ring 46 = .ok (.aload_n 0, 1) := by decide +kernel
theorem dX12_ring_47 : decode cX12_ring 47 = .ok (.getfield 38, 3) := by decide +kernel
theorem dX12_ring_50 : decode cX12_ring 50 = .ok (.iload_n 2, 1) := by decide +kernel
theorem dX12_ring_51 : decode cX12_ring 51 = .ok (.iaload, 1) := by decide +kernel
theorem dX12_ring_52 : decode cX12_ring 52 = .ok (.ireturn, 1) := by decide +kernel
theorem dX12_barters_0 : decode cX12_barters 0 = .ok (.aload_n 0, 1) := by decide +kernel
theorem dX12_barters_1 : decode cX12_barters 1 = .ok (.iload_n 1, 1) := by decide +kernel
theorem dX12_barters_2 : decode cX12_barters 2 = .ok (.iconst 1, 1) := by decide +kernel
theorem dX12_barters_3 : decode cX12_barters 3 = .ok (.invokevirtual 93, 3) := by decide +kernel
theorem dX12_barters_6 : decode cX12_barters 6 = .ok (.istore_n 3, 1) := by decide +kernel
theorem dX12_barters_7 : decode cX12_barters 7 = .ok (.aload_n 0, 1) := by decide +kernel
theorem dX12_barters_8 : decode cX12_barters 8 = .ok (.dup, 1) := by decide +kernel
theorem dX12_barters_9 : decode cX12_barters 9 = .ok (.getfield 236, 3) := by decide +kernel
theorem dX12_barters_12 : decode cX12_barters 12 = .ok (.iconst 1, 1) := by decide +kernel
theorem dX12_barters_13 : decode cX12_barters 13 = .ok (.iload_n 3, 1) := by decide +kernel
theorem dX12_barters_14 : decode cX12_barters 14 = .ok (.ishl, 1) := by decide +kernel
theorem dX12_barters_15 : decode cX12_barters 15 = .ok (.ior, 1) := by decide +kernel
theorem dX12_barters_16 : decode cX12_barters 16 = .ok (.putfield 236, 3) := by decide +kernel
theorem dX12_barters_19 : decode cX12_barters 19 = .ok (.iconst 0, 1) := by decide +kernel
theorem dX12_barters_20 : decode cX12_barters 20 = .ok (.istore 4, 2) := by decide +kernel
theorem dX12_barters_22 : decode cX12_barters 22 = .ok (.iload 4, 2) := by decide +kernel
theorem dX12_barters_24 : decode cX12_barters 24 = .ok (.aload_n 0, 1) := by decide +kernel
theorem dX12_barters_25 : decode cX12_barters 25 = .ok (.getfield 7, 3) := by decide +kernel
theorem dX12_barters_28 : decode cX12_barters 28 = .ok (.iconst 0, 1) := by decide +kernel
theorem dX12_barters_29 : decode cX12_barters 29 = .ok (.iaload, 1) := by decide +kernel
theorem dX12_barters_30 : decode cX12_barters 30 = .ok (.if_icmp .ge 82, 3) := by decide +kernel
theorem dX12_barters_33 : decode cX12_barters 33 = .ok (.iload_n 2, 1) := by decide +kernel
theorem dX12_barters_34 : decode cX12_barters 34 = .ok (.ifCond .le 78, 3) := by decide +kernel
theorem dX12_barters_37 : decode cX12_barters 37 = .ok (.aload_n 0, 1) := by decide +kernel
theorem dX12_barters_38 : decode cX12_barters 38 = .ok (.iload 4, 2) := by decide +kernel
theorem dX12_barters_40 : decode cX12_barters 40 = .ok (.iconst 1, 1) := by decide +kernel
theorem dX12_barters_41 : decode cX12_barters 41 = .ok (.invokevirtual 93, 3) := by decide +kernel
theorem dX12_barters_44 : decode cX12_barters 44 = .ok (.istore 5, 2) := by decide +kernel
theorem dX12_barters_46 : decode cX12_barters 46 = .ok (.aload_n 0, 1) := by decide +kernel
theorem dX12_barters_47 : decode cX12_barters 47 = .ok (.iload_n 1, 1) := by decide +kernel
theorem dX12_barters_48 : decode cX12_barters 48 = .ok (.iload 4, 2) := by decide +kernel
theorem dX12_barters_50 : decode cX12_barters 50 = .ok (.invokevirtual 134, 3) := by decide +kernel
theorem dX12_barters_53 : decode cX12_barters 53 = .ok (.ifCond .eq 53, 3) := by decide +kernel
theorem dX12_barters_56 : decode cX12_barters 56 = .ok (.iload 5, 2) := by decide +kernel
theorem dX12_barters_58 : decode cX12_barters 58 = .ok (.iload_n 3, 1) := by decide +kernel
theorem dX12_barters_59 : decode cX12_barters 59 = .ok (.if_icmp .eq 47, 3) := by decide +kernel
theorem dX12_barters_62 : decode cX12_barters 62 = .ok (.aload_n 0, 1) := by decide +kernel
theorem dX12_barters_63 : decode cX12_barters 63 = .ok (.getfield 7, 3) := by decide +kernel
theorem dX12_barters_66 : decode cX12_barters 66 = .ok (.bipush 6, 2) := by decide +kernel
theorem dX12_barters_68 : decode cX12_barters 68 = .ok (.iload_n 3, 1) := by decide +kernel
theorem dX12_barters_69 : decode cX12_barters 69 = .ok (.iadd, 1) := by decide +kernel
theorem dX12_barters_70 : decode cX12_barters 70 = .ok (.iaload, 1) := by decide +kernel
theorem dX12_barters_71 : decode cX12_barters 71 = .ok (.aload_n 0, 1) := by decide +kernel
theorem dX12_barters_72 : decode cX12_barters 72 = .ok (.getfield 7, 3) := by decide +kernel
theorem dX12_barters_75 : decode cX12_barters 75 = .ok (.bipush 6, 2) := by decide +kernel
theorem dX12_barters_77 : decode cX12_barters 77 = .ok (.iload 5, 2) := by decide +kernel
theorem dX12_barters_79 : decode cX12_barters 79 = .ok (.iadd, 1) := by decide +kernel
theorem dX12_barters_80 : decode cX12_barters 80 = .ok (.iaload, 1) := by decide +kernel
theorem dX12_barters_81 : decode cX12_barters 81 = .ok (.if_icmp .lt 25, 3) := by decide +kernel
theorem dX12_barters_84 : decode cX12_barters 84 = .ok (.aload_n 0, 1) := by decide +kernel
theorem dX12_barters_85 : decode cX12_barters 85 = .ok (.iload_n 1, 1) := by decide +kernel
theorem dX12_barters_86 : decode cX12_barters 86 = .ok (.iload 4, 2) := by decide +kernel
theorem dX12_barters_88 : decode cX12_barters 88 = .ok (.invokevirtual 171, 3) := by decide +kernel
theorem dX12_barters_91 : decode cX12_barters 91 = .ok (.aload_n 0, 1) := by decide +kernel
theorem dX12_barters_92 : decode cX12_barters 92 = .ok (.iload_n 1, 1) := by decide +kernel
theorem dX12_barters_93 : decode cX12_barters 93 = .ok (.iload_n 2, 1) := by decide +kernel
theorem dX12_barters_94 : decode cX12_barters 94 = .ok (.iconst 1, 1) := by decide +kernel
theorem dX12_barters_95 : decode cX12_barters 95 = .ok (.isub, 1) := by decide +kernel
theorem dX12_barters_96 : decode cX12_barters 96 = .ok (.invokevirtual 239, 3) := by decide +kernel
theorem dX12_barters_99 : decode cX12_barters 99 = .ok (.aload_n 0, 1) := by decide +kernel
theorem dX12_barters_100 : decode cX12_barters 100 = .ok (.iload_n 1, 1) := by decide +kernel
theorem dX12_barters_101 : decode cX12_barters 101 = .ok (.iload 4, 2) := by decide +kernel
theorem dX12_barters_103 : decode cX12_barters 103 = .ok (.invokevirtual 171, 3) := by decide +kernel
theorem dX12_barters_106 : decode cX12_barters 106 = .ok (.iinc 4 1, 3) := by decide +kernel
theorem dX12_barters_109 : decode cX12_barters 109 = .ok (.goto (-87), 3) := by decide +kernel
theorem dX12_barters_112 : decode cX12_barters 112 = .ok (.return_, 1) := by decide +kernel
theorem dX12_isBarter_0 : decode cX12_isBarter 0 = .ok (.aload_n 0, 1) := by decide +kernel
theorem dX12_isBarter_1 : decode cX12_isBarter 1 = .ok (.iload_n 1, 1) := by decide +kernel
theorem dX12_isBarter_2 : decode cX12_isBarter 2 = .ok (.invokevirtual 123, 3) := by decide +kernel
theorem dX12_isBarter_5 : decode cX12_isBarter 5 = .ok (.ifCond .eq 19, 3) := by decide +kernel
theorem dX12_isBarter_8 : decode cX12_isBarter 8 = .ok (.iload_n 2, 1) := by decide +kernel
theorem dX12_isBarter_9 : decode cX12_isBarter 9 = .ok (.i2l, 1) := by decide +kernel
theorem dX12_isBarter_10 : decode cX12_isBarter 10 = .ok (.lconst 0, 1) := by decide +kernel
theorem dX12_isBarter_11 : decode cX12_isBarter 11 = .ok (.ldc2_w 242, 3) := by decide +kernel
theorem dX12_isBarter_14 : decode cX12_isBarter 14 = .ok (.invokestatic 68, 3) := by decide +kernel
theorem dX12_isBarter_17 : decode cX12_isBarter 17 = .ok (.ifCond .eq 7, 3) := by decide +kernel
theorem dX12_isBarter_20 : decode cX12_isBarter 20 = .ok (.iconst 1, 1) := by decide +kernel
theorem dX12_isBarter_21 : decode cX12_isBarter 21 = .ok (.goto 4, 3) := by decide +kernel
theorem dX12_isBarter_24 : decode cX12_isBarter 24 = .ok (.iconst 0, 1) := by decide +kernel
theorem dX12_isBarter_25 : decode cX12_isBarter 25 = .ok (.ireturn, 1) := by decide +kernel
theorem dX12_comes_0 : decode cX12_comes 0 = .ok (.aload_n 0, 1) := by decide +kernel
theorem dX12_comes_1 : decode cX12_comes 1 = .ok (.iload_n 1, 1) := by decide +kernel
theorem dX12_comes_2 : decode cX12_comes 2 = .ok (.iload_n 2, 1) := by decide +kernel
theorem dX12_comes_3 : decode cX12_comes 3 = .ok (.invokevirtual 244, 3) := by decide +kernel
theorem dX12_comes_6 : decode cX12_comes 6 = .ok (.ifCond .ne 5, 3) := by decide +kernel
theorem dX12_comes_9 : decode cX12_comes 9 = .ok (.iconst (-1), 1) := by decide +kernel
theorem dX12_comes_10 : decode cX12_comes 10 = .ok (.ireturn, 1) := by decide +kernel
theorem dX12_comes_11 : decode cX12_comes 11 = .ok (.aload_n 0, 1) := by decide +kernel
theorem dX12_comes_12 : decode cX12_comes 12 = .ok (.iconst 0, 1) := by decide +kernel
theorem dX12_comes_13 : decode cX12_comes 13 = .ok (.putfield 236, 3) := by decide +kernel
theorem dX12_comes_16 : decode cX12_comes 16 = .ok (.aload_n 0, 1) := by decide +kernel
theorem dX12_comes_17 : decode cX12_comes 17 = .ok (.iload_n 1, 1) := by decide +kernel
theorem dX12_comes_18 : decode cX12_comes 18 = .ok (.iload_n 2, 1) := by decide +kernel
theorem dX12_comes_19 : decode cX12_comes 19 = .ok (.invokevirtual 239, 3) := by decide +kernel
theorem dX12_comes_22 : decode cX12_comes 22 = .ok (.aload_n 0, 1) := by decide +kernel
theorem dX12_comes_23 : decode cX12_comes 23 = .ok (.getfield 236, 3) := by decide +kernel
theorem dX12_comes_26 : decode cX12_comes 26 = .ok (.ireturn, 1) := by decide +kernel
theorem dX12_dearest_0 : decode cX12_dearest 0 = .ok (.aload_n 0, 1) := by decide +kernel
theorem dX12_dearest_1 : decode cX12_dearest 1 = .ok (.iload_n 1, 1) := by decide +kernel
theorem dX12_dearest_2 : decode cX12_dearest 2 = .ok (.iload_n 2, 1) := by decide +kernel
theorem dX12_dearest_3 : decode cX12_dearest 3 = .ok (.invokevirtual 244, 3) := by decide +kernel
theorem dX12_dearest_6 : decode cX12_dearest 6 = .ok (.ifCond .ne 5, 3) := by decide +kernel
theorem dX12_dearest_9 : decode cX12_dearest 9 = .ok (.iconst (-1), 1) := by decide +kernel
theorem dX12_dearest_10 : decode cX12_dearest 10 = .ok (.ireturn, 1) := by decide +kernel
theorem dX12_dearest_11 : decode cX12_dearest 11 = .ok (.aload_n 0, 1) := by decide +kernel
theorem dX12_dearest_12 : decode cX12_dearest 12 = .ok (.iconst 0, 1) := by decide +kernel
theorem dX12_dearest_13 : decode cX12_dearest 13 = .ok (.putfield 236, 3) := by decide +kernel
theorem dX12_dearest_16 : decode cX12_dearest 16 = .ok (.aload_n 0, 1) := by decide +kernel
theorem dX12_dearest_17 : decode cX12_dearest 17 = .ok (.iload_n 1, 1) := by decide +kernel
theorem dX12_dearest_18 : decode cX12_dearest 18 = .ok (.iload_n 2, 1) := by decide +kernel
theorem dX12_dearest_19 : decode cX12_dearest 19 = .ok (.invokevirtual 239, 3) := by decide +kernel
theorem dX12_dearest_22 : decode cX12_dearest 22 = .ok (.iconst (-1), 1) := by decide +kernel
theorem dX12_dearest_23 : decode cX12_dearest 23 = .ok (.istore_n 3, 1) := by decide +kernel
theorem dX12_dearest_24 : decode cX12_dearest 24 = .ok (.iconst 0, 1) := by decide +kernel
theorem dX12_dearest_25 : decode cX12_dearest 25 = .ok (.istore 4, 2) := by decide +kernel
theorem dX12_dearest_27 : decode cX12_dearest 27 = .ok (.iload 4, 2) := by decide +kernel
theorem dX12_dearest_29 : decode cX12_dearest 29 = .ok (.bipush 8, 2) := by decide +kernel
theorem dX12_dearest_31 : decode cX12_dearest 31 = .ok (.if_icmp .ge 55, 3) := by decide +kernel
theorem dX12_dearest_34 : decode cX12_dearest 34 = .ok (.aload_n 0, 1) := by decide +kernel
theorem dX12_dearest_35 : decode cX12_dearest 35 = .ok (.getfield 236, 3) := by decide +kernel
theorem dX12_dearest_38 : decode cX12_dearest 38 = .ok (.iload 4, 2) := by decide +kernel
theorem dX12_dearest_40 : decode cX12_dearest 40 = .ok (.ishr, 1) := by decide +kernel
theorem dX12_dearest_41 : decode cX12_dearest 41 = .ok (.iconst 1, 1) := by decide +kernel
theorem dX12_dearest_42 : decode cX12_dearest 42 = .ok (.iand, 1) := by decide +kernel
theorem dX12_dearest_43 : decode cX12_dearest 43 = .ok (.iconst 1, 1) := by decide +kernel
theorem dX12_dearest_44 : decode cX12_dearest 44 = .ok (.if_icmp .ne 34, 3) := by decide +kernel
theorem dX12_dearest_47 : decode cX12_dearest 47 = .ok (.iload_n 3, 1) := by decide +kernel
theorem dX12_dearest_48 : decode cX12_dearest 48 = .ok (.ifCond .lt 25, 3) := by decide +kernel
theorem dX12_dearest_51 : decode cX12_dearest 51 = .ok (.aload_n 0, 1) := by decide +kernel
theorem dX12_dearest_52 : decode cX12_dearest 52 = .ok (.getfield 7, 3) := by decide +kernel
theorem dX12_dearest_55 : decode cX12_dearest 55 = .ok (.bipush 6, 2) := by decide +kernel
theorem dX12_dearest_57 : decode cX12_dearest 57 = .ok (.iload 4, 2) := by decide +kernel
theorem dX12_dearest_59 : decode cX12_dearest 59 = .ok (.iadd, 1) := by decide +kernel
theorem dX12_dearest_60 : decode cX12_dearest 60 = .ok (.iaload, 1) := by decide +kernel
theorem dX12_dearest_61 : decode cX12_dearest 61 = .ok (.aload_n 0, 1) := by decide +kernel
theorem dX12_dearest_62 : decode cX12_dearest 62 = .ok (.getfield 7, 3) := by decide +kernel
theorem dX12_dearest_65 : decode cX12_dearest 65 = .ok (.bipush 6, 2) := by decide +kernel
theorem dX12_dearest_67 : decode cX12_dearest 67 = .ok (.iload_n 3, 1) := by decide +kernel
theorem dX12_dearest_68 : decode cX12_dearest 68 = .ok (.iadd, 1) := by decide +kernel
theorem dX12_dearest_69 : decode cX12_dearest 69 = .ok (.iaload, 1) := by decide +kernel
theorem dX12_dearest_70 : decode cX12_dearest 70 = .ok (.if_icmp .le 8, 3) := by decide +kernel
theorem dX12_dearest_73 : decode cX12_dearest 73 = .ok (.iload 4, 2) := by decide +kernel
theorem dX12_dearest_75 : decode cX12_dearest 75 = .ok (.goto 4, 3) := by decide +kernel
theorem dX12_dearest_78 : decode cX12_dearest 78 = .ok (.iload_n 3, 1) := by decide +kernel
theorem dX12_dearest_79 : decode cX12_dearest 79 = .ok (.istore_n 3, 1) := by decide +kernel
theorem dX12_dearest_80 : decode cX12_dearest 80 = .ok (.iinc 4 1, 3) := by decide +kernel
theorem dX12_dearest_83 : decode cX12_dearest 83 = .ok (.goto (-56), 3) := by decide +kernel
theorem dX12_dearest_86 : decode cX12_dearest 86 = .ok (.iload_n 3, 1) := by decide +kernel
theorem dX12_dearest_87 : decode cX12_dearest 87 = .ok (.ireturn, 1) := by decide +kernel
theorem dX12_turned_0 : decode cX12_turned 0 = .ok (.iload_n 0, 1) := by decide +kernel
theorem dX12_turned_1 : decode cX12_turned 1 = .ok (.iconst 2, 1) := by decide +kernel
theorem dX12_turned_2 : decode cX12_turned 2 = .ok (.if_icmp .ne 7, 3) := by decide +kernel
theorem dX12_turned_5 : decode cX12_turned 5 = .ok (.iconst 2, 1) := by decide +kernel
theorem dX12_turned_6 : decode cX12_turned 6 = .ok (.goto 6, 3) := by decide +kernel
theorem dX12_turned_9 : decode cX12_turned 9 = .ok (.iconst 1, 1) := by decide +kernel
theorem dX12_turned_10 : decode cX12_turned 10 = .ok (.iload_n 0, 1) := by decide +kernel
theorem dX12_turned_11 : decode cX12_turned 11 = .ok (.isub, 1) := by decide +kernel
theorem dX12_turned_12 : decode cX12_turned 12 = .ok (.ireturn, 1) := by decide +kernel
theorem dX12_valueBy_0 : decode cX12_valueBy 0 = .ok (.aload_n 0, 1) := by decide +kernel
theorem dX12_valueBy_1 : decode cX12_valueBy 1 = .ok (.iload_n 1, 1) := by decide +kernel
theorem dX12_valueBy_2 : decode cX12_valueBy 2 = .ok (.invokevirtual 175, 3) := by decide +kernel
theorem dX12_valueBy_5 : decode cX12_valueBy 5 = .ok (.aload_n 0, 1) := by decide +kernel
theorem dX12_valueBy_6 : decode cX12_valueBy 6 = .ok (.getfield 165, 3) := by decide +kernel
theorem dX12_valueBy_9 : decode cX12_valueBy 9 = .ok (.istore_n 3, 1) := by decide +kernel
theorem dX12_valueBy_10 : decode cX12_valueBy 10 = .ok (.aload_n 0, 1) := by decide +kernel
theorem dX12_valueBy_11 : decode cX12_valueBy 11 = .ok (.getfield 168, 3) := by decide +kernel
theorem dX12_valueBy_14 : decode cX12_valueBy 14 = .ok (.istore 4, 2) := by decide +kernel
theorem dX12_valueBy_16 : decode cX12_valueBy 16 = .ok (.aload_n 0, 1) := by decide +kernel
theorem dX12_valueBy_17 : decode cX12_valueBy 17 = .ok (.iload_n 2, 1) := by decide +kernel
theorem dX12_valueBy_18 : decode cX12_valueBy 18 = .ok (.iconst 1, 1) := by decide +kernel
theorem dX12_valueBy_19 : decode cX12_valueBy 19 = .ok (.isub, 1) := by decide +kernel
theorem dX12_valueBy_20 : decode cX12_valueBy 20 = .ok (.invokevirtual 247, 3) := by decide +kernel
theorem dX12_valueBy_23 : decode cX12_valueBy 23 = .ok (.invokestatic 250, 3) := by decide +kernel
theorem dX12_valueBy_26 : decode cX12_valueBy 26 = .ok (.istore 5, 2) := by decide +kernel
theorem dX12_valueBy_28 : decode cX12_valueBy 28 = .ok (.aload_n 0, 1) := by decide +kernel
theorem dX12_valueBy_29 : decode cX12_valueBy 29 = .ok (.iload_n 1, 1) := by decide +kernel
theorem dX12_valueBy_30 : decode cX12_valueBy 30 = .ok (.iload_n 3, 1) := by decide +kernel
theorem dX12_valueBy_31 : decode cX12_valueBy 31 = .ok (.iload 4, 2) := by decide +kernel
theorem dX12_valueBy_33 : decode cX12_valueBy 33 = .ok (.invokevirtual 185, 3) := by decide +kernel
theorem dX12_valueBy_36 : decode cX12_valueBy 36 = .ok (.iload 5, 2) := by decide +kernel
theorem dX12_valueBy_38 : decode cX12_valueBy 38 = .ok (.ireturn, 1) := by decide +kernel
theorem dX12_valueOf_0 : decode cX12_valueOf 0 = .ok (.iload_n 1, 1) := by decide +kernel
theorem dX12_valueOf_1 : decode cX12_valueOf 1 = .ok (.ifCond .ne 5, 3) := by decide +kernel
theorem dX12_valueOf_4 : decode cX12_valueOf 4 = .ok (.iconst 2, 1) := by decide +kernel
theorem dX12_valueOf_5 : decode cX12_valueOf 5 = .ok (.ireturn, 1) := by decide +kernel
theorem dX12_valueOf_6 : decode cX12_valueOf 6 = .ok (.iconst 1, 1) := by decide +kernel
theorem dX12_valueOf_7 : decode cX12_valueOf 7 = .ok (.istore_n 2, 1) := by decide +kernel
theorem dX12_valueOf_8 : decode cX12_valueOf 8 = .ok (.aload_n 0, 1) := by decide +kernel
theorem dX12_valueOf_9 : decode cX12_valueOf 9 = .ok (.iconst (-1), 1) := by decide +kernel
theorem dX12_valueOf_10 : decode cX12_valueOf 10 = .ok (.invokevirtual 179, 3) := by decide +kernel
theorem dX12_valueOf_13 : decode cX12_valueOf 13 = .ok (.istore_n 3, 1) := by decide +kernel
theorem dX12_valueOf_14 : decode cX12_valueOf 14 = .ok (.iload_n 3, 1) := by decide +kernel
theorem dX12_valueOf_15 : decode cX12_valueOf 15 = .ok (.ifCond .lt 45, 3) := by decide +kernel
theorem dX12_valueOf_18 : decode cX12_valueOf 18 = .ok (.iload_n 2, 1) := by decide +kernel
theorem dX12_valueOf_19 : decode cX12_valueOf 19 = .ok (.ifCond .eq 41, 3) := by decide +kernel
theorem dX12_valueOf_22 : decode cX12_valueOf 22 = .ok (.aload_n 0, 1) := by decide +kernel
theorem dX12_valueOf_23 : decode cX12_valueOf 23 = .ok (.iload_n 3, 1) := by decide +kernel
theorem dX12_valueOf_24 : decode cX12_valueOf 24 = .ok (.iload_n 1, 1) := by decide +kernel
theorem dX12_valueOf_25 : decode cX12_valueOf 25 = .ok (.invokevirtual 253, 3) := by decide +kernel
theorem dX12_valueOf_28 : decode cX12_valueOf 28 = .ok (.istore 4, 2) := by decide +kernel
theorem dX12_valueOf_30 : decode cX12_valueOf 30 = .ok (.iload 4, 2) := by decide +kernel
theorem dX12_valueOf_32 : decode cX12_valueOf 32 = .ok (.ifCond .ne 7, 3) := by decide +kernel
theorem dX12_valueOf_35 : decode cX12_valueOf 35 = .ok (.iconst 0, 1) := by decide +kernel
theorem dX12_valueOf_36 : decode cX12_valueOf 36 = .ok (.goto 14, 3) := by decide +kernel
theorem dX12_valueOf_39 : decode cX12_valueOf 39 = .ok (.iload 4, 2) := by decide +kernel
theorem dX12_valueOf_41 : decode cX12_valueOf 41 = .ok (.iconst 2, 1) := by decide +kernel
theorem dX12_valueOf_42 : decode cX12_valueOf 42 = .ok (.if_icmp .ne 7, 3) := by decide +kernel
theorem dX12_valueOf_45 : decode cX12_valueOf 45 = .ok (.iconst 2, 1) := by decide +kernel
theorem dX12_valueOf_46 : decode cX12_valueOf 46 = .ok (.goto 4, 3) := by decide +kernel
theorem dX12_valueOf_49 : decode cX12_valueOf 49 = .ok (.iload_n 2, 1) := by decide +kernel
theorem dX12_valueOf_50 : decode cX12_valueOf 50 = .ok (.istore_n 2, 1) := by decide +kernel
theorem dX12_valueOf_51 : decode cX12_valueOf 51 = .ok (.aload_n 0, 1) := by decide +kernel
theorem dX12_valueOf_52 : decode cX12_valueOf 52 = .ok (.iload_n 3, 1) := by decide +kernel
theorem dX12_valueOf_53 : decode cX12_valueOf 53 = .ok (.invokevirtual 179, 3) := by decide +kernel
theorem dX12_valueOf_56 : decode cX12_valueOf 56 = .ok (.istore_n 3, 1) := by decide +kernel
theorem dX12_valueOf_57 : decode cX12_valueOf 57 = .ok (.goto (-43), 3) := by decide +kernel
theorem dX12_valueOf_60 : decode cX12_valueOf 60 = .ok (.iload_n 2, 1) := by decide +kernel
theorem dX12_valueOf_61 : decode cX12_valueOf 61 = .ok (.ireturn, 1) := by decide +kernel
theorem dX12_isGame_0 : decode cX12_isGame 0 = .ok (.iload_n 0, 1) := by decide +kernel
theorem dX12_isGame_1 : decode cX12_isGame 1 = .ok (.i2l, 1) := by decide +kernel
theorem dX12_isGame_2 : decode cX12_isGame 2 = .ok (.lconst 1, 1) := by decide +kernel
theorem dX12_isGame_3 : decode cX12_isGame 3 = .ok (.ldc2_w 126, 3) := by decide +kernel
theorem dX12_isGame_6 : decode cX12_isGame 6 = .ok (.invokestatic 68, 3) := by decide +kernel
theorem dX12_isGame_9 : decode cX12_isGame 9 = .ok (.ireturn, 1) := by decide +kernel
theorem dX12_game_0 : decode cX12_game 0 = .ok (.iload_n 1, 1) := by decide +kernel
theorem dX12_game_1 : decode cX12_game 1 = .ok (.invokestatic 256, 3) := by decide +kernel
theorem dX12_game_4 : decode cX12_game 4 = .ok (.ifCond .eq 11, 3) := by decide +kernel
theorem dX12_game_7 : decode cX12_game 7 = .ok (.aload_n 0, 1) := by decide +kernel
theorem dX12_game_8 : decode cX12_game 8 = .ok (.iload_n 1, 1) := by decide +kernel
theorem dX12_game_9 : decode cX12_game 9 = .ok (.invokevirtual 247, 3) := by decide +kernel
theorem dX12_game_12 : decode cX12_game 12 = .ok (.goto 4, 3) := by decide +kernel
theorem dX12_game_15 : decode cX12_game 15 = .ok (.iconst (-1), 1) := by decide +kernel
theorem dX12_game_16 : decode cX12_game 16 = .ok (.ireturn, 1) := by decide +kernel
theorem dX12_play_0 : decode cX12_play 0 = .ok (.iload_n 1, 1) := by decide +kernel
theorem dX12_play_1 : decode cX12_play 1 = .ok (.invokestatic 256, 3) := by decide +kernel
theorem dX12_play_4 : decode cX12_play 4 = .ok (.ifCond .ne 5, 3) := by decide +kernel
theorem dX12_play_7 : decode cX12_play 7 = .ok (.iconst (-1), 1) := by decide +kernel
theorem dX12_play_8 : decode cX12_play 8 = .ok (.ireturn, 1) := by decide +kernel
theorem dX12_play_9 : decode cX12_play 9 = .ok (.aload_n 0, 1) := by decide +kernel
theorem dX12_play_10 : decode cX12_play 10 = .ok (.iload_n 1, 1) := by decide +kernel
theorem dX12_play_11 : decode cX12_play 11 = .ok (.invokevirtual 247, 3) := by decide +kernel
theorem dX12_play_14 : decode cX12_play 14 = .ok (.istore_n 2, 1) := by decide +kernel
theorem dX12_play_15 : decode cX12_play 15 = .ok (.aload_n 0, 1) := by decide +kernel
theorem dX12_play_16 : decode cX12_play 16 = .ok (.iconst (-1), 1) := by decide +kernel
theorem dX12_play_17 : decode cX12_play 17 = .ok (.invokevirtual 179, 3) := by decide +kernel
theorem dX12_play_20 : decode cX12_play 20 = .ok (.istore_n 3, 1) := by decide +kernel
theorem dX12_play_21 : decode cX12_play 21 = .ok (.iload_n 3, 1) := by decide +kernel
theorem dX12_play_22 : decode cX12_play 22 = .ok (.ifCond .lt 24, 3) := by decide +kernel
theorem dX12_play_25 : decode cX12_play 25 = .ok (.aload_n 0, 1) := by decide +kernel
theorem dX12_play_26 : decode cX12_play 26 = .ok (.iload_n 3, 1) := by decide +kernel
theorem dX12_play_27 : decode cX12_play 27 = .ok (.iload_n 1, 1) := by decide +kernel
theorem dX12_play_28 : decode cX12_play 28 = .ok (.invokevirtual 253, 3) := by decide +kernel
theorem dX12_play_31 : decode cX12_play 31 = .ok (.iload_n 2, 1) := by decide +kernel
theorem dX12_play_32 : decode cX12_play 32 = .ok (.if_icmp .ne 5, 3) := by decide +kernel
theorem dX12_play_35 : decode cX12_play 35 = .ok (.iload_n 3, 1) := by decide +kernel
theorem dX12_play_36 : decode cX12_play 36 = .ok (.ireturn, 1) := by decide +kernel
theorem dX12_play_37 : decode cX12_play 37 = .ok (.aload_n 0, 1) := by decide +kernel
theorem dX12_play_38 : decode cX12_play 38 = .ok (.iload_n 3, 1) := by decide +kernel
theorem dX12_play_39 : decode cX12_play 39 = .ok (.invokevirtual 179, 3) := by decide +kernel
theorem dX12_play_42 : decode cX12_play 42 = .ok (.istore_n 3, 1) := by decide +kernel
theorem dX12_play_43 : decode cX12_play 43 = .ok (.goto (-22), 3) := by decide +kernel
theorem dX12_play_46 : decode cX12_play 46 = .ok (.bipush (-3), 2) := by decide +kernel
theorem dX12_play_48 : decode cX12_play 48 = .ok (.ireturn, 1) := by decide +kernel
theorem dX12_report_0 : decode cX12_report 0 = .ok (.iload_n 1, 1) := by decide +kernel
theorem dX12_report_1 : decode cX12_report 1 = .ok (.i2l, 1) := by decide +kernel
theorem dX12_report_2 : decode cX12_report 2 = .ok (.lconst 0, 1) := by decide +kernel
theorem dX12_report_3 : decode cX12_report 3 = .ok (.ldc2_w 141, 3) := by decide +kernel
theorem dX12_report_6 : decode cX12_report 6 = .ok (.invokestatic 68, 3) := by decide +kernel
theorem dX12_report_9 : decode cX12_report 9 = .ok (.ifCond .eq 27, 3) := by decide +kernel
theorem dX12_report_12 : decode cX12_report 12 = .ok (.iload_n 2, 1) := by decide +kernel
theorem dX12_report_13 : decode cX12_report 13 = .ok (.i2l, 1) := by decide +kernel
theorem dX12_report_14 : decode cX12_report 14 = .ok (.lconst 0, 1) := by decide +kernel
theorem dX12_report_15 : decode cX12_report 15 = .ok (.ldc2_w 141, 3) := by decide +kernel
theorem dX12_report_18 : decode cX12_report 18 = .ok (.invokestatic 68, 3) := by decide +kernel
theorem dX12_report_21 : decode cX12_report 21 = .ok (.ifCond .eq 15, 3) := by decide +kernel
theorem dX12_report_24 : decode cX12_report 24 = .ok (.iload_n 3, 1) := by decide +kernel
theorem dX12_report_25 : decode cX12_report 25 = .ok (.i2l, 1) := by decide +kernel
theorem dX12_report_26 : decode cX12_report 26 = .ok (.lconst 0, 1) := by decide +kernel
theorem dX12_report_27 : decode cX12_report 27 = .ok (.ldc2_w 84, 3) := by decide +kernel
theorem dX12_report_30 : decode cX12_report 30 = .ok (.invokestatic 68, 3) := by decide +kernel
theorem dX12_report_33 : decode cX12_report 33 = .ok (.ifCond .ne 5, 3) := by decide +kernel
theorem dX12_report_36 : decode cX12_report 36 = .ok (.iconst (-1), 1) := by decide +kernel
theorem dX12_report_37 : decode cX12_report 37 = .ok (.ireturn, 1) := by decide +kernel
theorem dX12_report_38 : decode cX12_report 38 = .ok (.aload_n 0, 1) := by decide +kernel
theorem dX12_report_39 : decode cX12_report 39 = .ok (.getfield 7, 3) := by decide +kernel
theorem dX12_report_42 : decode cX12_report 42 = .ok (.iconst 3, 1) := by decide +kernel
theorem dX12_report_43 : decode cX12_report 43 = .ok (.iaload, 1) := by decide +kernel
theorem dX12_report_44 : decode cX12_report 44 = .ok (.bipush 6, 2) := by decide +kernel
theorem dX12_report_46 : decode cX12_report 46 = .ok (.if_icmp .ne 6, 3) := by decide +kernel
theorem dX12_report_49 : decode cX12_report 49 = .ok (.bipush (-2), 2) := by decide +kernel
theorem dX12_report_51 : decode cX12_report 51 = .ok (.ireturn, 1) := by decide +kernel
theorem dX12_report_52 : decode cX12_report 52 = .ok (.bipush 52, 2) := by decide +kernel
theorem dX12_report_54 : decode cX12_report 54 = .ok (.iconst 3, 1) := by decide +kernel
theorem dX12_report_55 : decode cX12_report 55 = .ok (.aload_n 0, 1) := by decide +kernel
theorem dX12_report_56 : decode cX12_report 56 = .ok (.getfield 7, 3) := by decide +kernel
theorem dX12_report_59 : decode cX12_report 59 = .ok (.iconst 3, 1) := by decide +kernel
theorem dX12_report_60 : decode cX12_report 60 = .ok (.iaload, 1) := by decide +kernel
theorem dX12_report_61 : decode cX12_report 61 = .ok (.imul, 1) := by decide +kernel
theorem dX12_report_62 : decode cX12_report 62 = .ok (.iadd, 1) := by decide +kernel
theorem dX12_report_63 : decode cX12_report 63 = .ok (.istore 4, 2) := by decide +kernel
theorem dX12_report_65 : decode cX12_report 65 = .ok (.aload_n 0, 1) := by decide +kernel
theorem dX12_report_66 : decode cX12_report 66 = .ok (.getfield 7, 3) := by decide +kernel
theorem dX12_report_69 : decode cX12_report 69 = .ok (.iload 4, 2) := by decide +kernel
theorem dX12_report_71 : decode cX12_report 71 = .ok (.iload_n 1, 1) := by decide +kernel
theorem dX12_report_72 : decode cX12_report 72 = .ok (.iastore, 1) := by decide +kernel
theorem dX12_report_73 : decode cX12_report 73 = .ok (.aload_n 0, 1) := by decide +kernel
theorem dX12_report_74 : decode cX12_report 74 = .ok (.getfield 7, 3) := by decide +kernel
theorem dX12_report_77 : decode cX12_report 77 = .ok (.iload 4, 2) := by decide +kernel
theorem dX12_report_79 : decode cX12_report 79 = .ok (.iconst 1, 1) := by decide +kernel
theorem dX12_report_80 : decode cX12_report 80 = .ok (.iadd, 1) := by decide +kernel
theorem dX12_report_81 : decode cX12_report 81 = .ok (.iload_n 2, 1) := by decide +kernel
theorem dX12_report_82 : decode cX12_report 82 = .ok (.iastore, 1) := by decide +kernel
theorem dX12_report_83 : decode cX12_report 83 = .ok (.aload_n 0, 1) := by decide +kernel
theorem dX12_report_84 : decode cX12_report 84 = .ok (.getfield 7, 3) := by decide +kernel
theorem dX12_report_87 : decode cX12_report 87 = .ok (.iload 4, 2) := by decide +kernel
theorem dX12_report_89 : decode cX12_report 89 = .ok (.iconst 2, 1) := by decide +kernel
theorem dX12_report_90 : decode cX12_report 90 = .ok (.iadd, 1) := by decide +kernel
theorem dX12_report_91 : decode cX12_report 91 = .ok (.iload_n 3, 1) := by decide +kernel
theorem dX12_report_92 : decode cX12_report 92 = .ok (.iastore, 1) := by decide +kernel
theorem dX12_report_93 : decode cX12_report 93 = .ok (.aload_n 0, 1) := by decide +kernel
theorem dX12_report_94 : decode cX12_report 94 = .ok (.getfield 7, 3) := by decide +kernel
theorem dX12_report_97 : decode cX12_report 97 = .ok (.iconst 3, 1) := by decide +kernel
theorem dX12_report_98 : decode cX12_report 98 = .ok (.dup2, 1) := by decide +kernel
theorem dX12_report_99 : decode cX12_report 99 = .ok (.iaload, 1) := by decide +kernel
theorem dX12_report_100 : decode cX12_report 100 = .ok (.iconst 1, 1) := by decide +kernel
theorem dX12_report_101 : decode cX12_report 101 = .ok (.iadd, 1) := by decide +kernel
theorem dX12_report_102 : decode cX12_report 102 = .ok (.iastore, 1) := by decide +kernel
theorem dX12_report_103 : decode cX12_report 103 = .ok (.aload_n 0, 1) := by decide +kernel
theorem dX12_report_104 : decode cX12_report 104 = .ok (.getfield 7, 3) := by decide +kernel
theorem dX12_report_107 : decode cX12_report 107 = .ok (.iconst 3, 1) := by decide +kernel
theorem dX12_report_108 : decode cX12_report 108 = .ok (.iaload, 1) := by decide +kernel
theorem dX12_report_109 : decode cX12_report 109 = .ok (.iconst 1, 1) := by decide +kernel
theorem dX12_report_110 : decode cX12_report 110 = .ok (.isub, 1) := by decide +kernel
theorem dX12_report_111 : decode cX12_report 111 = .ok (.ireturn, 1) := by decide +kernel
theorem dX12_forget_0 : decode cX12_forget 0 = .ok (.aload_n 0, 1) := by decide +kernel
theorem dX12_forget_1 : decode cX12_forget 1 = .ok (.iconst 3, 1) := by decide +kernel
theorem dX12_forget_2 : decode cX12_forget 2 = .ok (.iconst 0, 1) := by decide +kernel
theorem dX12_forget_3 : decode cX12_forget 3 = .ok (.invokevirtual 131, 3) := by decide +kernel
theorem dX12_forget_6 : decode cX12_forget 6 = .ok (.ireturn, 1) := by decide +kernel
theorem dX12_isFit_0 : decode cX12_isFit 0 = .ok (.iconst 0, 1) := by decide +kernel
theorem dX12_isFit_1 : decode cX12_isFit 1 = .ok (.istore 4, 2) := by decide +kernel
theorem dX12_isFit_3 : decode cX12_isFit 3 = .ok (.iload 4, 2) := by decide +kernel
theorem dX12_isFit_5 : decode cX12_isFit 5 = .ok (.aload_n 0, 1) := by decide +kernel
theorem dX12_isFit_6 : decode cX12_isFit 6 = .ok (.getfield 7, 3) := by decide +kernel
theorem dX12_isFit_9 : decode cX12_isFit 9 = .ok (.iconst 3, 1) := by decide +kernel
theorem dX12_isFit_10 : decode cX12_isFit 10 = .ok (.iaload, 1) := by decide +kernel
theorem dX12_isFit_11 : decode cX12_isFit 11 = .ok (.if_icmp .ge 62, 3) := by decide +kernel
theorem dX12_isFit_14 : decode cX12_isFit 14 = .ok (.bipush 52, 2) := by decide +kernel
theorem dX12_isFit_16 : decode cX12_isFit 16 = .ok (.iconst 3, 1) := by decide +kernel
theorem dX12_isFit_17 : decode cX12_isFit 17 = .ok (.iload 4, 2) := by decide +kernel
theorem dX12_isFit_19 : decode cX12_isFit 19 = .ok (.imul, 1) := by decide +kernel
theorem dX12_isFit_20 : decode cX12_isFit 20 = .ok (.iadd, 1) := by decide +kernel
theorem dX12_isFit_21 : decode cX12_isFit 21 = .ok (.istore 5, 2) := by decide +kernel
theorem dX12_isFit_23 : decode cX12_isFit 23 = .ok (.iload 4, 2) := by decide +kernel
theorem dX12_isFit_25 : decode cX12_isFit 25 = .ok (.iload_n 3, 1) := by decide +kernel
theorem dX12_isFit_26 : decode cX12_isFit 26 = .ok (.if_icmp .eq 41, 3) := by decide +kernel
theorem dX12_isFit_29 : decode cX12_isFit 29 = .ok (.iload_n 1, 1) := by decide +kernel
theorem dX12_isFit_30 : decode cX12_isFit 30 = .ok (.aload_n 0, 1) := by decide +kernel
theorem dX12_isFit_31 : decode cX12_isFit 31 = .ok (.getfield 7, 3) := by decide +kernel
theorem dX12_isFit_34 : decode cX12_isFit 34 = .ok (.iload 5, 2) := by decide +kernel
theorem dX12_isFit_36 : decode cX12_isFit 36 = .ok (.iconst 1, 1) := by decide +kernel
theorem dX12_isFit_37 : decode cX12_isFit 37 = .ok (.iadd, 1) := by decide +kernel
theorem dX12_isFit_38 : decode cX12_isFit 38 = .ok (.iaload, 1) := by decide +kernel
theorem dX12_isFit_39 : decode cX12_isFit 39 = .ok (.aload_n 0, 1) := by decide +kernel
theorem dX12_isFit_40 : decode cX12_isFit 40 = .ok (.getfield 7, 3) := by decide +kernel
theorem dX12_isFit_43 : decode cX12_isFit 43 = .ok (.iload 5, 2) := by decide +kernel
theorem dX12_isFit_45 : decode cX12_isFit 45 = .ok (.iaload, 1) := by decide +kernel
theorem dX12_isFit_46 : decode cX12_isFit 46 = .ok (.isub, 1) := by decide +kernel
theorem dX12_isFit_47 : decode cX12_isFit 47 = .ok (.invokestatic 120, 3) := by decide +kernel
theorem dX12_isFit_50 : decode cX12_isFit 50 = .ok (.imul, 1) := by decide +kernel
theorem dX12_isFit_51 : decode cX12_isFit 51 = .ok (.iload_n 2, 1) := by decide +kernel
theorem dX12_isFit_52 : decode cX12_isFit 52 = .ok (.iadd, 1) := by decide +kernel
theorem dX12_isFit_53 : decode cX12_isFit 53 = .ok (.aload_n 0, 1) := by decide +kernel
theorem dX12_isFit_54 : decode cX12_isFit 54 = .ok (.getfield 7, 3) := by decide +kernel
theorem dX12_isFit_57 : decode cX12_isFit 57 = .ok (.iload 5, 2) := by decide +kernel
theorem dX12_isFit_59 : decode cX12_isFit 59 = .ok (.iconst 2, 1) := by decide +kernel
theorem dX12_isFit_60 : decode cX12_isFit 60 = .ok (.iadd, 1) := by decide +kernel
theorem dX12_isFit_61 : decode cX12_isFit 61 = .ok (.iaload, 1) := by decide +kernel
theorem dX12_isFit_62 : decode cX12_isFit 62 = .ok (.if_icmp .eq 5, 3) := by decide +kernel
theorem dX12_isFit_65 : decode cX12_isFit 65 = .ok (.iconst 0, 1) := by decide +kernel
theorem dX12_isFit_66 : decode cX12_isFit 66 = .ok (.ireturn, 1) := by decide +kernel
theorem dX12_isFit_67 : decode cX12_isFit 67 = .ok (.iinc 4 1, 3) := by decide +kernel
theorem dX12_isFit_70 : decode cX12_isFit 70 = .ok (.goto (-67), 3) := by decide +kernel
theorem dX12_isFit_73 : decode cX12_isFit 73 = .ok (.iconst 1, 1) := by decide +kernel
theorem dX12_isFit_74 : decode cX12_isFit 74 = .ok (.ireturn, 1) := by decide +kernel
theorem dX12_findFits_0 : decode cX12_findFits 0 = .ok (.aload_n 0, 1) := by decide +kernel
theorem dX12_findFits_1 : decode cX12_findFits 1 = .ok (.iconst 0, 1) := by decide +kernel
theorem dX12_findFits_2 : decode cX12_findFits 2 = .ok (.putfield 259, 3) := by decide +kernel
theorem dX12_findFits_5 : decode cX12_findFits 5 = .ok (.iconst 0, 1) := by decide +kernel
theorem dX12_findFits_6 : decode cX12_findFits 6 = .ok (.istore_n 2, 1) := by decide +kernel
theorem dX12_findFits_7 : decode cX12_findFits 7 = .ok (.iload_n 2, 1) := by decide +kernel
theorem dX12_findFits_8 : decode cX12_findFits 8 = .ok (.iconst 4, 1) := by decide +kernel
theorem dX12_findFits_9 : decode cX12_findFits 9 = .ok (.if_icmp .ge 81, 3) := by decide +kernel
theorem dX12_findFits_12 : decode cX12_findFits 12 = .ok (.iconst 0, 1) := by decide +kernel
theorem dX12_findFits_13 : decode cX12_findFits 13 = .ok (.istore_n 3, 1) := by decide +kernel
theorem dX12_findFits_14 : decode cX12_findFits 14 = .ok (.iload_n 3, 1) := by decide +kernel
theorem dX12_findFits_15 : decode cX12_findFits 15 = .ok (.bipush 50, 2) := by decide +kernel
theorem dX12_findFits_17 : decode cX12_findFits 17 = .ok (.if_icmp .gt 67, 3) := by decide +kernel
theorem dX12_findFits_20 : decode cX12_findFits 20 = .ok (.aload_n 0, 1) := by decide +kernel
theorem dX12_findFits_21 : decode cX12_findFits 21 = .ok (.iload_n 2, 1) := by decide +kernel
theorem dX12_findFits_22 : decode cX12_findFits 22 = .ok (.iload_n 3, 1) := by decide +kernel
theorem dX12_findFits_23 : decode cX12_findFits 23 = .ok (.iload_n 1, 1) := by decide +kernel
theorem dX12_findFits_24 : decode cX12_findFits 24 = .ok (.invokevirtual 262, 3) := by decide +kernel
theorem dX12_findFits_27 : decode cX12_findFits 27 = .ok (.ifCond .eq 51, 3) := by decide +kernel
theorem dX12_findFits_30 : decode cX12_findFits 30 = .ok (.aload_n 0, 1) := by decide +kernel
theorem dX12_findFits_31 : decode cX12_findFits 31 = .ok (.aload_n 0, 1) := by decide +kernel
theorem dX12_findFits_32 : decode cX12_findFits 32 = .ok (.getfield 259, 3) := by decide +kernel
theorem dX12_findFits_35 : decode cX12_findFits 35 = .ok (.ifCond .ne 7, 3) := by decide +kernel
theorem dX12_findFits_38 : decode cX12_findFits 38 = .ok (.iload_n 2, 1) := by decide +kernel
theorem dX12_findFits_39 : decode cX12_findFits 39 = .ok (.goto 7, 3) := by decide +kernel
theorem dX12_findFits_42 : decode cX12_findFits 42 = .ok (.aload_n 0, 1) := by decide +kernel
theorem dX12_findFits_43 : decode cX12_findFits 43 = .ok (.getfield 265, 3) := by decide +kernel
theorem dX12_findFits_46 : decode cX12_findFits 46 = .ok (.putfield 265, 3) := by decide +kernel
theorem dX12_findFits_49 : decode cX12_findFits 49 = .ok (.aload_n 0, 1) := by decide +kernel
theorem dX12_findFits_50 : decode cX12_findFits 50 = .ok (.aload_n 0, 1) := by decide +kernel
theorem dX12_findFits_51 : decode cX12_findFits 51 = .ok (.getfield 259, 3) := by decide +kernel
theorem dX12_findFits_54 : decode cX12_findFits 54 = .ok (.ifCond .ne 7, 3) := by decide +kernel
theorem dX12_findFits_57 : decode cX12_findFits 57 = .ok (.iload_n 3, 1) := by decide +kernel
theorem dX12_findFits_58 : decode cX12_findFits 58 = .ok (.goto 7, 3) := by decide +kernel
theorem dX12_findFits_61 : decode cX12_findFits 61 = .ok (.aload_n 0, 1) := by decide +kernel
theorem dX12_findFits_62 : decode cX12_findFits 62 = .ok (.getfield 268, 3) := by decide +kernel
theorem dX12_findFits_65 : decode cX12_findFits 65 = .ok (.putfield 268, 3) := by decide +kernel
theorem dX12_findFits_68 : decode cX12_findFits 68 = .ok (.aload_n 0, 1) := by decide +kernel
theorem dX12_findFits_69 : decode cX12_findFits 69 = .ok (.dup, 1) := by decide +kernel
theorem dX12_findFits_70 : decode cX12_findFits 70 = .ok (.getfield 259, 3) := by decide +kernel
theorem dX12_findFits_73 : decode cX12_findFits 73 = .ok (.iconst 1, 1) := by decide +kernel
theorem dX12_findFits_74 : decode cX12_findFits 74 = .ok (.iadd, 1) := by decide +kernel
theorem dX12_findFits_75 : decode cX12_findFits 75 = .ok (.putfield 259, 3) := by decide +kernel
theorem dX12_findFits_78 : decode cX12_findFits 78 = .ok (.iinc 3 1, 3) := by decide +kernel
theorem dX12_findFits_81 : decode cX12_findFits 81 = .ok (.goto (-67), 3) := by decide +kernel
theorem dX12_findFits_84 : decode cX12_findFits 84 = .ok (.iinc 2 1, 3) := by decide +kernel
theorem dX12_findFits_87 : decode cX12_findFits 87 = .ok (.goto (-80), 3) := by decide +kernel
theorem dX12_findFits_90 : decode cX12_findFits 90 = .ok (.return_, 1) := by decide +kernel
theorem dX12_span_0 : decode cX12_span 0 = .ok (.iload_n 1, 1) := by decide +kernel
theorem dX12_span_1 : decode cX12_span 1 = .ok (.i2l, 1) := by decide +kernel
theorem dX12_span_2 : decode cX12_span 2 = .ok (.lconst 0, 1) := by decide +kernel
theorem dX12_span_3 : decode cX12_span 3 = .ok (.ldc2_w 231, 3) := by decide +kernel
theorem dX12_span_6 : decode cX12_span 6 = .ok (.invokestatic 68, 3) := by decide +kernel
theorem dX12_span_9 : decode cX12_span 9 = .ok (.ifCond .ne 5, 3) := by decide +kernel
theorem dX12_span_12 : decode cX12_span 12 = .ok (.iconst (-1), 1) := by decide +kernel
theorem dX12_span_13 : decode cX12_span 13 = .ok (.ireturn, 1) := by decide +kernel
theorem dX12_span_14 : decode cX12_span 14 = .ok (.aload_n 0, 1) := by decide +kernel
theorem dX12_span_15 : decode cX12_span 15 = .ok (.iconst (-1), 1) := by decide +kernel
theorem dX12_span_16 : decode cX12_span 16 = .ok (.invokevirtual 271, 3) := by decide +kernel
theorem dX12_span_19 : decode cX12_span 19 = .ok (.iload_n 1, 1) := by decide +kernel
theorem dX12_span_20 : decode cX12_span 20 = .ok (.ifCond .ne 10, 3) := by decide +kernel
theorem dX12_span_23 : decode cX12_span 23 = .ok (.aload_n 0, 1) := by decide +kernel
theorem dX12_span_24 : decode cX12_span 24 = .ok (.getfield 259, 3) := by decide +kernel
theorem dX12_span_27 : decode cX12_span 27 = .ok (.goto 31, 3) := by decide +kernel
theorem dX12_span_30 : decode cX12_span 30 = .ok (.aload_n 0, 1) := by decide +kernel
theorem dX12_span_31 : decode cX12_span 31 = .ok (.getfield 259, 3) := by decide +kernel
theorem dX12_span_34 : decode cX12_span 34 = .ok (.ifCond .ne 8, 3) := by decide +kernel
theorem dX12_span_37 : decode cX12_span 37 = .ok (.bipush (-3), 2) := by decide +kernel
theorem dX12_span_39 : decode cX12_span 39 = .ok (.goto 19, 3) := by decide +kernel
theorem dX12_span_42 : decode cX12_span 42 = .ok (.iload_n 1, 1) := by decide +kernel
theorem dX12_span_43 : decode cX12_span 43 = .ok (.iconst 1, 1) := by decide +kernel
theorem dX12_span_44 : decode cX12_span 44 = .ok (.if_icmp .ne 10, 3) := by decide +kernel
theorem dX12_span_47 : decode cX12_span 47 = .ok (.aload_n 0, 1) := by decide +kernel
theorem dX12_span_48 : decode cX12_span 48 = .ok (.getfield 265, 3) := by decide +kernel
theorem dX12_span_51 : decode cX12_span 51 = .ok (.goto 7, 3) := by decide +kernel
theorem dX12_span_54 : decode cX12_span 54 = .ok (.aload_n 0, 1) := by decide +kernel
theorem dX12_span_55 : decode cX12_span 55 = .ok (.getfield 268, 3) := by decide +kernel
theorem dX12_span_58 : decode cX12_span 58 = .ok (.ireturn, 1) := by decide +kernel
theorem dX12_liar_0 : decode cX12_liar 0 = .ok (.aload_n 0, 1) := by decide +kernel
theorem dX12_liar_1 : decode cX12_liar 1 = .ok (.iconst (-1), 1) := by decide +kernel
theorem dX12_liar_2 : decode cX12_liar 2 = .ok (.invokevirtual 271, 3) := by decide +kernel
theorem dX12_liar_5 : decode cX12_liar 5 = .ok (.aload_n 0, 1) := by decide +kernel
theorem dX12_liar_6 : decode cX12_liar 6 = .ok (.getfield 259, 3) := by decide +kernel
theorem dX12_liar_9 : decode cX12_liar 9 = .ok (.ifCond .ne 7, 3) := by decide +kernel
theorem dX12_liar_12 : decode cX12_liar 12 = .ok (.iconst 1, 1) := by decide +kernel
theorem dX12_liar_13 : decode cX12_liar 13 = .ok (.goto 4, 3) := by decide +kernel
theorem dX12_liar_16 : decode cX12_liar 16 = .ok (.iconst 0, 1) := by decide +kernel
theorem dX12_liar_17 : decode cX12_liar 17 = .ok (.istore_n 1, 1) := by decide +kernel
theorem dX12_liar_18 : decode cX12_liar 18 = .ok (.iconst 0, 1) := by decide +kernel
theorem dX12_liar_19 : decode cX12_liar 19 = .ok (.istore_n 2, 1) := by decide +kernel
theorem dX12_liar_20 : decode cX12_liar 20 = .ok (.iload_n 2, 1) := by decide +kernel
theorem dX12_liar_21 : decode cX12_liar 21 = .ok (.aload_n 0, 1) := by decide +kernel
theorem dX12_liar_22 : decode cX12_liar 22 = .ok (.getfield 7, 3) := by decide +kernel
theorem dX12_liar_25 : decode cX12_liar 25 = .ok (.iconst 3, 1) := by decide +kernel
theorem dX12_liar_26 : decode cX12_liar 26 = .ok (.iaload, 1) := by decide +kernel
theorem dX12_liar_27 : decode cX12_liar 27 = .ok (.if_icmp .ge 27, 3) := by decide +kernel
theorem dX12_liar_30 : decode cX12_liar 30 = .ok (.iload_n 1, 1) := by decide +kernel
theorem dX12_liar_31 : decode cX12_liar 31 = .ok (.ifCond .eq 23, 3) := by decide +kernel
theorem dX12_liar_34 : decode cX12_liar 34 = .ok (.aload_n 0, 1) := by decide +kernel
theorem dX12_liar_35 : decode cX12_liar 35 = .ok (.iload_n 2, 1) := by decide +kernel
theorem dX12_liar_36 : decode cX12_liar 36 = .ok (.invokevirtual 271, 3) := by decide +kernel
theorem dX12_liar_39 : decode cX12_liar 39 = .ok (.aload_n 0, 1) := by decide +kernel
theorem dX12_liar_40 : decode cX12_liar 40 = .ok (.getfield 259, 3) := by decide +kernel
theorem dX12_liar_43 : decode cX12_liar 43 = .ok (.ifCond .le 5, 3) := by decide +kernel
theorem dX12_liar_46 : decode cX12_liar 46 = .ok (.iload_n 2, 1) := by decide +kernel
theorem dX12_liar_47 : decode cX12_liar 47 = .ok (.ireturn, 1) := by decide +kernel
theorem dX12_liar_48 : decode cX12_liar 48 = .ok (.iinc 2 1, 3) := by decide +kernel
theorem dX12_liar_51 : decode cX12_liar 51 = .ok (.goto (-31), 3) := by decide +kernel
theorem dX12_liar_54 : decode cX12_liar 54 = .ok (.bipush (-3), 2) := by decide +kernel
theorem dX12_liar_56 : decode cX12_liar 56 = .ok (.ireturn, 1) := by decide +kernel
theorem dX12_seed_0 : decode cX12_seed 0 = .ok (.aload_n 0, 1) := by decide +kernel
theorem dX12_seed_1 : decode cX12_seed 1 = .ok (.getfield 7, 3) := by decide +kernel
theorem dX12_seed_4 : decode cX12_seed 4 = .ok (.iconst 5, 1) := by decide +kernel
theorem dX12_seed_5 : decode cX12_seed 5 = .ok (.iaload, 1) := by decide +kernel
theorem dX12_seed_6 : decode cX12_seed 6 = .ok (.istore_n 2, 1) := by decide +kernel
theorem dX12_seed_7 : decode cX12_seed 7 = .ok (.aload_n 0, 1) := by decide +kernel
theorem dX12_seed_8 : decode cX12_seed 8 = .ok (.getfield 7, 3) := by decide +kernel
theorem dX12_seed_11 : decode cX12_seed 11 = .ok (.iconst 5, 1) := by decide +kernel
theorem dX12_seed_12 : decode cX12_seed 12 = .ok (.iload_n 1, 1) := by decide +kernel
theorem dX12_seed_13 : decode cX12_seed 13 = .ok (.iastore, 1) := by decide +kernel
theorem dX12_seed_14 : decode cX12_seed 14 = .ok (.iload_n 2, 1) := by decide +kernel
theorem dX12_seed_15 : decode cX12_seed 15 = .ok (.ireturn, 1) := by decide +kernel
theorem dX12_drawn_0 : decode cX12_drawn 0 = .ok (.iconst 0, 1) := by decide +kernel
theorem dX12_drawn_1 : decode cX12_drawn 1 = .ok (.istore_n 1, 1) := by decide +kernel
theorem dX12_drawn_2 : decode cX12_drawn 2 = .ok (.aload_n 0, 1) := by decide +kernel
theorem dX12_drawn_3 : decode cX12_drawn 3 = .ok (.iconst (-1), 1) := by decide +kernel
theorem dX12_drawn_4 : decode cX12_drawn 4 = .ok (.invokevirtual 179, 3) := by decide +kernel
theorem dX12_drawn_7 : decode cX12_drawn 7 = .ok (.istore_n 2, 1) := by decide +kernel
theorem dX12_drawn_8 : decode cX12_drawn 8 = .ok (.iload_n 2, 1) := by decide +kernel
theorem dX12_drawn_9 : decode cX12_drawn 9 = .ok (.ifCond .lt 15, 3) := by decide +kernel
theorem dX12_drawn_12 : decode cX12_drawn 12 = .ok (.iinc 1 1, 3) := by decide +kernel
theorem dX12_drawn_15 : decode cX12_drawn 15 = .ok (.aload_n 0, 1) := by decide +kernel
theorem dX12_drawn_16 : decode cX12_drawn 16 = .ok (.iload_n 2, 1) := by decide +kernel
theorem dX12_drawn_17 : decode cX12_drawn 17 = .ok (.invokevirtual 179, 3) := by decide +kernel
theorem dX12_drawn_20 : decode cX12_drawn 20 = .ok (.istore_n 2, 1) := by decide +kernel
theorem dX12_drawn_21 : decode cX12_drawn 21 = .ok (.goto (-13), 3) := by decide +kernel
theorem dX12_drawn_24 : decode cX12_drawn 24 = .ok (.iload_n 1, 1) := by decide +kernel
theorem dX12_drawn_25 : decode cX12_drawn 25 = .ok (.ifCond .ne 5, 3) := by decide +kernel
theorem dX12_drawn_28 : decode cX12_drawn 28 = .ok (.iconst (-1), 1) := by decide +kernel
theorem dX12_drawn_29 : decode cX12_drawn 29 = .ok (.ireturn, 1) := by decide +kernel
theorem dX12_drawn_30 : decode cX12_drawn 30 = .ok (.aload_n 0, 1) := by decide +kernel
theorem dX12_drawn_31 : decode cX12_drawn 31 = .ok (.getfield 7, 3) := by decide +kernel
theorem dX12_drawn_34 : decode cX12_drawn 34 = .ok (.iconst 5, 1) := by decide +kernel
theorem dX12_drawn_35 : decode cX12_drawn 35 = .ok (.aload_n 0, 1) := by decide +kernel
theorem dX12_drawn_36 : decode cX12_drawn 36 = .ok (.getfield 7, 3) := by decide +kernel
theorem dX12_drawn_39 : decode cX12_drawn 39 = .ok (.iconst 5, 1) := by decide +kernel
theorem dX12_drawn_40 : decode cX12_drawn 40 = .ok (.iaload, 1) := by decide +kernel
theorem dX12_drawn_41 : decode cX12_drawn 41 = .ok (.ldc_w 274, 3) := by decide +kernel
theorem dX12_drawn_44 : decode cX12_drawn 44 = .ok (.imul, 1) := by decide +kernel
theorem dX12_drawn_45 : decode cX12_drawn 45 = .ok (.sipush 12345, 3) := by decide +kernel
theorem dX12_drawn_48 : decode cX12_drawn 48 = .ok (.iadd, 1) := by decide +kernel
theorem dX12_drawn_49 : decode cX12_drawn 49 = .ok (.iastore, 1) := by decide +kernel
theorem dX12_drawn_50 : decode cX12_drawn 50 = .ok (.aload_n 0, 1) := by decide +kernel
theorem dX12_drawn_51 : decode cX12_drawn 51 = .ok (.getfield 7, 3) := by decide +kernel
theorem dX12_drawn_54 : decode cX12_drawn 54 = .ok (.iconst 5, 1) := by decide +kernel
theorem dX12_drawn_55 : decode cX12_drawn 55 = .ok (.iaload, 1) := by decide +kernel
theorem dX12_drawn_56 : decode cX12_drawn 56 = .ok (.bipush 16, 2) := by decide +kernel
theorem dX12_drawn_58 : decode cX12_drawn 58 = .ok (.iushr, 1) := by decide +kernel
theorem dX12_drawn_59 : decode cX12_drawn 59 = .ok (.iload_n 1, 1) := by decide +kernel
theorem dX12_drawn_60 : decode cX12_drawn 60 = .ok (.irem, 1) := by decide +kernel
theorem dX12_drawn_61 : decode cX12_drawn 61 = .ok (.istore_n 2, 1) := by decide +kernel
theorem dX12_drawn_62 : decode cX12_drawn 62 = .ok (.aload_n 0, 1) := by decide +kernel
theorem dX12_drawn_63 : decode cX12_drawn 63 = .ok (.iconst (-1), 1) := by decide +kernel
theorem dX12_drawn_64 : decode cX12_drawn 64 = .ok (.invokevirtual 179, 3) := by decide +kernel
theorem dX12_drawn_67 : decode cX12_drawn 67 = .ok (.istore_n 3, 1) := by decide +kernel
theorem dX12_drawn_68 : decode cX12_drawn 68 = .ok (.iload_n 2, 1) := by decide +kernel
theorem dX12_drawn_69 : decode cX12_drawn 69 = .ok (.ifCond .le 15, 3) := by decide +kernel
theorem dX12_drawn_72 : decode cX12_drawn 72 = .ok (.aload_n 0, 1) := by decide +kernel
theorem dX12_drawn_73 : decode cX12_drawn 73 = .ok (.iload_n 3, 1) := by decide +kernel
theorem dX12_drawn_74 : decode cX12_drawn 74 = .ok (.invokevirtual 179, 3) := by decide +kernel
theorem dX12_drawn_77 : decode cX12_drawn 77 = .ok (.istore_n 3, 1) := by decide +kernel
theorem dX12_drawn_78 : decode cX12_drawn 78 = .ok (.iinc 2 (-1), 3) := by decide +kernel
theorem dX12_drawn_81 : decode cX12_drawn 81 = .ok (.goto (-13), 3) := by decide +kernel
theorem dX12_drawn_84 : decode cX12_drawn 84 = .ok (.iload_n 3, 1) := by decide +kernel
theorem dX12_drawn_85 : decode cX12_drawn 85 = .ok (.ireturn, 1) := by decide +kernel
theorem dX12_draw_0 : decode cX12_draw 0 = .ok (.aload_n 0, 1) := by decide +kernel
theorem dX12_draw_1 : decode cX12_draw 1 = .ok (.invokevirtual 275, 3) := by decide +kernel
theorem dX12_draw_4 : decode cX12_draw 4 = .ok (.istore_n 1, 1) := by decide +kernel
theorem dX12_draw_5 : decode cX12_draw 5 = .ok (.iload_n 1, 1) := by decide +kernel
theorem dX12_draw_6 : decode cX12_draw 6 = .ok (.ifCond .ge 6, 3) := by decide +kernel
theorem dX12_draw_9 : decode cX12_draw 9 = .ok (.bipush (-3), 2) := by decide +kernel
theorem dX12_draw_11 : decode cX12_draw 11 = .ok (.ireturn, 1) := by decide +kernel
theorem dX12_draw_12 : decode cX12_draw 12 = .ok (.aload_n 0, 1) := by decide +kernel
theorem dX12_draw_13 : decode cX12_draw 13 = .ok (.iload_n 1, 1) := by decide +kernel
theorem dX12_draw_14 : decode cX12_draw 14 = .ok (.invokevirtual 182, 3) := by decide +kernel
theorem dX12_draw_17 : decode cX12_draw 17 = .ok (.iload_n 1, 1) := by decide +kernel
theorem dX12_draw_18 : decode cX12_draw 18 = .ok (.ireturn, 1) := by decide +kernel
theorem dX12_often_0 : decode cX12_often 0 = .ok (.iload_n 1, 1) := by decide +kernel
theorem dX12_often_1 : decode cX12_often 1 = .ok (.i2l, 1) := by decide +kernel
theorem dX12_often_2 : decode cX12_often 2 = .ok (.lconst 1, 1) := by decide +kernel
theorem dX12_often_3 : decode cX12_often 3 = .ok (.ldc2_w 278, 3) := by decide +kernel
theorem dX12_often_6 : decode cX12_often 6 = .ok (.invokestatic 68, 3) := by decide +kernel
theorem dX12_often_9 : decode cX12_often 9 = .ok (.ifCond .ne 5, 3) := by decide +kernel
theorem dX12_often_12 : decode cX12_often 12 = .ok (.iconst (-1), 1) := by decide +kernel
theorem dX12_often_13 : decode cX12_often 13 = .ok (.ireturn, 1) := by decide +kernel
theorem dX12_often_14 : decode cX12_often 14 = .ok (.aload_n 0, 1) := by decide +kernel
theorem dX12_often_15 : decode cX12_often 15 = .ok (.invokevirtual 280, 3) := by decide +kernel
theorem dX12_often_18 : decode cX12_often 18 = .ok (.iconst 0, 1) := by decide +kernel
theorem dX12_often_19 : decode cX12_often 19 = .ok (.istore_n 2, 1) := by decide +kernel
theorem dX12_often_20 : decode cX12_often 20 = .ok (.iconst 0, 1) := by decide +kernel
theorem dX12_often_21 : decode cX12_often 21 = .ok (.istore_n 3, 1) := by decide +kernel
theorem dX12_often_22 : decode cX12_often 22 = .ok (.iload_n 3, 1) := by decide +kernel
theorem dX12_often_23 : decode cX12_often 23 = .ok (.iload_n 1, 1) := by decide +kernel
theorem dX12_often_24 : decode cX12_often 24 = .ok (.if_icmp .ge 74, 3) := by decide +kernel
theorem dX12_often_27 : decode cX12_often 27 = .ok (.aload_n 0, 1) := by decide +kernel
theorem dX12_often_28 : decode cX12_often 28 = .ok (.invokevirtual 275, 3) := by decide +kernel
theorem dX12_often_31 : decode cX12_often 31 = .ok (.istore 4, 2) := by decide +kernel
theorem dX12_often_33 : decode cX12_often 33 = .ok (.iload 4, 2) := by decide +kernel
theorem dX12_often_35 : decode cX12_often 35 = .ok (.ifCond .lt 18, 3) := by decide +kernel
theorem dX12_often_38 : decode cX12_often 38 = .ok (.aload_n 0, 1) := by decide +kernel
theorem dX12_often_39 : decode cX12_often 39 = .ok (.iload 4, 2) := by decide +kernel
theorem dX12_often_41 : decode cX12_often 41 = .ok (.invokevirtual 175, 3) := by decide +kernel
theorem dX12_often_44 : decode cX12_often 44 = .ok (.aload_n 0, 1) := by decide +kernel
theorem dX12_often_45 : decode cX12_often 45 = .ok (.invokevirtual 275, 3) := by decide +kernel
theorem dX12_often_48 : decode cX12_often 48 = .ok (.istore 4, 2) := by decide +kernel
theorem dX12_often_50 : decode cX12_often 50 = .ok (.goto (-17), 3) := by decide +kernel
theorem dX12_often_53 : decode cX12_often 53 = .ok (.iload_n 2, 1) := by decide +kernel
theorem dX12_often_54 : decode cX12_often 54 = .ok (.aload_n 0, 1) := by decide +kernel
theorem dX12_often_55 : decode cX12_often 55 = .ok (.invokevirtual 99, 3) := by decide +kernel
theorem dX12_often_58 : decode cX12_often 58 = .ok (.aload_n 0, 1) := by decide +kernel
theorem dX12_often_59 : decode cX12_often 59 = .ok (.invokevirtual 204, 3) := by decide +kernel
theorem dX12_often_62 : decode cX12_often 62 = .ok (.if_icmp .ne 7, 3) := by decide +kernel
theorem dX12_often_65 : decode cX12_often 65 = .ok (.iconst 1, 1) := by decide +kernel
theorem dX12_often_66 : decode cX12_often 66 = .ok (.goto 4, 3) := by decide +kernel
theorem dX12_often_69 : decode cX12_often 69 = .ok (.iconst 0, 1) := by decide +kernel
theorem dX12_often_70 : decode cX12_often 70 = .ok (.iadd, 1) := by decide +kernel
theorem dX12_often_71 : decode cX12_often 71 = .ok (.istore_n 2, 1) := by decide +kernel
theorem dX12_often_72 : decode cX12_often 72 = .ok (.aload_n 0, 1) := by decide +kernel
theorem dX12_often_73 : decode cX12_often 73 = .ok (.getfield 7, 3) := by decide +kernel
theorem dX12_often_76 : decode cX12_often 76 = .ok (.iconst 5, 1) := by decide +kernel
theorem dX12_often_77 : decode cX12_often 77 = .ok (.iaload, 1) := by decide +kernel
theorem dX12_often_78 : decode cX12_often 78 = .ok (.istore 4, 2) := by decide +kernel
theorem dX12_often_80 : decode cX12_often 80 = .ok (.aload_n 0, 1) := by decide +kernel
theorem dX12_often_81 : decode cX12_often 81 = .ok (.invokevirtual 283, 3) := by decide +kernel
theorem dX12_often_84 : decode cX12_often 84 = .ok (.aload_n 0, 1) := by decide +kernel
theorem dX12_often_85 : decode cX12_often 85 = .ok (.getfield 7, 3) := by decide +kernel
theorem dX12_often_88 : decode cX12_often 88 = .ok (.iconst 5, 1) := by decide +kernel
theorem dX12_often_89 : decode cX12_often 89 = .ok (.iload 4, 2) := by decide +kernel
theorem dX12_often_91 : decode cX12_often 91 = .ok (.iastore, 1) := by decide +kernel
theorem dX12_often_92 : decode cX12_often 92 = .ok (.iinc 3 1, 3) := by decide +kernel
theorem dX12_often_95 : decode cX12_often 95 = .ok (.goto (-73), 3) := by decide +kernel
theorem dX12_often_98 : decode cX12_often 98 = .ok (.aload_n 0, 1) := by decide +kernel
theorem dX12_often_99 : decode cX12_often 99 = .ok (.invokevirtual 283, 3) := by decide +kernel
theorem dX12_often_102 : decode cX12_often 102 = .ok (.iload_n 2, 1) := by decide +kernel
theorem dX12_often_103 : decode cX12_often 103 = .ok (.ireturn, 1) := by decide +kernel
theorem dX12_prove_0 : decode cX12_prove 0 = .ok (.aload_n 0, 1) := by decide +kernel
theorem dX12_prove_1 : decode cX12_prove 1 = .ok (.bipush 6, 2) := by decide +kernel
theorem dX12_prove_3 : decode cX12_prove 3 = .ok (.invokevirtual 213, 3) := by decide +kernel
theorem dX12_prove_6 : decode cX12_prove 6 = .ok (.aload_n 0, 1) := by decide +kernel
theorem dX12_prove_7 : decode cX12_prove 7 = .ok (.getfield 192, 3) := by decide +kernel
theorem dX12_prove_10 : decode cX12_prove 10 = .ok (.ifCond .ge 6, 3) := by decide +kernel
theorem dX12_prove_13 : decode cX12_prove 13 = .ok (.bipush (-3), 2) := by decide +kernel
theorem dX12_prove_15 : decode cX12_prove 15 = .ok (.ireturn, 1) := by decide +kernel
theorem dX12_prove_16 : decode cX12_prove 16 = .ok (.aload_n 0, 1) := by decide +kernel
theorem dX12_prove_17 : decode cX12_prove 17 = .ok (.invokevirtual 280, 3) := by decide +kernel
theorem dX12_prove_20 : decode cX12_prove 20 = .ok (.aload_n 0, 1) := by decide +kernel
theorem dX12_prove_21 : decode cX12_prove 21 = .ok (.aload_n 0, 1) := by decide +kernel
theorem dX12_prove_22 : decode cX12_prove 22 = .ok (.getfield 192, 3) := by decide +kernel
theorem dX12_prove_25 : decode cX12_prove 25 = .ok (.putfield 286, 3) := by decide +kernel
theorem dX12_prove_28 : decode cX12_prove 28 = .ok (.iconst 0, 1) := by decide +kernel
theorem dX12_prove_29 : decode cX12_prove 29 = .ok (.istore_n 1, 1) := by decide +kernel
theorem dX12_prove_30 : decode cX12_prove 30 = .ok (.iload_n 1, 1) := by decide +kernel
theorem dX12_prove_31 : decode cX12_prove 31 = .ok (.aload_n 0, 1) := by decide +kernel
theorem dX12_prove_32 : decode cX12_prove 32 = .ok (.getfield 286, 3) := by decide +kernel
theorem dX12_prove_35 : decode cX12_prove 35 = .ok (.if_icmp .ge 61, 3) := by decide +kernel
theorem dX12_prove_38 : decode cX12_prove 38 = .ok (.aload_n 0, 1) := by decide +kernel
theorem dX12_prove_39 : decode cX12_prove 39 = .ok (.aload_n 0, 1) := by decide +kernel
theorem dX12_prove_40 : decode cX12_prove 40 = .ok (.getfield 29, 3) := by decide +kernel
theorem dX12_prove_43 : decode cX12_prove 43 = .ok (.iload_n 1, 1) := by decide +kernel
theorem dX12_prove_44 : decode cX12_prove 44 = .ok (.iaload, 1) := by decide +kernel
theorem dX12_prove_45 : decode cX12_prove 45 = .ok (.invokevirtual 175, 3) := by decide +kernel
theorem dX12_prove_48 : decode cX12_prove 48 = .ok (.aload_n 0, 1) := by decide +kernel
theorem dX12_prove_49 : decode cX12_prove 49 = .ok (.getfield 41, 3) := by decide +kernel
theorem dX12_prove_52 : decode cX12_prove 52 = .ok (.iconst 3, 1) := by decide +kernel
theorem dX12_prove_53 : decode cX12_prove 53 = .ok (.iload_n 1, 1) := by decide +kernel
theorem dX12_prove_54 : decode cX12_prove 54 = .ok (.imul, 1) := by decide +kernel
theorem dX12_prove_55 : decode cX12_prove 55 = .ok (.aload_n 0, 1) := by decide +kernel
theorem dX12_prove_56 : decode cX12_prove 56 = .ok (.getfield 29, 3) := by decide +kernel
theorem dX12_prove_59 : decode cX12_prove 59 = .ok (.iload_n 1, 1) := by decide +kernel
theorem dX12_prove_60 : decode cX12_prove 60 = .ok (.iaload, 1) := by decide +kernel
theorem dX12_prove_61 : decode cX12_prove 61 = .ok (.iastore, 1) := by decide +kernel
theorem dX12_prove_62 : decode cX12_prove 62 = .ok (.aload_n 0, 1) := by decide +kernel
theorem dX12_prove_63 : decode cX12_prove 63 = .ok (.getfield 41, 3) := by decide +kernel
theorem dX12_prove_66 : decode cX12_prove 66 = .ok (.iconst 3, 1) := by decide +kernel
theorem dX12_prove_67 : decode cX12_prove 67 = .ok (.iload_n 1, 1) := by decide +kernel
theorem dX12_prove_68 : decode cX12_prove 68 = .ok (.imul, 1) := by decide +kernel
theorem dX12_prove_69 : decode cX12_prove 69 = .ok (.iconst 1, 1) := by decide +kernel
theorem dX12_prove_70 : decode cX12_prove 70 = .ok (.iadd, 1) := by decide +kernel
theorem dX12_prove_71 : decode cX12_prove 71 = .ok (.aload_n 0, 1) := by decide +kernel
theorem dX12_prove_72 : decode cX12_prove 72 = .ok (.invokevirtual 150, 3) := by decide +kernel
theorem dX12_prove_75 : decode cX12_prove 75 = .ok (.iastore, 1) := by decide +kernel
theorem dX12_prove_76 : decode cX12_prove 76 = .ok (.aload_n 0, 1) := by decide +kernel
theorem dX12_prove_77 : decode cX12_prove 77 = .ok (.getfield 41, 3) := by decide +kernel
theorem dX12_prove_80 : decode cX12_prove 80 = .ok (.iconst 3, 1) := by decide +kernel
theorem dX12_prove_81 : decode cX12_prove 81 = .ok (.iload_n 1, 1) := by decide +kernel
theorem dX12_prove_82 : decode cX12_prove 82 = .ok (.imul, 1) := by decide +kernel
theorem dX12_prove_83 : decode cX12_prove 83 = .ok (.iconst 2, 1) := by decide +kernel
theorem dX12_prove_84 : decode cX12_prove 84 = .ok (.iadd, 1) := by decide +kernel
theorem dX12_prove_85 : decode cX12_prove 85 = .ok (.aload_n 0, 1) := by decide +kernel
theorem dX12_prove_86 : decode cX12_prove 86 = .ok (.invokevirtual 99, 3) := by decide +kernel
theorem dX12_prove_89 : decode cX12_prove 89 = .ok (.iastore, 1) := by decide +kernel
theorem dX12_prove_90 : decode cX12_prove 90 = .ok (.iinc 1 1, 3) := by decide +kernel
theorem dX12_prove_93 : decode cX12_prove 93 = .ok (.goto (-63), 3) := by decide +kernel
theorem dX12_prove_96 : decode cX12_prove 96 = .ok (.aload_n 0, 1) := by decide +kernel
theorem dX12_prove_97 : decode cX12_prove 97 = .ok (.invokevirtual 283, 3) := by decide +kernel
theorem dX12_prove_100 : decode cX12_prove 100 = .ok (.aload_n 0, 1) := by decide +kernel
theorem dX12_prove_101 : decode cX12_prove 101 = .ok (.getfield 286, 3) := by decide +kernel
theorem dX12_prove_104 : decode cX12_prove 104 = .ok (.ireturn, 1) := by decide +kernel
theorem dX12_isRow_0 : decode cX12_isRow 0 = .ok (.iload_n 1, 1) := by decide +kernel
theorem dX12_isRow_1 : decode cX12_isRow 1 = .ok (.i2l, 1) := by decide +kernel
theorem dX12_isRow_2 : decode cX12_isRow 2 = .ok (.lconst 0, 1) := by decide +kernel
theorem dX12_isRow_3 : decode cX12_isRow 3 = .ok (.aload_n 0, 1) := by decide +kernel
theorem dX12_isRow_4 : decode cX12_isRow 4 = .ok (.getfield 286, 3) := by decide +kernel
theorem dX12_isRow_7 : decode cX12_isRow 7 = .ok (.iconst 1, 1) := by decide +kernel
theorem dX12_isRow_8 : decode cX12_isRow 8 = .ok (.isub, 1) := by decide +kernel
theorem dX12_isRow_9 : decode cX12_isRow 9 = .ok (.i2l, 1) := by decide +kernel
theorem dX12_isRow_10 : decode cX12_isRow 10 = .ok (.invokestatic 68, 3) := by decide +kernel
theorem dX12_isRow_13 : decode cX12_isRow 13 = .ok (.ifCond .eq 19, 3) := by decide +kernel
theorem dX12_isRow_16 : decode cX12_isRow 16 = .ok (.iload_n 2, 1) := by decide +kernel
theorem dX12_isRow_17 : decode cX12_isRow 17 = .ok (.i2l, 1) := by decide +kernel
theorem dX12_isRow_18 : decode cX12_isRow 18 = .ok (.lconst 0, 1) := by decide +kernel
theorem dX12_isRow_19 : decode cX12_isRow 19 = .ok (.ldc2_w 231, 3) := by decide +kernel
theorem dX12_isRow_22 : decode cX12_isRow 22 = .ok (.invokestatic 68, 3) := by decide +kernel
theorem dX12_isRow_25 : decode cX12_isRow 25 = .ok (.ifCond .eq 7, 3) := by decide +kernel
theorem dX12_isRow_28 : decode cX12_isRow 28 = .ok (.iconst 1, 1) := by decide +kernel
theorem dX12_isRow_29 : decode cX12_isRow 29 = .ok (.goto 4, 3) := by decide +kernel
theorem dX12_isRow_32 : decode cX12_isRow 32 = .ok (.iconst 0, 1) := by decide +kernel
theorem dX12_isRow_33 : decode cX12_isRow 33 = .ok (.ireturn, 1) := by decide +kernel
theorem dX12_row_0 : decode cX12_row 0 = .ok (.aload_n 0, 1) := by decide +kernel
theorem dX12_row_1 : decode cX12_row 1 = .ok (.iload_n 1, 1) := by decide +kernel
theorem dX12_row_2 : decode cX12_row 2 = .ok (.iload_n 2, 1) := by decide +kernel
theorem dX12_row_3 : decode cX12_row 3 = .ok (.invokevirtual 289, 3) := by decide +kernel
theorem dX12_row_6 : decode cX12_row 6 = .ok (.ifCond .eq 16, 3) := by decide +kernel
theorem dX12_row_9 : decode cX12_row 9 = .ok (.aload_n 0, 1) := by decide +kernel
theorem dX12_row_10 : decode cX12_row 10 = .ok (.getfield 41, 3) := by decide +kernel
theorem dX12_row_13 : decode cX12_row 13 = .ok (.iconst 3, 1) := by decide +kernel
theorem dX12_row_14 : decode cX12_row 14 = .ok (.iload_n 1, 1) := by decide +kernel
theorem dX12_row_15 : decode cX12_row 15 = .ok (.imul, 1) := by decide +kernel
theorem dX12_row_16 : decode cX12_row 16 = .ok (.iload_n 2, 1) := by decide +kernel
theorem dX12_row_17 : decode cX12_row 17 = .ok (.iadd, 1) := by decide +kernel
theorem dX12_row_18 : decode cX12_row 18 = .ok (.iaload, 1) := by decide +kernel
theorem dX12_row_19 : decode cX12_row 19 = .ok (.goto 5, 3) := by decide +kernel
theorem dX12_row_22 : decode cX12_row 22 = .ok (.bipush (-9), 2) := by decide +kernel
theorem dX12_row_24 : decode cX12_row 24 = .ok (.ireturn, 1) := by decide +kernel
theorem dX12_alterRow_0 : decode cX12_alterRow 0 = .ok (.aload_n 0, 1) := by decide +kernel
theorem dX12_alterRow_1 : decode cX12_alterRow 1 = .ok (.iload_n 1, 1) := by decide +kernel
theorem dX12_alterRow_2 : decode cX12_alterRow 2 = .ok (.iload_n 2, 1) := by decide +kernel
theorem dX12_alterRow_3 : decode cX12_alterRow 3 = .ok (.invokevirtual 289, 3) := by decide +kernel
theorem dX12_alterRow_6 : decode cX12_alterRow 6 = .ok (.ifCond .ne 6, 3) := by decide +kernel
theorem dX12_alterRow_9 : decode cX12_alterRow 9 = .ok (.bipush (-9), 2) := by decide +kernel
theorem dX12_alterRow_11 : decode cX12_alterRow 11 = .ok (.ireturn, 1) := by decide +kernel
theorem dX12_alterRow_12 : decode cX12_alterRow 12 = .ok (.aload_n 0, 1) := by decide +kernel
theorem dX12_alterRow_13 : decode cX12_alterRow 13 = .ok (.getfield 41, 3) := by decide +kernel
theorem dX12_alterRow_16 : decode cX12_alterRow 16 = .ok (.iconst 3, 1) := by decide +kernel
theorem dX12_alterRow_17 : decode cX12_alterRow 17 = .ok (.iload_n 1, 1) := by decide +kernel
theorem dX12_alterRow_18 : decode cX12_alterRow 18 = .ok (.imul, 1) := by decide +kernel
theorem dX12_alterRow_19 : decode cX12_alterRow 19 = .ok (.iload_n 2, 1) := by decide +kernel
theorem dX12_alterRow_20 : decode cX12_alterRow 20 = .ok (.iadd, 1) := by decide +kernel
theorem dX12_alterRow_21 : decode cX12_alterRow 21 = .ok (.iaload, 1) := by decide +kernel
theorem dX12_alterRow_22 : decode cX12_alterRow 22 = .ok (.istore 4, 2) := by decide +kernel
theorem dX12_alterRow_24 : decode cX12_alterRow 24 = .ok (.aload_n 0, 1) := by decide +kernel
theorem dX12_alterRow_25 : decode cX12_alterRow 25 = .ok (.getfield 41, 3) := by decide +kernel
theorem dX12_alterRow_28 : decode cX12_alterRow 28 = .ok (.iconst 3, 1) := by decide +kernel
theorem dX12_alterRow_29 : decode cX12_alterRow 29 = .ok (.iload_n 1, 1) := by decide +kernel
theorem dX12_alterRow_30 : decode cX12_alterRow 30 = .ok (.imul, 1) := by decide +kernel
theorem dX12_alterRow_31 : decode cX12_alterRow 31 = .ok (.iload_n 2, 1) := by decide +kernel
theorem dX12_alterRow_32 : decode cX12_alterRow 32 = .ok (.iadd, 1) := by decide +kernel
theorem dX12_alterRow_33 : decode cX12_alterRow 33 = .ok (.iload_n 3, 1) := by decide +kernel
theorem dX12_alterRow_34 : decode cX12_alterRow 34 = .ok (.iastore, 1) := by decide +kernel
theorem dX12_alterRow_35 : decode cX12_alterRow 35 = .ok (.iload 4, 2) := by decide +kernel
theorem dX12_alterRow_37 : decode cX12_alterRow 37 = .ok (.ireturn, 1) := by decide +kernel
theorem dX12_judge_0 : decode cX12_judge 0 = .ok (.aload_n 0, 1) := by decide +kernel
theorem dX12_judge_1 : decode cX12_judge 1 = .ok (.invokevirtual 280, 3) := by decide +kernel
theorem dX12_judge_4 : decode cX12_judge 4 = .ok (.iconst 0, 1) := by decide +kernel
theorem dX12_judge_5 : decode cX12_judge 5 = .ok (.istore_n 1, 1) := by decide +kernel
theorem dX12_judge_6 : decode cX12_judge 6 = .ok (.iconst 0, 1) := by decide +kernel
theorem dX12_judge_7 : decode cX12_judge 7 = .ok (.istore_n 2, 1) := by decide +kernel
theorem dX12_judge_8 : decode cX12_judge 8 = .ok (.iload_n 2, 1) := by decide +kernel
theorem dX12_judge_9 : decode cX12_judge 9 = .ok (.aload_n 0, 1) := by decide +kernel
theorem dX12_judge_10 : decode cX12_judge 10 = .ok (.getfield 286, 3) := by decide +kernel
theorem dX12_judge_13 : decode cX12_judge 13 = .ok (.if_icmp .ge 138, 3) := by decide +kernel
theorem dX12_judge_16 : decode cX12_judge 16 = .ok (.iload_n 1, 1) := by decide +kernel
theorem dX12_judge_17 : decode cX12_judge 17 = .ok (.ifCond .ne 134, 3) := by decide +kernel
theorem dX12_judge_20 : decode cX12_judge 20 = .ok (.aload_n 0, 1) := by decide +kernel
theorem dX12_judge_21 : decode cX12_judge 21 = .ok (.aload_n 0, 1) := by decide +kernel
theorem dX12_judge_22 : decode cX12_judge 22 = .ok (.getfield 41, 3) := by decide +kernel
theorem dX12_judge_25 : decode cX12_judge 25 = .ok (.iconst 3, 1) := by decide +kernel
theorem dX12_judge_26 : decode cX12_judge 26 = .ok (.iload_n 2, 1) := by decide +kernel
theorem dX12_judge_27 : decode cX12_judge 27 = .ok (.imul, 1) := by decide +kernel
theorem dX12_judge_28 : decode cX12_judge 28 = .ok (.iaload, 1) := by decide +kernel
theorem dX12_judge_29 : decode cX12_judge 29 = .ok (.invokevirtual 159, 3) := by decide +kernel
theorem dX12_judge_32 : decode cX12_judge 32 = .ok (.ifCond .eq 22, 3) := by decide +kernel
theorem dX12_judge_35 : decode cX12_judge 35 = .ok (.aload_n 0, 1) := by decide +kernel
theorem dX12_judge_36 : decode cX12_judge 36 = .ok (.aload_n 0, 1) := by decide +kernel
theorem dX12_judge_37 : decode cX12_judge 37 = .ok (.getfield 41, 3) := by decide +kernel
theorem dX12_judge_40 : decode cX12_judge 40 = .ok (.iconst 3, 1) := by decide +kernel
theorem dX12_judge_41 : decode cX12_judge 41 = .ok (.iload_n 2, 1) := by decide +kernel
theorem dX12_judge_42 : decode cX12_judge 42 = .ok (.imul, 1) := by decide +kernel
theorem dX12_judge_43 : decode cX12_judge 43 = .ok (.iaload, 1) := by decide +kernel
theorem dX12_judge_44 : decode cX12_judge 44 = .ok (.invokevirtual 162, 3) := by decide +kernel
theorem dX12_judge_47 : decode cX12_judge 47 = .ok (.ifCond .eq 7, 3) := by decide +kernel
theorem dX12_judge_50 : decode cX12_judge 50 = .ok (.iconst 1, 1) := by decide +kernel
theorem dX12_judge_51 : decode cX12_judge 51 = .ok (.goto 4, 3) := by decide +kernel
theorem dX12_judge_54 : decode cX12_judge 54 = .ok (.iconst 0, 1) := by decide +kernel
theorem dX12_judge_55 : decode cX12_judge 55 = .ok (.istore_n 3, 1) := by decide +kernel
theorem dX12_judge_56 : decode cX12_judge 56 = .ok (.iload_n 3, 1) := by decide +kernel
theorem dX12_judge_57 : decode cX12_judge 57 = .ok (.ifCond .eq 76, 3) := by decide +kernel
theorem dX12_judge_60 : decode cX12_judge 60 = .ok (.aload_n 0, 1) := by decide +kernel
theorem dX12_judge_61 : decode cX12_judge 61 = .ok (.aload_n 0, 1) := by decide +kernel
theorem dX12_judge_62 : decode cX12_judge 62 = .ok (.getfield 41, 3) := by decide +kernel
theorem dX12_judge_65 : decode cX12_judge 65 = .ok (.iconst 3, 1) := by decide +kernel
theorem dX12_judge_66 : decode cX12_judge 66 = .ok (.iload_n 2, 1) := by decide +kernel
theorem dX12_judge_67 : decode cX12_judge 67 = .ok (.imul, 1) := by decide +kernel
theorem dX12_judge_68 : decode cX12_judge 68 = .ok (.iaload, 1) := by decide +kernel
theorem dX12_judge_69 : decode cX12_judge 69 = .ok (.invokevirtual 175, 3) := by decide +kernel
theorem dX12_judge_72 : decode cX12_judge 72 = .ok (.aload_n 0, 1) := by decide +kernel
theorem dX12_judge_73 : decode cX12_judge 73 = .ok (.getfield 41, 3) := by decide +kernel
theorem dX12_judge_76 : decode cX12_judge 76 = .ok (.iconst 3, 1) := by decide +kernel
theorem dX12_judge_77 : decode cX12_judge 77 = .ok (.iload_n 2, 1) := by decide +kernel
theorem dX12_judge_78 : decode cX12_judge 78 = .ok (.imul, 1) := by decide +kernel
theorem dX12_judge_79 : decode cX12_judge 79 = .ok (.iconst 1, 1) := by decide +kernel
theorem dX12_judge_80 : decode cX12_judge 80 = .ok (.iadd, 1) := by decide +kernel
theorem dX12_judge_81 : decode cX12_judge 81 = .ok (.iaload, 1) := by decide +kernel
theorem dX12_judge_82 : decode cX12_judge 82 = .ok (.aload_n 0, 1) := by decide +kernel
theorem dX12_judge_83 : decode cX12_judge 83 = .ok (.invokevirtual 150, 3) := by decide +kernel
theorem dX12_judge_86 : decode cX12_judge 86 = .ok (.if_icmp .ne 45, 3) := by decide +kernel
theorem dX12_judge_89 : decode cX12_judge 89 = .ok (.aload_n 0, 1) := by decide +kernel
theorem dX12_judge_90 : decode cX12_judge 90 = .ok (.getfield 41, 3) := by decide +kernel
theorem dX12_judge_93 : decode cX12_judge 93 = .ok (.iconst 3, 1) := by decide +kernel
theorem dX12_judge_94 : decode cX12_judge 94 = .ok (.iload_n 2, 1) := by decide +kernel
theorem dX12_judge_95 : decode cX12_judge 95 = .ok (.imul, 1) := by decide +kernel
theorem dX12_judge_96 : decode cX12_judge 96 = .ok (.iconst 2, 1) := by decide +kernel
theorem dX12_judge_97 : decode cX12_judge 97 = .ok (.iadd, 1) := by decide +kernel
theorem dX12_judge_98 : decode cX12_judge 98 = .ok (.iaload, 1) := by decide +kernel
theorem dX12_judge_99 : decode cX12_judge 99 = .ok (.aload_n 0, 1) := by decide +kernel
theorem dX12_judge_100 : decode cX12_judge 100 = .ok (.invokevirtual 99, 3) := by decide +kernel
theorem dX12_judge_103 : decode cX12_judge 103 = .ok (.if_icmp .ne 28, 3) := by decide +kernel
theorem dX12_judge_106 : decode cX12_judge 106 = .ok (.iload_n 2, 1) := by decide +kernel
theorem dX12_judge_107 : decode cX12_judge 107 = .ok (.aload_n 0, 1) := by decide +kernel
theorem dX12_judge_108 : decode cX12_judge 108 = .ok (.getfield 286, 3) := by decide +kernel
theorem dX12_judge_111 : decode cX12_judge 111 = .ok (.iconst 1, 1) := by decide +kernel
theorem dX12_judge_112 : decode cX12_judge 112 = .ok (.isub, 1) := by decide +kernel
theorem dX12_judge_113 : decode cX12_judge 113 = .ok (.if_icmp .lt 14, 3) := by decide +kernel
theorem dX12_judge_116 : decode cX12_judge 116 = .ok (.aload_n 0, 1) := by decide +kernel
theorem dX12_judge_117 : decode cX12_judge 117 = .ok (.invokevirtual 99, 3) := by decide +kernel
theorem dX12_judge_120 : decode cX12_judge 120 = .ok (.aload_n 0, 1) := by decide +kernel
theorem dX12_judge_121 : decode cX12_judge 121 = .ok (.invokevirtual 204, 3) := by decide +kernel
theorem dX12_judge_124 : decode cX12_judge 124 = .ok (.if_icmp .ne 7, 3) := by decide +kernel
theorem dX12_judge_127 : decode cX12_judge 127 = .ok (.iconst 1, 1) := by decide +kernel
theorem dX12_judge_128 : decode cX12_judge 128 = .ok (.goto 4, 3) := by decide +kernel
theorem dX12_judge_131 : decode cX12_judge 131 = .ok (.iconst 0, 1) := by decide +kernel
theorem dX12_judge_132 : decode cX12_judge 132 = .ok (.istore_n 3, 1) := by decide +kernel
theorem dX12_judge_133 : decode cX12_judge 133 = .ok (.iload_n 3, 1) := by decide +kernel
theorem dX12_judge_134 : decode cX12_judge 134 = .ok (.ifCond .eq 7, 3) := by decide +kernel
theorem dX12_judge_137 : decode cX12_judge 137 = .ok (.iconst 0, 1) := by decide +kernel
theorem dX12_judge_138 : decode cX12_judge 138 = .ok (.goto 6, 3) := by decide +kernel
theorem dX12_judge_141 : decode cX12_judge 141 = .ok (.iload_n 2, 1) := by decide +kernel
theorem dX12_judge_142 : decode cX12_judge 142 = .ok (.iconst 1, 1) := by decide +kernel
theorem dX12_judge_143 : decode cX12_judge 143 = .ok (.iadd, 1) := by decide +kernel
theorem dX12_judge_144 : decode cX12_judge 144 = .ok (.istore_n 1, 1) := by decide +kernel
theorem dX12_judge_145 : decode cX12_judge 145 = .ok (.iinc 2 1, 3) := by decide +kernel
theorem dX12_judge_148 : decode cX12_judge 148 = .ok (.goto (-140), 3) := by decide +kernel
theorem dX12_judge_151 : decode cX12_judge 151 = .ok (.aload_n 0, 1) := by decide +kernel
theorem dX12_judge_152 : decode cX12_judge 152 = .ok (.invokevirtual 283, 3) := by decide +kernel
theorem dX12_judge_155 : decode cX12_judge 155 = .ok (.iload_n 1, 1) := by decide +kernel
theorem dX12_judge_156 : decode cX12_judge 156 = .ok (.ireturn, 1) := by decide +kernel
theorem dX12_feed_0 : decode cX12_feed 0 = .ok (.iload_n 3, 1) := by decide +kernel
theorem dX12_feed_1 : decode cX12_feed 1 = .ok (.i2l, 1) := by decide +kernel
theorem dX12_feed_2 : decode cX12_feed 2 = .ok (.lconst 1, 1) := by decide +kernel
theorem dX12_feed_3 : decode cX12_feed 3 = .ok (.ldc2_w 292, 3) := by decide +kernel
theorem dX12_feed_6 : decode cX12_feed 6 = .ok (.invokestatic 68, 3) := by decide +kernel
theorem dX12_feed_9 : decode cX12_feed 9 = .ok (.ifCond .ne 5, 3) := by decide +kernel
theorem dX12_feed_12 : decode cX12_feed 12 = .ok (.iconst (-1), 1) := by decide +kernel
theorem dX12_feed_13 : decode cX12_feed 13 = .ok (.ireturn, 1) := by decide +kernel
theorem dX12_feed_14 : decode cX12_feed 14 = .ok (.aload_n 0, 1) := by decide +kernel
theorem dX12_feed_15 : decode cX12_feed 15 = .ok (.getfield 294, 3) := by decide +kernel
theorem dX12_feed_18 : decode cX12_feed 18 = .ok (.iload_n 3, 1) := by decide +kernel
theorem dX12_feed_19 : decode cX12_feed 19 = .ok (.iadd, 1) := by decide +kernel
theorem dX12_feed_20 : decode cX12_feed 20 = .ok (.sipush 200, 3) := by decide +kernel
theorem dX12_feed_23 : decode cX12_feed 23 = .ok (.if_icmp .le 6, 3) := by decide +kernel
theorem dX12_feed_26 : decode cX12_feed 26 = .ok (.bipush (-2), 2) := by decide +kernel
theorem dX12_feed_28 : decode cX12_feed 28 = .ok (.ireturn, 1) := by decide +kernel
theorem dX12_feed_29 : decode cX12_feed 29 = .ok (.iconst 0, 1) := by decide +kernel
theorem dX12_feed_30 : decode cX12_feed 30 = .ok (.istore 4, 2) := by decide +kernel
theorem dX12_feed_32 : decode cX12_feed 32 = .ok (.iload 4, 2) := by decide +kernel
theorem dX12_feed_34 : decode cX12_feed 34 = .ok (.iload_n 3, 1) := by decide +kernel
theorem dX12_feed_35 : decode cX12_feed 35 = .ok (.if_icmp .ge 40, 3) := by decide +kernel
theorem dX12_feed_38 : decode cX12_feed 38 = .ok (.aload_n 0, 1) := by decide +kernel
theorem dX12_feed_39 : decode cX12_feed 39 = .ok (.getfield 44, 3) := by decide +kernel
theorem dX12_feed_42 : decode cX12_feed 42 = .ok (.aload_n 0, 1) := by decide +kernel
theorem dX12_feed_43 : decode cX12_feed 43 = .ok (.getfield 294, 3) := by decide +kernel
theorem dX12_feed_46 : decode cX12_feed 46 = .ok (.lload_n 1, 1) := by decide +kernel
theorem dX12_feed_47 : decode cX12_feed 47 = .ok (.bipush 8, 2) := by decide +kernel
theorem dX12_feed_49 : decode cX12_feed 49 = .ok (.iload 4, 2) := by decide +kernel
theorem dX12_feed_51 : decode cX12_feed 51 = .ok (.imul, 1) := by decide +kernel
theorem dX12_feed_52 : decode cX12_feed 52 = .ok (.lshr, 1) := by decide +kernel
theorem dX12_feed_53 : decode cX12_feed 53 = .ok (.ldc2_w 297, 3) := by decide +kernel
theorem dX12_feed_56 : decode cX12_feed 56 = .ok (.land, 1) := by decide +kernel
theorem dX12_feed_57 : decode cX12_feed 57 = .ok (.l2i, 1) := by decide +kernel
theorem dX12_feed_58 : decode cX12_feed 58 = .ok (.iastore, 1) := by decide +kernel
theorem dX12_feed_59 : decode cX12_feed 59 = .ok (.aload_n 0, 1) := by decide +kernel
theorem dX12_feed_60 : decode cX12_feed 60 = .ok (.dup, 1) := by decide +kernel
theorem dX12_feed_61 : decode cX12_feed 61 = .ok (.getfield 294, 3) := by decide +kernel
theorem dX12_feed_64 : decode cX12_feed 64 = .ok (.iconst 1, 1) := by decide +kernel
theorem dX12_feed_65 : decode cX12_feed 65 = .ok (.iadd, 1) := by decide +kernel
theorem dX12_feed_66 : decode cX12_feed 66 = .ok (.putfield 294, 3) := by decide +kernel
theorem dX12_feed_69 : decode cX12_feed 69 = .ok (.iinc 4 1, 3) := by decide +kernel
theorem dX12_feed_72 : decode cX12_feed 72 = .ok (.goto (-40), 3) := by decide +kernel
theorem dX12_feed_75 : decode cX12_feed 75 = .ok (.aload_n 0, 1) := by decide +kernel
theorem dX12_feed_76 : decode cX12_feed 76 = .ok (.getfield 294, 3) := by decide +kernel
theorem dX12_feed_79 : decode cX12_feed 79 = .ok (.ireturn, 1) := by decide +kernel
theorem dX12_byteAt_0 : decode cX12_byteAt 0 = .ok (.iload_n 1, 1) := by decide +kernel
theorem dX12_byteAt_1 : decode cX12_byteAt 1 = .ok (.aload_n 0, 1) := by decide +kernel
theorem dX12_byteAt_2 : decode cX12_byteAt 2 = .ok (.getfield 294, 3) := by decide +kernel
theorem dX12_byteAt_5 : decode cX12_byteAt 5 = .ok (.if_icmp .ge 12, 3) := by decide +kernel
theorem dX12_byteAt_8 : decode cX12_byteAt 8 = .ok (.aload_n 0, 1) := by decide +kernel
theorem dX12_byteAt_9 : decode cX12_byteAt 9 = .ok (.getfield 44, 3) := by decide +kernel
theorem dX12_byteAt_12 : decode cX12_byteAt 12 = .ok (.iload_n 1, 1) := by decide +kernel
theorem dX12_byteAt_13 : decode cX12_byteAt 13 = .ok (.iaload, 1) := by decide +kernel
theorem dX12_byteAt_14 : decode cX12_byteAt 14 = .ok (.goto 4, 3) := by decide +kernel
theorem dX12_byteAt_17 : decode cX12_byteAt 17 = .ok (.iconst (-1), 1) := by decide +kernel
theorem dX12_byteAt_18 : decode cX12_byteAt 18 = .ok (.ireturn, 1) := by decide +kernel
theorem dX12_isLetter_0 : decode cX12_isLetter 0 = .ok (.iload_n 0, 1) := by decide +kernel
theorem dX12_isLetter_1 : decode cX12_isLetter 1 = .ok (.i2l, 1) := by decide +kernel
theorem dX12_isLetter_2 : decode cX12_isLetter 2 = .ok (.ldc2_w 299, 3) := by decide +kernel
theorem dX12_isLetter_5 : decode cX12_isLetter 5 = .ok (.ldc2_w 301, 3) := by decide +kernel
theorem dX12_isLetter_8 : decode cX12_isLetter 8 = .ok (.invokestatic 68, 3) := by decide +kernel
theorem dX12_isLetter_11 : decode cX12_isLetter 11 = .ok (.ireturn, 1) := by decide +kernel
theorem dX12_isDigit_0 : decode cX12_isDigit 0 = .ok (.iload_n 0, 1) := by decide +kernel
theorem dX12_isDigit_1 : decode cX12_isDigit 1 = .ok (.i2l, 1) := by decide +kernel
theorem dX12_isDigit_2 : decode cX12_isDigit 2 = .ok (.ldc2_w 303, 3) := by decide +kernel
theorem dX12_isDigit_5 : decode cX12_isDigit 5 = .ok (.ldc2_w 305, 3) := by decide +kernel
theorem dX12_isDigit_8 : decode cX12_isDigit 8 = .ok (.invokestatic 68, 3) := by decide +kernel
theorem dX12_isDigit_11 : decode cX12_isDigit 11 = .ok (.ireturn, 1) := by decide +kernel
theorem dX12_token_0 : decode cX12_token 0 = .ok (.aload_n 0, 1) := by decide +kernel
theorem dX12_token_1 : decode cX12_token 1 = .ok (.aload_n 0, 1) := by decide +kernel
theorem dX12_token_2 : decode cX12_token 2 = .ok (.getfield 307, 3) := by decide +kernel
theorem dX12_token_5 : decode cX12_token 5 = .ok (.putfield 310, 3) := by decide +kernel
theorem dX12_token_8 : decode cX12_token 8 = .ok (.aload_n 0, 1) := by decide +kernel
theorem dX12_token_9 : decode cX12_token 9 = .ok (.aload_n 0, 1) := by decide +kernel
theorem dX12_token_10 : decode cX12_token 10 = .ok (.getfield 310, 3) := by decide +kernel
theorem dX12_token_13 : decode cX12_token 13 = .ok (.invokevirtual 313, 3) := by decide +kernel
theorem dX12_token_16 : decode cX12_token 16 = .ok (.bipush 32, 2) := by decide +kernel
theorem dX12_token_18 : decode cX12_token 18 = .ok (.if_icmp .ne 16, 3) := by decide +kernel
theorem dX12_token_21 : decode cX12_token 21 = .ok (.aload_n 0, 1) := by decide +kernel
theorem dX12_token_22 : decode cX12_token 22 = .ok (.dup, 1) := by decide +kernel
theorem dX12_token_23 : decode cX12_token 23 = .ok (.getfield 310, 3) := by decide +kernel
theorem dX12_token_26 : decode cX12_token 26 = .ok (.iconst 1, 1) := by decide +kernel
theorem dX12_token_27 : decode cX12_token 27 = .ok (.iadd, 1) := by decide +kernel
theorem dX12_token_28 : decode cX12_token 28 = .ok (.putfield 310, 3) := by decide +kernel
theorem dX12_token_31 : decode cX12_token 31 = .ok (.goto (-23), 3) := by decide +kernel
theorem dX12_token_34 : decode cX12_token 34 = .ok (.aload_n 0, 1) := by decide +kernel
theorem dX12_token_35 : decode cX12_token 35 = .ok (.aload_n 0, 1) := by decide +kernel
theorem dX12_token_36 : decode cX12_token 36 = .ok (.getfield 310, 3) := by decide +kernel
theorem dX12_token_39 : decode cX12_token 39 = .ok (.invokevirtual 313, 3) := by decide +kernel
theorem dX12_token_42 : decode cX12_token 42 = .ok (.invokestatic 316, 3) := by decide +kernel
theorem dX12_token_45 : decode cX12_token 45 = .ok (.istore_n 1, 1) := by decide +kernel
theorem dX12_token_46 : decode cX12_token 46 = .ok (.aload_n 0, 1) := by decide +kernel
theorem dX12_token_47 : decode cX12_token 47 = .ok (.aload_n 0, 1) := by decide +kernel
theorem dX12_token_48 : decode cX12_token 48 = .ok (.getfield 310, 3) := by decide +kernel
theorem dX12_token_51 : decode cX12_token 51 = .ok (.invokevirtual 313, 3) := by decide +kernel
theorem dX12_token_54 : decode cX12_token 54 = .ok (.invokestatic 319, 3) := by decide +kernel
theorem dX12_token_57 : decode cX12_token 57 = .ok (.istore_n 2, 1) := by decide +kernel
theorem dX12_token_58 : decode cX12_token 58 = .ok (.aload_n 0, 1) := by decide +kernel
theorem dX12_token_59 : decode cX12_token 59 = .ok (.aload_n 0, 1) := by decide +kernel
theorem dX12_token_60 : decode cX12_token 60 = .ok (.getfield 310, 3) := by decide +kernel
theorem dX12_token_63 : decode cX12_token 63 = .ok (.aload_n 0, 1) := by decide +kernel
theorem dX12_token_64 : decode cX12_token 64 = .ok (.getfield 294, 3) := by decide +kernel
theorem dX12_token_67 : decode cX12_token 67 = .ok (.if_icmp .ge 12, 3) := by decide +kernel
theorem dX12_token_70 : decode cX12_token 70 = .ok (.aload_n 0, 1) := by decide +kernel
theorem dX12_token_71 : decode cX12_token 71 = .ok (.getfield 310, 3) := by decide +kernel
theorem dX12_token_74 : decode cX12_token 74 = .ok (.iconst 1, 1) := by decide +kernel
theorem dX12_token_75 : decode cX12_token 75 = .ok (.iadd, 1) := by decide +kernel
theorem dX12_token_76 : decode cX12_token 76 = .ok (.goto 7, 3) := by decide +kernel
theorem dX12_token_79 : decode cX12_token 79 = .ok (.aload_n 0, 1) := by decide +kernel
theorem dX12_token_80 : decode cX12_token 80 = .ok (.getfield 310, 3) := by decide +kernel
theorem dX12_token_83 : decode cX12_token 83 = .ok (.putfield 307, 3) := by decide +kernel
theorem dX12_token_86 : decode cX12_token 86 = .ok (.iload_n 1, 1) := by decide +kernel
theorem dX12_token_87 : decode cX12_token 87 = .ok (.ifCond .eq 17, 3) := by decide +kernel
theorem dX12_token_90 : decode cX12_token 90 = .ok (.aload_n 0, 1) := by decide +kernel
theorem dX12_token_91 : decode cX12_token 91 = .ok (.aload_n 0, 1) := by decide +kernel
theorem dX12_token_92 : decode cX12_token 92 = .ok (.getfield 307, 3) := by decide +kernel
theorem dX12_token_95 : decode cX12_token 95 = .ok (.invokevirtual 313, 3) := by decide +kernel
theorem dX12_token_98 : decode cX12_token 98 = .ok (.invokestatic 316, 3) := by decide +kernel
theorem dX12_token_101 : decode cX12_token 101 = .ok (.ifCond .ne 21, 3) := by decide +kernel
theorem dX12_token_104 : decode cX12_token 104 = .ok (.iload_n 2, 1) := by decide +kernel
theorem dX12_token_105 : decode cX12_token 105 = .ok (.ifCond .eq 30, 3) := by decide +kernel
theorem dX12_token_108 : decode cX12_token 108 = .ok (.aload_n 0, 1) := by decide +kernel
theorem dX12_token_109 : decode cX12_token 109 = .ok (.aload_n 0, 1) := by decide +kernel
theorem dX12_token_110 : decode cX12_token 110 = .ok (.getfield 307, 3) := by decide +kernel
theorem dX12_token_113 : decode cX12_token 113 = .ok (.invokevirtual 313, 3) := by decide +kernel
theorem dX12_token_116 : decode cX12_token 116 = .ok (.invokestatic 319, 3) := by decide +kernel
theorem dX12_token_119 : decode cX12_token 119 = .ok (.ifCond .eq 16, 3) := by decide +kernel
theorem dX12_token_122 : decode cX12_token 122 = .ok (.aload_n 0, 1) := by decide +kernel
theorem dX12_token_123 : decode cX12_token 123 = .ok (.dup, 1) := by decide +kernel
theorem dX12_token_124 : decode cX12_token 124 = .ok (.getfield 307, 3) := by decide +kernel
theorem dX12_token_127 : decode cX12_token 127 = .ok (.iconst 1, 1) := by decide +kernel
theorem dX12_token_128 : decode cX12_token 128 = .ok (.iadd, 1) := by decide +kernel
theorem dX12_token_129 : decode cX12_token 129 = .ok (.putfield 307, 3) := by decide +kernel
theorem dX12_token_132 : decode cX12_token 132 = .ok (.goto (-46), 3) := by decide +kernel
theorem dX12_token_135 : decode cX12_token 135 = .ok (.return_, 1) := by decide +kernel
theorem dX12_wants_0 : decode cX12_wants 0 = .ok (.aload_n 0, 1) := by decide +kernel
theorem dX12_wants_1 : decode cX12_wants 1 = .ok (.aload_n 0, 1) := by decide +kernel
theorem dX12_wants_2 : decode cX12_wants 2 = .ok (.getfield 322, 3) := by decide +kernel
theorem dX12_wants_5 : decode cX12_wants 5 = .ok (.ifCond .ne 7, 3) := by decide +kernel
theorem dX12_wants_8 : decode cX12_wants 8 = .ok (.iload_n 1, 1) := by decide +kernel
theorem dX12_wants_9 : decode cX12_wants 9 = .ok (.ifCond .ne 7, 3) := by decide +kernel
theorem dX12_wants_12 : decode cX12_wants 12 = .ok (.iconst 1, 1) := by decide +kernel
theorem dX12_wants_13 : decode cX12_wants 13 = .ok (.goto 4, 3) := by decide +kernel
theorem dX12_wants_16 : decode cX12_wants 16 = .ok (.iconst 0, 1) := by decide +kernel
theorem dX12_wants_17 : decode cX12_wants 17 = .ok (.putfield 322, 3) := by decide +kernel
theorem dX12_wants_20 : decode cX12_wants 20 = .ok (.aload_n 0, 1) := by decide +kernel
theorem dX12_wants_21 : decode cX12_wants 21 = .ok (.getfield 322, 3) := by decide +kernel
theorem dX12_wants_24 : decode cX12_wants 24 = .ok (.ifCond .ne 7, 3) := by decide +kernel
theorem dX12_wants_27 : decode cX12_wants 27 = .ok (.aload_n 0, 1) := by decide +kernel
theorem dX12_wants_28 : decode cX12_wants 28 = .ok (.invokevirtual 326, 3) := by decide +kernel
theorem dX12_wants_31 : decode cX12_wants 31 = .ok (.return_, 1) := by decide +kernel
theorem dX12_word_0 : decode cX12_word 0 = .ok (.lconst 0, 1) := by decide +kernel
theorem dX12_word_1 : decode cX12_word 1 = .ok (.lstore_n 1, 1) := by decide +kernel
theorem dX12_word_2 : decode cX12_word 2 = .ok (.aload_n 0, 1) := by decide +kernel
theorem dX12_word_3 : decode cX12_word 3 = .ok (.getfield 310, 3) := by decide +kernel
theorem dX12_word_6 : decode cX12_word 6 = .ok (.istore_n 3, 1) := by decide +kernel
theorem dX12_word_7 : decode cX12_word 7 = .ok (.iload_n 3, 1) := by decide +kernel
theorem dX12_word_8 : decode cX12_word 8 = .ok (.aload_n 0, 1) := by decide +kernel
theorem dX12_word_9 : decode cX12_word 9 = .ok (.getfield 307, 3) := by decide +kernel
theorem dX12_word_12 : decode cX12_word 12 = .ok (.if_icmp .ge 38, 3) := by decide +kernel
theorem dX12_word_15 : decode cX12_word 15 = .ok (.lload_n 1, 1) := by decide +kernel
theorem dX12_word_16 : decode cX12_word 16 = .ok (.ldc2_w 329, 3) := by decide +kernel
theorem dX12_word_19 : decode cX12_word 19 = .ok (.lcmp, 1) := by decide +kernel
theorem dX12_word_20 : decode cX12_word 20 = .ok (.ifCond .le 7, 3) := by decide +kernel
theorem dX12_word_23 : decode cX12_word 23 = .ok (.lload_n 1, 1) := by decide +kernel
theorem dX12_word_24 : decode cX12_word 24 = .ok (.goto 19, 3) := by decide +kernel
theorem dX12_word_27 : decode cX12_word 27 = .ok (.ldc2_w 331, 3) := by decide +kernel
theorem dX12_word_30 : decode cX12_word 30 = .ok (.lload_n 1, 1) := by decide +kernel
theorem dX12_word_31 : decode cX12_word 31 = .ok (.lmul, 1) := by decide +kernel
theorem dX12_word_32 : decode cX12_word 32 = .ok (.aload_n 0, 1) := by decide +kernel
theorem dX12_word_33 : decode cX12_word 33 = .ok (.getfield 44, 3) := by decide +kernel
theorem dX12_word_36 : decode cX12_word 36 = .ok (.iload_n 3, 1) := by decide +kernel
theorem dX12_word_37 : decode cX12_word 37 = .ok (.iaload, 1) := by decide +kernel
theorem dX12_word_38 : decode cX12_word 38 = .ok (.bipush 96, 2) := by decide +kernel
theorem dX12_word_40 : decode cX12_word 40 = .ok (.isub, 1) := by decide +kernel
theorem dX12_word_41 : decode cX12_word 41 = .ok (.i2l, 1) := by decide +kernel
theorem dX12_word_42 : decode cX12_word 42 = .ok (.ladd, 1) := by decide +kernel
theorem dX12_word_43 : decode cX12_word 43 = .ok (.lstore_n 1, 1) := by decide +kernel
theorem dX12_word_44 : decode cX12_word 44 = .ok (.iinc 3 1, 3) := by decide +kernel
theorem dX12_word_47 : decode cX12_word 47 = .ok (.goto (-40), 3) := by decide +kernel
theorem dX12_word_50 : decode cX12_word 50 = .ok (.aload_n 0, 1) := by decide +kernel
theorem dX12_word_51 : decode cX12_word 51 = .ok (.getfield 322, 3) := by decide +kernel
theorem dX12_word_54 : decode cX12_word 54 = .ok (.ifCond .ne 17, 3) := by decide +kernel
theorem dX12_word_57 : decode cX12_word 57 = .ok (.aload_n 0, 1) := by decide +kernel
theorem dX12_word_58 : decode cX12_word 58 = .ok (.aload_n 0, 1) := by decide +kernel
theorem dX12_word_59 : decode cX12_word 59 = .ok (.getfield 310, 3) := by decide +kernel
theorem dX12_word_62 : decode cX12_word 62 = .ok (.invokevirtual 313, 3) := by decide +kernel
theorem dX12_word_65 : decode cX12_word 65 = .ok (.invokestatic 316, 3) := by decide +kernel
theorem dX12_word_68 : decode cX12_word 68 = .ok (.ifCond .ne 7, 3) := by decide +kernel
theorem dX12_word_71 : decode cX12_word 71 = .ok (.lconst 0, 1) := by decide +kernel
theorem dX12_word_72 : decode cX12_word 72 = .ok (.goto 4, 3) := by decide +kernel
theorem dX12_word_75 : decode cX12_word 75 = .ok (.lload_n 1, 1) := by decide +kernel
theorem dX12_word_76 : decode cX12_word 76 = .ok (.lreturn, 1) := by decide +kernel
theorem dX12_number_0 : decode cX12_number 0 = .ok (.aload_n 0, 1) := by decide +kernel
theorem dX12_number_1 : decode cX12_number 1 = .ok (.aload_n 0, 1) := by decide +kernel
theorem dX12_number_2 : decode cX12_number 2 = .ok (.getfield 310, 3) := by decide +kernel
theorem dX12_number_5 : decode cX12_number 5 = .ok (.invokevirtual 313, 3) := by decide +kernel
theorem dX12_number_8 : decode cX12_number 8 = .ok (.invokestatic 319, 3) := by decide +kernel
theorem dX12_number_11 : decode cX12_number 11 = .ok (.ifCond .eq 20, 3) := by decide +kernel
theorem dX12_number_14 : decode cX12_number 14 = .ok (.aload_n 0, 1) := by decide +kernel
theorem dX12_number_15 : decode cX12_number 15 = .ok (.getfield 307, 3) := by decide +kernel
theorem dX12_number_18 : decode cX12_number 18 = .ok (.aload_n 0, 1) := by decide +kernel
theorem dX12_number_19 : decode cX12_number 19 = .ok (.getfield 310, 3) := by decide +kernel
theorem dX12_number_22 : decode cX12_number 22 = .ok (.isub, 1) := by decide +kernel
theorem dX12_number_23 : decode cX12_number 23 = .ok (.iconst 5, 1) := by decide +kernel
theorem dX12_number_24 : decode cX12_number 24 = .ok (.if_icmp .ge 7, 3) := by decide +kernel
theorem dX12_number_27 : decode cX12_number 27 = .ok (.iconst 1, 1) := by decide +kernel
theorem dX12_number_28 : decode cX12_number 28 = .ok (.goto 4, 3) := by decide +kernel
theorem dX12_number_31 : decode cX12_number 31 = .ok (.iconst 0, 1) := by decide +kernel
theorem dX12_number_32 : decode cX12_number 32 = .ok (.istore_n 2, 1) := by decide +kernel
theorem dX12_number_33 : decode cX12_number 33 = .ok (.aload_n 0, 1) := by decide +kernel
theorem dX12_number_34 : decode cX12_number 34 = .ok (.iconst 0, 1) := by decide +kernel
theorem dX12_number_35 : decode cX12_number 35 = .ok (.putfield 333, 3) := by decide +kernel
theorem dX12_number_38 : decode cX12_number 38 = .ok (.aload_n 0, 1) := by decide +kernel
theorem dX12_number_39 : decode cX12_number 39 = .ok (.getfield 310, 3) := by decide +kernel
theorem dX12_number_42 : decode cX12_number 42 = .ok (.istore_n 3, 1) := by decide +kernel
theorem dX12_number_43 : decode cX12_number 43 = .ok (.iload_n 3, 1) := by decide +kernel
theorem dX12_number_44 : decode cX12_number 44 = .ok (.aload_n 0, 1) := by decide +kernel
theorem dX12_number_45 : decode cX12_number 45 = .ok (.getfield 307, 3) := by decide +kernel
theorem dX12_number_48 : decode cX12_number 48 = .ok (.if_icmp .ge 34, 3) := by decide +kernel
theorem dX12_number_51 : decode cX12_number 51 = .ok (.iload_n 2, 1) := by decide +kernel
theorem dX12_number_52 : decode cX12_number 52 = .ok (.ifCond .eq 30, 3) := by decide +kernel
theorem dX12_number_55 : decode cX12_number 55 = .ok (.aload_n 0, 1) := by decide +kernel
theorem dX12_number_56 : decode cX12_number 56 = .ok (.bipush 10, 2) := by decide +kernel
theorem dX12_number_58 : decode cX12_number 58 = .ok (.aload_n 0, 1) := by decide +kernel
theorem dX12_number_59 : decode cX12_number 59 = .ok (.getfield 333, 3) := by decide +kernel
theorem dX12_number_62 : decode cX12_number 62 = .ok (.imul, 1) := by decide +kernel
theorem dX12_number_63 : decode cX12_number 63 = .ok (.aload_n 0, 1) := by decide +kernel
theorem dX12_number_64 : decode cX12_number 64 = .ok (.getfield 44, 3) := by decide +kernel
theorem dX12_number_67 : decode cX12_number 67 = .ok (.iload_n 3, 1) := by decide +kernel
theorem dX12_number_68 : decode cX12_number 68 = .ok (.iaload, 1) := by decide +kernel
theorem dX12_number_69 : decode cX12_number 69 = .ok (.iadd, 1) := by decide +kernel
theorem dX12_number_70 : decode cX12_number 70 = .ok (.bipush 48, 2) := by decide +kernel
theorem dX12_number_72 : decode cX12_number 72 = .ok (.isub, 1) := by decide +kernel
theorem dX12_number_73 : decode cX12_number 73 = .ok (.putfield 333, 3) := by decide +kernel
theorem dX12_number_76 : decode cX12_number 76 = .ok (.iinc 3 1, 3) := by decide +kernel
theorem dX12_number_79 : decode cX12_number 79 = .ok (.goto (-36), 3) := by decide +kernel
theorem dX12_number_82 : decode cX12_number 82 = .ok (.aload_n 0, 1) := by decide +kernel
theorem dX12_number_83 : decode cX12_number 83 = .ok (.iload_n 2, 1) := by decide +kernel
theorem dX12_number_84 : decode cX12_number 84 = .ok (.ifCond .eq 15, 3) := by decide +kernel
theorem dX12_number_87 : decode cX12_number 87 = .ok (.aload_n 0, 1) := by decide +kernel
theorem dX12_number_88 : decode cX12_number 88 = .ok (.getfield 333, 3) := by decide +kernel
theorem dX12_number_91 : decode cX12_number 91 = .ok (.iload_n 1, 1) := by decide +kernel
theorem dX12_number_92 : decode cX12_number 92 = .ok (.if_icmp .gt 7, 3) := by decide +kernel
theorem dX12_number_95 : decode cX12_number 95 = .ok (.iconst 1, 1) := by decide +kernel
theorem dX12_number_96 : decode cX12_number 96 = .ok (.goto 4, 3) := by decide +kernel
theorem dX12_number_99 : decode cX12_number 99 = .ok (.iconst 0, 1) := by decide +kernel
theorem dX12_number_100 : decode cX12_number 100 = .ok (.invokevirtual 336, 3) := by decide +kernel
theorem dX12_number_103 : decode cX12_number 103 = .ok (.return_, 1) := by decide +kernel
theorem dX12_kindHere_0 : decode cX12_kindHere 0 = .ok (.aload_n 0, 1) := by decide +kernel
theorem dX12_kindHere_1 : decode cX12_kindHere 1 = .ok (.invokevirtual 340, 3) := by decide +kernel
theorem dX12_kindHere_4 : decode cX12_kindHere 4 = .ok (.lstore_n 1, 1) := by decide +kernel
theorem dX12_kindHere_5 : decode cX12_kindHere 5 = .ok (.lload_n 1, 1) := by decide +kernel
theorem dX12_kindHere_6 : decode cX12_kindHere 6 = .ok (.ldc2_w 344, 3) := by decide +kernel
theorem dX12_kindHere_9 : decode cX12_kindHere 9 = .ok (.lcmp, 1) := by decide +kernel
theorem dX12_kindHere_10 : decode cX12_kindHere 10 = .ok (.ifCond .ne 7, 3) := by decide +kernel
theorem dX12_kindHere_13 : decode cX12_kindHere 13 = .ok (.iconst 0, 1) := by decide +kernel
theorem dX12_kindHere_14 : decode cX12_kindHere 14 = .ok (.goto 64, 3) := by decide +kernel
theorem dX12_kindHere_17 : decode cX12_kindHere 17 = .ok (.lload_n 1, 1) := by decide +kernel
theorem dX12_kindHere_18 : decode cX12_kindHere 18 = .ok (.ldc2_w 346, 3) := by decide +kernel
theorem dX12_kindHere_21 : decode cX12_kindHere 21 = .ok (.lcmp, 1) := by decide +kernel
theorem dX12_kindHere_22 : decode cX12_kindHere 22 = .ok (.ifCond .ne 7, 3) := by decide +kernel
theorem dX12_kindHere_25 : decode cX12_kindHere 25 = .ok (.iconst 1, 1) := by decide +kernel
theorem dX12_kindHere_26 : decode cX12_kindHere 26 = .ok (.goto 52, 3) := by decide +kernel
theorem dX12_kindHere_29 : decode cX12_kindHere 29 = .ok (.lload_n 1, 1) := by decide +kernel
theorem dX12_kindHere_30 : decode cX12_kindHere 30 = .ok (.ldc2_w 348, 3) := by decide +kernel
theorem dX12_kindHere_33 : decode cX12_kindHere 33 = .ok (.lcmp, 1) := by decide +kernel
theorem dX12_kindHere_34 : decode cX12_kindHere 34 = .ok (.ifCond .ne 7, 3) := by decide +kernel
theorem dX12_kindHere_37 : decode cX12_kindHere 37 = .ok (.iconst 2, 1) := by decide +kernel
theorem dX12_kindHere_38 : decode cX12_kindHere 38 = .ok (.goto 40, 3) := by decide +kernel
theorem dX12_kindHere_41 : decode cX12_kindHere 41 = .ok (.lload_n 1, 1) := by decide +kernel
theorem dX12_kindHere_42 : decode cX12_kindHere 42 = .ok (.ldc2_w 350, 3) := by decide +kernel
theorem dX12_kindHere_45 : decode cX12_kindHere 45 = .ok (.lcmp, 1) := by decide +kernel
theorem dX12_kindHere_46 : decode cX12_kindHere 46 = .ok (.ifCond .ne 7, 3) := by decide +kernel
theorem dX12_kindHere_49 : decode cX12_kindHere 49 = .ok (.iconst 3, 1) := by decide +kernel
theorem dX12_kindHere_50 : decode cX12_kindHere 50 = .ok (.goto 28, 3) := by decide +kernel
theorem dX12_kindHere_53 : decode cX12_kindHere 53 = .ok (.lload_n 1, 1) := by decide +kernel
theorem dX12_kindHere_54 : decode cX12_kindHere 54 = .ok (.ldc2_w 352, 3) := by decide +kernel
theorem dX12_kindHere_57 : decode cX12_kindHere 57 = .ok (.lcmp, 1) := by decide +kernel
theorem dX12_kindHere_58 : decode cX12_kindHere 58 = .ok (.ifCond .ne 7, 3) := by decide +kernel
theorem dX12_kindHere_61 : decode cX12_kindHere 61 = .ok (.iconst 4, 1) := by decide +kernel
theorem dX12_kindHere_62 : decode cX12_kindHere 62 = .ok (.goto 16, 3) := by decide +kernel
theorem dX12_kindHere_65 : decode cX12_kindHere 65 = .ok (.lload_n 1, 1) := by decide +kernel
theorem dX12_kindHere_66 : decode cX12_kindHere 66 = .ok (.ldc2_w 354, 3) := by decide +kernel
theorem dX12_kindHere_69 : decode cX12_kindHere 69 = .ok (.lcmp, 1) := by decide +kernel
theorem dX12_kindHere_70 : decode cX12_kindHere 70 = .ok (.ifCond .ne 7, 3) := by decide +kernel
theorem dX12_kindHere_73 : decode cX12_kindHere 73 = .ok (.iconst 5, 1) := by decide +kernel
theorem dX12_kindHere_74 : decode cX12_kindHere 74 = .ok (.goto 4, 3) := by decide +kernel
theorem dX12_kindHere_77 : decode cX12_kindHere 77 = .ok (.iconst (-1), 1) := by decide +kernel
theorem dX12_kindHere_78 : decode cX12_kindHere 78 = .ok (.ireturn, 1) := by decide +kernel
theorem dX12_factHere_0 : decode cX12_factHere 0 = .ok (.aload_n 0, 1) := by decide +kernel
theorem dX12_factHere_1 : decode cX12_factHere 1 = .ok (.invokevirtual 340, 3) := by decide +kernel
theorem dX12_factHere_4 : decode cX12_factHere 4 = .ok (.lstore_n 1, 1) := by decide +kernel
theorem dX12_factHere_5 : decode cX12_factHere 5 = .ok (.lload_n 1, 1) := by decide +kernel
theorem dX12_factHere_6 : decode cX12_factHere 6 = .ok (.ldc2_w 356, 3) := by decide +kernel
theorem dX12_factHere_9 : decode cX12_factHere 9 = .ok (.lcmp, 1) := by decide +kernel
theorem dX12_factHere_10 : decode cX12_factHere 10 = .ok (.ifCond .ne 7, 3) := by decide +kernel
theorem dX12_factHere_13 : decode cX12_factHere 13 = .ok (.iconst (-1), 1) := by decide +kernel
theorem dX12_factHere_14 : decode cX12_factHere 14 = .ok (.goto 56, 3) := by decide +kernel
theorem dX12_factHere_17 : decode cX12_factHere 17 = .ok (.lload_n 1, 1) := by decide +kernel
theorem dX12_factHere_18 : decode cX12_factHere 18 = .ok (.ldc2_w 358, 3) := by decide +kernel
theorem dX12_factHere_21 : decode cX12_factHere 21 = .ok (.lcmp, 1) := by decide +kernel
theorem dX12_factHere_22 : decode cX12_factHere 22 = .ok (.ifCond .ne 8, 3) := by decide +kernel
theorem dX12_factHere_25 : decode cX12_factHere 25 = .ok (.bipush (-2), 2) := by decide +kernel
theorem dX12_factHere_27 : decode cX12_factHere 27 = .ok (.goto 43, 3) := by decide +kernel
theorem dX12_factHere_30 : decode cX12_factHere 30 = .ok (.lload_n 1, 1) := by decide +kernel
theorem dX12_factHere_31 : decode cX12_factHere 31 = .ok (.ldc2_w 360, 3) := by decide +kernel
theorem dX12_factHere_34 : decode cX12_factHere 34 = .ok (.lcmp, 1) := by decide +kernel
theorem dX12_factHere_35 : decode cX12_factHere 35 = .ok (.ifCond .ne 8, 3) := by decide +kernel
theorem dX12_factHere_38 : decode cX12_factHere 38 = .ok (.bipush (-3), 2) := by decide +kernel
theorem dX12_factHere_40 : decode cX12_factHere 40 = .ok (.goto 30, 3) := by decide +kernel
theorem dX12_factHere_43 : decode cX12_factHere 43 = .ok (.lload_n 1, 1) := by decide +kernel
theorem dX12_factHere_44 : decode cX12_factHere 44 = .ok (.ldc2_w 362, 3) := by decide +kernel
theorem dX12_factHere_47 : decode cX12_factHere 47 = .ok (.lcmp, 1) := by decide +kernel
theorem dX12_factHere_48 : decode cX12_factHere 48 = .ok (.ifCond .ne 8, 3) := by decide +kernel
theorem dX12_factHere_51 : decode cX12_factHere 51 = .ok (.bipush (-4), 2) := by decide +kernel
theorem dX12_factHere_53 : decode cX12_factHere 53 = .ok (.goto 17, 3) := by decide +kernel
theorem dX12_factHere_56 : decode cX12_factHere 56 = .ok (.lload_n 1, 1) := by decide +kernel
theorem dX12_factHere_57 : decode cX12_factHere 57 = .ok (.ldc2_w 364, 3) := by decide +kernel
theorem dX12_factHere_60 : decode cX12_factHere 60 = .ok (.lcmp, 1) := by decide +kernel
theorem dX12_factHere_61 : decode cX12_factHere 61 = .ok (.ifCond .ne 8, 3) := by decide +kernel
theorem dX12_factHere_64 : decode cX12_factHere 64 = .ok (.bipush (-5), 2) := by decide +kernel
theorem dX12_factHere_66 : decode cX12_factHere 66 = .ok (.goto 4, 3) := by decide +kernel
theorem dX12_factHere_69 : decode cX12_factHere 69 = .ok (.iconst 0, 1) := by decide +kernel
theorem dX12_factHere_70 : decode cX12_factHere 70 = .ok (.ireturn, 1) := by decide +kernel
theorem dX12_writes_0 : decode cX12_writes 0 = .ok (.aload_n 0, 1) := by decide +kernel
theorem dX12_writes_1 : decode cX12_writes 1 = .ok (.getfield 322, 3) := by decide +kernel
theorem dX12_writes_4 : decode cX12_writes 4 = .ok (.ifCond .ne 27, 3) := by decide +kernel
theorem dX12_writes_7 : decode cX12_writes 7 = .ok (.aload_n 0, 1) := by decide +kernel
theorem dX12_writes_8 : decode cX12_writes 8 = .ok (.getfield 7, 3) := by decide +kernel
theorem dX12_writes_11 : decode cX12_writes 11 = .ok (.sipush 138, 3) := by decide +kernel
theorem dX12_writes_14 : decode cX12_writes 14 = .ok (.aload_n 0, 1) := by decide +kernel
theorem dX12_writes_15 : decode cX12_writes 15 = .ok (.getfield 366, 3) := by decide +kernel
theorem dX12_writes_18 : decode cX12_writes 18 = .ok (.iadd, 1) := by decide +kernel
theorem dX12_writes_19 : decode cX12_writes 19 = .ok (.iload_n 1, 1) := by decide +kernel
theorem dX12_writes_20 : decode cX12_writes 20 = .ok (.iastore, 1) := by decide +kernel
theorem dX12_writes_21 : decode cX12_writes 21 = .ok (.aload_n 0, 1) := by decide +kernel
theorem dX12_writes_22 : decode cX12_writes 22 = .ok (.dup, 1) := by decide +kernel
theorem dX12_writes_23 : decode cX12_writes 23 = .ok (.getfield 366, 3) := by decide +kernel
theorem dX12_writes_26 : decode cX12_writes 26 = .ok (.iconst 1, 1) := by decide +kernel
theorem dX12_writes_27 : decode cX12_writes 27 = .ok (.iadd, 1) := by decide +kernel
theorem dX12_writes_28 : decode cX12_writes 28 = .ok (.putfield 366, 3) := by decide +kernel
theorem dX12_writes_31 : decode cX12_writes 31 = .ok (.return_, 1) := by decide +kernel
theorem dX12_valueHere_0 : decode cX12_valueHere 0 = .ok (.aload_n 0, 1) := by decide +kernel
theorem dX12_valueHere_1 : decode cX12_valueHere 1 = .ok (.invokevirtual 369, 3) := by decide +kernel
theorem dX12_valueHere_4 : decode cX12_valueHere 4 = .ok (.istore_n 1, 1) := by decide +kernel
theorem dX12_valueHere_5 : decode cX12_valueHere 5 = .ok (.iload_n 1, 1) := by decide +kernel
theorem dX12_valueHere_6 : decode cX12_valueHere 6 = .ok (.ifCond .ge 16, 3) := by decide +kernel
theorem dX12_valueHere_9 : decode cX12_valueHere 9 = .ok (.aload_n 0, 1) := by decide +kernel
theorem dX12_valueHere_10 : decode cX12_valueHere 10 = .ok (.iconst 1, 1) := by decide +kernel
theorem dX12_valueHere_11 : decode cX12_valueHere 11 = .ok (.invokevirtual 336, 3) := by decide +kernel
theorem dX12_valueHere_14 : decode cX12_valueHere 14 = .ok (.aload_n 0, 1) := by decide +kernel
theorem dX12_valueHere_15 : decode cX12_valueHere 15 = .ok (.iload_n 1, 1) := by decide +kernel
theorem dX12_valueHere_16 : decode cX12_valueHere 16 = .ok (.invokevirtual 372, 3) := by decide +kernel
theorem dX12_valueHere_19 : decode cX12_valueHere 19 = .ok (.goto 25, 3) := by decide +kernel
theorem dX12_valueHere_22 : decode cX12_valueHere 22 = .ok (.aload_n 0, 1) := by decide +kernel
theorem dX12_valueHere_23 : decode cX12_valueHere 23 = .ok (.getfield 322, 3) := by decide +kernel
theorem dX12_valueHere_26 : decode cX12_valueHere 26 = .ok (.ifCond .ne 18, 3) := by decide +kernel
theorem dX12_valueHere_29 : decode cX12_valueHere 29 = .ok (.aload_n 0, 1) := by decide +kernel
theorem dX12_valueHere_30 : decode cX12_valueHere 30 = .ok (.sipush 9999, 3) := by decide +kernel
theorem dX12_valueHere_33 : decode cX12_valueHere 33 = .ok (.invokevirtual 375, 3) := by decide +kernel
theorem dX12_valueHere_36 : decode cX12_valueHere 36 = .ok (.aload_n 0, 1) := by decide +kernel
theorem dX12_valueHere_37 : decode cX12_valueHere 37 = .ok (.aload_n 0, 1) := by decide +kernel
theorem dX12_valueHere_38 : decode cX12_valueHere 38 = .ok (.getfield 333, 3) := by decide +kernel
theorem dX12_valueHere_41 : decode cX12_valueHere 41 = .ok (.invokevirtual 372, 3) := by decide +kernel
theorem dX12_valueHere_44 : decode cX12_valueHere 44 = .ok (.return_, 1) := by decide +kernel
theorem dX12_comparison_0 : decode cX12_comparison 0 = .ok (.aload_n 0, 1) := by decide +kernel
theorem dX12_comparison_1 : decode cX12_comparison 1 = .ok (.invokevirtual 378, 3) := by decide +kernel
theorem dX12_comparison_4 : decode cX12_comparison 4 = .ok (.aload_n 0, 1) := by decide +kernel
theorem dX12_comparison_5 : decode cX12_comparison 5 = .ok (.getfield 322, 3) := by decide +kernel
theorem dX12_comparison_8 : decode cX12_comparison 8 = .ok (.ifCond .eq 7, 3) := by decide +kernel
theorem dX12_comparison_11 : decode cX12_comparison 11 = .ok (.iconst (-1), 1) := by decide +kernel
theorem dX12_comparison_12 : decode cX12_comparison 12 = .ok (.goto 11, 3) := by decide +kernel
theorem dX12_comparison_15 : decode cX12_comparison 15 = .ok (.aload_n 0, 1) := by decide +kernel
theorem dX12_comparison_16 : decode cX12_comparison 16 = .ok (.aload_n 0, 1) := by decide +kernel
theorem dX12_comparison_17 : decode cX12_comparison 17 = .ok (.getfield 310, 3) := by decide +kernel
theorem dX12_comparison_20 : decode cX12_comparison 20 = .ok (.invokevirtual 313, 3) := by decide +kernel
theorem dX12_comparison_23 : decode cX12_comparison 23 = .ok (.istore_n 1, 1) := by decide +kernel
theorem dX12_comparison_24 : decode cX12_comparison 24 = .ok (.aload_n 0, 1) := by decide +kernel
theorem dX12_comparison_25 : decode cX12_comparison 25 = .ok (.iload_n 1, 1) := by decide +kernel
theorem dX12_comparison_26 : decode cX12_comparison 26 = .ok (.bipush 60, 2) := by decide +kernel
theorem dX12_comparison_28 : decode cX12_comparison 28 = .ok (.if_icmp .eq 15, 3) := by decide +kernel
theorem dX12_comparison_31 : decode cX12_comparison 31 = .ok (.iload_n 1, 1) := by decide +kernel
theorem dX12_comparison_32 : decode cX12_comparison 32 = .ok (.bipush 61, 2) := by decide +kernel
theorem dX12_comparison_34 : decode cX12_comparison 34 = .ok (.if_icmp .eq 9, 3) := by decide +kernel
theorem dX12_comparison_37 : decode cX12_comparison 37 = .ok (.iload_n 1, 1) := by decide +kernel
theorem dX12_comparison_38 : decode cX12_comparison 38 = .ok (.bipush 62, 2) := by decide +kernel
theorem dX12_comparison_40 : decode cX12_comparison 40 = .ok (.if_icmp .ne 7, 3) := by decide +kernel
theorem dX12_comparison_43 : decode cX12_comparison 43 = .ok (.iconst 1, 1) := by decide +kernel
theorem dX12_comparison_44 : decode cX12_comparison 44 = .ok (.goto 4, 3) := by decide +kernel
theorem dX12_comparison_47 : decode cX12_comparison 47 = .ok (.iconst 0, 1) := by decide +kernel
theorem dX12_comparison_48 : decode cX12_comparison 48 = .ok (.invokevirtual 336, 3) := by decide +kernel
theorem dX12_comparison_51 : decode cX12_comparison 51 = .ok (.aload_n 0, 1) := by decide +kernel
theorem dX12_comparison_52 : decode cX12_comparison 52 = .ok (.invokevirtual 378, 3) := by decide +kernel
theorem dX12_comparison_55 : decode cX12_comparison 55 = .ok (.aload_n 0, 1) := by decide +kernel
theorem dX12_comparison_56 : decode cX12_comparison 56 = .ok (.iload_n 1, 1) := by decide +kernel
theorem dX12_comparison_57 : decode cX12_comparison 57 = .ok (.bipush 60, 2) := by decide +kernel
theorem dX12_comparison_59 : decode cX12_comparison 59 = .ok (.if_icmp .ne 8, 3) := by decide +kernel
theorem dX12_comparison_62 : decode cX12_comparison 62 = .ok (.bipush (-11), 2) := by decide +kernel
theorem dX12_comparison_64 : decode cX12_comparison 64 = .ok (.goto 16, 3) := by decide +kernel
theorem dX12_comparison_67 : decode cX12_comparison 67 = .ok (.iload_n 1, 1) := by decide +kernel
theorem dX12_comparison_68 : decode cX12_comparison 68 = .ok (.bipush 61, 2) := by decide +kernel
theorem dX12_comparison_70 : decode cX12_comparison 70 = .ok (.if_icmp .ne 8, 3) := by decide +kernel
theorem dX12_comparison_73 : decode cX12_comparison 73 = .ok (.bipush (-12), 2) := by decide +kernel
theorem dX12_comparison_75 : decode cX12_comparison 75 = .ok (.goto 5, 3) := by decide +kernel
theorem dX12_comparison_78 : decode cX12_comparison 78 = .ok (.bipush (-13), 2) := by decide +kernel
theorem dX12_comparison_80 : decode cX12_comparison 80 = .ok (.invokevirtual 372, 3) := by decide +kernel
theorem dX12_comparison_83 : decode cX12_comparison 83 = .ok (.return_, 1) := by decide +kernel
theorem dX12_one_0 : decode cX12_one 0 = .ok (.iconst 0, 1) := by decide +kernel
theorem dX12_one_1 : decode cX12_one 1 = .ok (.istore_n 1, 1) := by decide +kernel
theorem dX12_one_2 : decode cX12_one 2 = .ok (.aload_n 0, 1) := by decide +kernel
theorem dX12_one_3 : decode cX12_one 3 = .ok (.invokevirtual 340, 3) := by decide +kernel
theorem dX12_one_6 : decode cX12_one 6 = .ok (.ldc2_w 381, 3) := by decide +kernel
theorem dX12_one_9 : decode cX12_one 9 = .ok (.lcmp, 1) := by decide +kernel
theorem dX12_one_10 : decode cX12_one 10 = .ok (.ifCond .ne 21, 3) := by decide +kernel
theorem dX12_one_13 : decode cX12_one 13 = .ok (.iload_n 1, 1) := by decide +kernel
theorem dX12_one_14 : decode cX12_one 14 = .ok (.ifCond .ne 7, 3) := by decide +kernel
theorem dX12_one_17 : decode cX12_one 17 = .ok (.iconst 1, 1) := by decide +kernel
theorem dX12_one_18 : decode cX12_one 18 = .ok (.goto 4, 3) := by decide +kernel
theorem dX12_one_21 : decode cX12_one 21 = .ok (.iconst 0, 1) := by decide +kernel
theorem dX12_one_22 : decode cX12_one 22 = .ok (.istore_n 1, 1) := by decide +kernel
theorem dX12_one_23 : decode cX12_one 23 = .ok (.aload_n 0, 1) := by decide +kernel
theorem dX12_one_24 : decode cX12_one 24 = .ok (.iconst 1, 1) := by decide +kernel
theorem dX12_one_25 : decode cX12_one 25 = .ok (.invokevirtual 336, 3) := by decide +kernel
theorem dX12_one_28 : decode cX12_one 28 = .ok (.goto (-26), 3) := by decide +kernel
theorem dX12_one_31 : decode cX12_one 31 = .ok (.aload_n 0, 1) := by decide +kernel
theorem dX12_one_32 : decode cX12_one 32 = .ok (.getfield 322, 3) := by decide +kernel
theorem dX12_one_35 : decode cX12_one 35 = .ok (.ifCond .ne 89, 3) := by decide +kernel
theorem dX12_one_38 : decode cX12_one 38 = .ok (.aload_n 0, 1) := by decide +kernel
theorem dX12_one_39 : decode cX12_one 39 = .ok (.aload_n 0, 1) := by decide +kernel
theorem dX12_one_40 : decode cX12_one 40 = .ok (.getfield 310, 3) := by decide +kernel
theorem dX12_one_43 : decode cX12_one 43 = .ok (.invokevirtual 313, 3) := by decide +kernel
theorem dX12_one_46 : decode cX12_one 46 = .ok (.bipush 40, 2) := by decide +kernel
theorem dX12_one_48 : decode cX12_one 48 = .ok (.if_icmp .ne 76, 3) := by decide +kernel
theorem dX12_one_51 : decode cX12_one 51 = .ok (.aload_n 0, 1) := by decide +kernel
theorem dX12_one_52 : decode cX12_one 52 = .ok (.aload_n 0, 1) := by decide +kernel
theorem dX12_one_53 : decode cX12_one 53 = .ok (.getfield 383, 3) := by decide +kernel
theorem dX12_one_56 : decode cX12_one 56 = .ok (.iconst 3, 1) := by decide +kernel
theorem dX12_one_57 : decode cX12_one 57 = .ok (.if_icmp .ge 7, 3) := by decide +kernel
theorem dX12_one_60 : decode cX12_one 60 = .ok (.iconst 1, 1) := by decide +kernel
theorem dX12_one_61 : decode cX12_one 61 = .ok (.goto 4, 3) := by decide +kernel
theorem dX12_one_64 : decode cX12_one 64 = .ok (.iconst 0, 1) := by decide +kernel
theorem dX12_one_65 : decode cX12_one 65 = .ok (.invokevirtual 336, 3) := by decide +kernel
theorem dX12_one_68 : decode cX12_one 68 = .ok (.aload_n 0, 1) := by decide +kernel
theorem dX12_one_69 : decode cX12_one 69 = .ok (.dup, 1) := by decide +kernel
theorem dX12_one_70 : decode cX12_one 70 = .ok (.getfield 383, 3) := by decide +kernel
theorem dX12_one_73 : decode cX12_one 73 = .ok (.iconst 1, 1) := by decide +kernel
theorem dX12_one_74 : decode cX12_one 74 = .ok (.iadd, 1) := by decide +kernel
theorem dX12_one_75 : decode cX12_one 75 = .ok (.putfield 383, 3) := by decide +kernel
theorem dX12_one_78 : decode cX12_one 78 = .ok (.aload_n 0, 1) := by decide +kernel
theorem dX12_one_79 : decode cX12_one 79 = .ok (.invokevirtual 386, 3) := by decide +kernel
theorem dX12_one_82 : decode cX12_one 82 = .ok (.aload_n 0, 1) := by decide +kernel
theorem dX12_one_83 : decode cX12_one 83 = .ok (.dup, 1) := by decide +kernel
theorem dX12_one_84 : decode cX12_one 84 = .ok (.getfield 383, 3) := by decide +kernel
theorem dX12_one_87 : decode cX12_one 87 = .ok (.iconst 1, 1) := by decide +kernel
theorem dX12_one_88 : decode cX12_one 88 = .ok (.isub, 1) := by decide +kernel
theorem dX12_one_89 : decode cX12_one 89 = .ok (.putfield 383, 3) := by decide +kernel
theorem dX12_one_92 : decode cX12_one 92 = .ok (.aload_n 0, 1) := by decide +kernel
theorem dX12_one_93 : decode cX12_one 93 = .ok (.aload_n 0, 1) := by decide +kernel
theorem dX12_one_94 : decode cX12_one 94 = .ok (.getfield 322, 3) := by decide +kernel
theorem dX12_one_97 : decode cX12_one 97 = .ok (.ifCond .ne 20, 3) := by decide +kernel
theorem dX12_one_100 : decode cX12_one 100 = .ok (.aload_n 0, 1) := by decide +kernel
theorem dX12_one_101 : decode cX12_one 101 = .ok (.aload_n 0, 1) := by decide +kernel
theorem dX12_one_102 : decode cX12_one 102 = .ok (.getfield 310, 3) := by decide +kernel
theorem dX12_one_105 : decode cX12_one 105 = .ok (.invokevirtual 313, 3) := by decide +kernel
theorem dX12_one_108 : decode cX12_one 108 = .ok (.bipush 41, 2) := by decide +kernel
theorem dX12_one_110 : decode cX12_one 110 = .ok (.if_icmp .ne 7, 3) := by decide +kernel
theorem dX12_one_113 : decode cX12_one 113 = .ok (.iconst 1, 1) := by decide +kernel
theorem dX12_one_114 : decode cX12_one 114 = .ok (.goto 4, 3) := by decide +kernel
theorem dX12_one_117 : decode cX12_one 117 = .ok (.iconst 0, 1) := by decide +kernel
theorem dX12_one_118 : decode cX12_one 118 = .ok (.invokevirtual 336, 3) := by decide +kernel
theorem dX12_one_121 : decode cX12_one 121 = .ok (.goto 7, 3) := by decide +kernel
theorem dX12_one_124 : decode cX12_one 124 = .ok (.aload_n 0, 1) := by decide +kernel
theorem dX12_one_125 : decode cX12_one 125 = .ok (.invokevirtual 389, 3) := by decide +kernel
theorem dX12_one_128 : decode cX12_one 128 = .ok (.iload_n 1, 1) := by decide +kernel
theorem dX12_one_129 : decode cX12_one 129 = .ok (.ifCond .eq 9, 3) := by decide +kernel
theorem dX12_one_132 : decode cX12_one 132 = .ok (.aload_n 0, 1) := by decide +kernel
theorem dX12_one_133 : decode cX12_one 133 = .ok (.bipush (-20), 2) := by decide +kernel
theorem dX12_one_135 : decode cX12_one 135 = .ok (.invokevirtual 372, 3) := by decide +kernel
theorem dX12_one_138 : decode cX12_one 138 = .ok (.return_, 1) := by decide +kernel
theorem dX12_all_0 : decode cX12_all 0 = .ok (.aload_n 0, 1) := by decide +kernel
theorem dX12_all_1 : decode cX12_all 1 = .ok (.invokevirtual 392, 3) := by decide +kernel
theorem dX12_all_4 : decode cX12_all 4 = .ok (.aload_n 0, 1) := by decide +kernel
theorem dX12_all_5 : decode cX12_all 5 = .ok (.invokevirtual 340, 3) := by decide +kernel
theorem dX12_all_8 : decode cX12_all 8 = .ok (.ldc2_w 395, 3) := by decide +kernel
theorem dX12_all_11 : decode cX12_all 11 = .ok (.lcmp, 1) := by decide +kernel
theorem dX12_all_12 : decode cX12_all 12 = .ok (.ifCond .ne 21, 3) := by decide +kernel
theorem dX12_all_15 : decode cX12_all 15 = .ok (.aload_n 0, 1) := by decide +kernel
theorem dX12_all_16 : decode cX12_all 16 = .ok (.iconst 1, 1) := by decide +kernel
theorem dX12_all_17 : decode cX12_all 17 = .ok (.invokevirtual 336, 3) := by decide +kernel
theorem dX12_all_20 : decode cX12_all 20 = .ok (.aload_n 0, 1) := by decide +kernel
theorem dX12_all_21 : decode cX12_all 21 = .ok (.invokevirtual 392, 3) := by decide +kernel
theorem dX12_all_24 : decode cX12_all 24 = .ok (.aload_n 0, 1) := by decide +kernel
theorem dX12_all_25 : decode cX12_all 25 = .ok (.bipush (-21), 2) := by decide +kernel
theorem dX12_all_27 : decode cX12_all 27 = .ok (.invokevirtual 372, 3) := by decide +kernel
theorem dX12_all_30 : decode cX12_all 30 = .ok (.goto (-26), 3) := by decide +kernel
theorem dX12_all_33 : decode cX12_all 33 = .ok (.return_, 1) := by decide +kernel
theorem dX12_condition_0 : decode cX12_condition 0 = .ok (.aload_n 0, 1) := by decide +kernel
theorem dX12_condition_1 : decode cX12_condition 1 = .ok (.getfield 322, 3) := by decide +kernel
theorem dX12_condition_4 : decode cX12_condition 4 = .ok (.ifCond .eq 4, 3) := by decide +kernel
theorem dX12_condition_7 : decode cX12_condition 7 = .ok (.return_, 1) := by decide +kernel
theorem dX12_condition_8 : decode cX12_condition 8 = .ok (.aload_n 0, 1) := by decide +kernel
theorem dX12_condition_9 : decode cX12_condition 9 = .ok (.invokevirtual 397, 3) := by decide +kernel
theorem dX12_condition_12 : decode cX12_condition 12 = .ok (.aload_n 0, 1) := by decide +kernel
theorem dX12_condition_13 : decode cX12_condition 13 = .ok (.invokevirtual 340, 3) := by decide +kernel
theorem dX12_condition_16 : decode cX12_condition 16 = .ok (.ldc2_w 400, 3) := by decide +kernel
theorem dX12_condition_19 : decode cX12_condition 19 = .ok (.lcmp, 1) := by decide +kernel
theorem dX12_condition_20 : decode cX12_condition 20 = .ok (.ifCond .ne 21, 3) := by decide +kernel
theorem dX12_condition_23 : decode cX12_condition 23 = .ok (.aload_n 0, 1) := by decide +kernel
theorem dX12_condition_24 : decode cX12_condition 24 = .ok (.iconst 1, 1) := by decide +kernel
theorem dX12_condition_25 : decode cX12_condition 25 = .ok (.invokevirtual 336, 3) := by decide +kernel
theorem dX12_condition_28 : decode cX12_condition 28 = .ok (.aload_n 0, 1) := by decide +kernel
theorem dX12_condition_29 : decode cX12_condition 29 = .ok (.invokevirtual 397, 3) := by decide +kernel
theorem dX12_condition_32 : decode cX12_condition 32 = .ok (.aload_n 0, 1) := by decide +kernel
theorem dX12_condition_33 : decode cX12_condition 33 = .ok (.bipush (-22), 2) := by decide +kernel
theorem dX12_condition_35 : decode cX12_condition 35 = .ok (.invokevirtual 372, 3) := by decide +kernel
theorem dX12_condition_38 : decode cX12_condition 38 = .ok (.goto (-26), 3) := by decide +kernel
theorem dX12_condition_41 : decode cX12_condition 41 = .ok (.return_, 1) := by decide +kernel
theorem dX12_rule_0 : decode cX12_rule 0 = .ok (.aload_n 0, 1) := by decide +kernel
theorem dX12_rule_1 : decode cX12_rule 1 = .ok (.invokevirtual 402, 3) := by decide +kernel
theorem dX12_rule_4 : decode cX12_rule 4 = .ok (.istore_n 1, 1) := by decide +kernel
theorem dX12_rule_5 : decode cX12_rule 5 = .ok (.aload_n 0, 1) := by decide +kernel
theorem dX12_rule_6 : decode cX12_rule 6 = .ok (.iload_n 1, 1) := by decide +kernel
theorem dX12_rule_7 : decode cX12_rule 7 = .ok (.ifCond .lt 18, 3) := by decide +kernel
theorem dX12_rule_10 : decode cX12_rule 10 = .ok (.aload_n 0, 1) := by decide +kernel
theorem dX12_rule_11 : decode cX12_rule 11 = .ok (.getfield 7, 3) := by decide +kernel
theorem dX12_rule_14 : decode cX12_rule 14 = .ok (.iconst 1, 1) := by decide +kernel
theorem dX12_rule_15 : decode cX12_rule 15 = .ok (.iaload, 1) := by decide +kernel
theorem dX12_rule_16 : decode cX12_rule 16 = .ok (.bipush 8, 2) := by decide +kernel
theorem dX12_rule_18 : decode cX12_rule 18 = .ok (.if_icmp .ge 7, 3) := by decide +kernel
theorem dX12_rule_21 : decode cX12_rule 21 = .ok (.iconst 1, 1) := by decide +kernel
theorem dX12_rule_22 : decode cX12_rule 22 = .ok (.goto 4, 3) := by decide +kernel
theorem dX12_rule_25 : decode cX12_rule 25 = .ok (.iconst 0, 1) := by decide +kernel
theorem dX12_rule_26 : decode cX12_rule 26 = .ok (.invokevirtual 336, 3) := by decide +kernel
theorem dX12_rule_29 : decode cX12_rule 29 = .ok (.aload_n 0, 1) := by decide +kernel
theorem dX12_rule_30 : decode cX12_rule 30 = .ok (.invokevirtual 340, 3) := by decide +kernel
theorem dX12_rule_33 : decode cX12_rule 33 = .ok (.ldc2_w 405, 3) := by decide +kernel
theorem dX12_rule_36 : decode cX12_rule 36 = .ok (.lcmp, 1) := by decide +kernel
theorem dX12_rule_37 : decode cX12_rule 37 = .ok (.ifCond .ne 12, 3) := by decide +kernel
theorem dX12_rule_40 : decode cX12_rule 40 = .ok (.aload_n 0, 1) := by decide +kernel
theorem dX12_rule_41 : decode cX12_rule 41 = .ok (.iconst 1, 1) := by decide +kernel
theorem dX12_rule_42 : decode cX12_rule 42 = .ok (.invokevirtual 336, 3) := by decide +kernel
theorem dX12_rule_45 : decode cX12_rule 45 = .ok (.aload_n 0, 1) := by decide +kernel
theorem dX12_rule_46 : decode cX12_rule 46 = .ok (.invokevirtual 386, 3) := by decide +kernel
theorem dX12_rule_49 : decode cX12_rule 49 = .ok (.aload_n 0, 1) := by decide +kernel
theorem dX12_rule_50 : decode cX12_rule 50 = .ok (.invokevirtual 340, 3) := by decide +kernel
theorem dX12_rule_53 : decode cX12_rule 53 = .ok (.lstore_n 2, 1) := by decide +kernel
theorem dX12_rule_54 : decode cX12_rule 54 = .ok (.lload_n 2, 1) := by decide +kernel
theorem dX12_rule_55 : decode cX12_rule 55 = .ok (.ldc2_w 407, 3) := by decide +kernel
theorem dX12_rule_58 : decode cX12_rule 58 = .ok (.lcmp, 1) := by decide +kernel
theorem dX12_rule_59 : decode cX12_rule 59 = .ok (.ifCond .ne 7, 3) := by decide +kernel
theorem dX12_rule_62 : decode cX12_rule 62 = .ok (.iconst 0, 1) := by decide +kernel
theorem dX12_rule_63 : decode cX12_rule 63 = .ok (.goto 28, 3) := by decide +kernel
theorem dX12_rule_66 : decode cX12_rule 66 = .ok (.lload_n 2, 1) := by decide +kernel
theorem dX12_rule_67 : decode cX12_rule 67 = .ok (.ldc2_w 409, 3) := by decide +kernel
theorem dX12_rule_70 : decode cX12_rule 70 = .ok (.lcmp, 1) := by decide +kernel
theorem dX12_rule_71 : decode cX12_rule 71 = .ok (.ifCond .ne 7, 3) := by decide +kernel
theorem dX12_rule_74 : decode cX12_rule 74 = .ok (.iconst 1, 1) := by decide +kernel
theorem dX12_rule_75 : decode cX12_rule 75 = .ok (.goto 16, 3) := by decide +kernel
theorem dX12_rule_78 : decode cX12_rule 78 = .ok (.lload_n 2, 1) := by decide +kernel
theorem dX12_rule_79 : decode cX12_rule 79 = .ok (.ldc2_w 411, 3) := by decide +kernel
theorem dX12_rule_82 : decode cX12_rule 82 = .ok (.lcmp, 1) := by decide +kernel
theorem dX12_rule_83 : decode cX12_rule 83 = .ok (.ifCond .ne 7, 3) := by decide +kernel
theorem dX12_rule_86 : decode cX12_rule 86 = .ok (.iconst 2, 1) := by decide +kernel
theorem dX12_rule_87 : decode cX12_rule 87 = .ok (.goto 4, 3) := by decide +kernel
theorem dX12_rule_90 : decode cX12_rule 90 = .ok (.iconst (-1), 1) := by decide +kernel
theorem dX12_rule_91 : decode cX12_rule 91 = .ok (.istore 4, 2) := by decide +kernel
theorem dX12_rule_93 : decode cX12_rule 93 = .ok (.aload_n 0, 1) := by decide +kernel
theorem dX12_rule_94 : decode cX12_rule 94 = .ok (.iload 4, 2) := by decide +kernel
theorem dX12_rule_96 : decode cX12_rule 96 = .ok (.ifCond .lt 7, 3) := by decide +kernel
theorem dX12_rule_99 : decode cX12_rule 99 = .ok (.iconst 1, 1) := by decide +kernel
theorem dX12_rule_100 : decode cX12_rule 100 = .ok (.goto 4, 3) := by decide +kernel
theorem dX12_rule_103 : decode cX12_rule 103 = .ok (.iconst 0, 1) := by decide +kernel
theorem dX12_rule_104 : decode cX12_rule 104 = .ok (.invokevirtual 336, 3) := by decide +kernel
theorem dX12_rule_107 : decode cX12_rule 107 = .ok (.aload_n 0, 1) := by decide +kernel
theorem dX12_rule_108 : decode cX12_rule 108 = .ok (.iconst 0, 1) := by decide +kernel
theorem dX12_rule_109 : decode cX12_rule 109 = .ok (.putfield 333, 3) := by decide +kernel
theorem dX12_rule_112 : decode cX12_rule 112 = .ok (.iload 4, 2) := by decide +kernel
theorem dX12_rule_114 : decode cX12_rule 114 = .ok (.ifCond .lt 22, 3) := by decide +kernel
theorem dX12_rule_117 : decode cX12_rule 117 = .ok (.iload 4, 2) := by decide +kernel
theorem dX12_rule_119 : decode cX12_rule 119 = .ok (.iconst 2, 1) := by decide +kernel
theorem dX12_rule_120 : decode cX12_rule 120 = .ok (.if_icmp .eq 16, 3) := by decide +kernel
theorem dX12_rule_123 : decode cX12_rule 123 = .ok (.aload_n 0, 1) := by decide +kernel
theorem dX12_rule_124 : decode cX12_rule 124 = .ok (.getfield 322, 3) := by decide +kernel
theorem dX12_rule_127 : decode cX12_rule 127 = .ok (.ifCond .ne 9, 3) := by decide +kernel
theorem dX12_rule_130 : decode cX12_rule 130 = .ok (.aload_n 0, 1) := by decide +kernel
theorem dX12_rule_131 : decode cX12_rule 131 = .ok (.bipush 99, 2) := by decide +kernel
theorem dX12_rule_133 : decode cX12_rule 133 = .ok (.invokevirtual 375, 3) := by decide +kernel
theorem dX12_rule_136 : decode cX12_rule 136 = .ok (.aload_n 0, 1) := by decide +kernel
theorem dX12_rule_137 : decode cX12_rule 137 = .ok (.getfield 333, 3) := by decide +kernel
theorem dX12_rule_140 : decode cX12_rule 140 = .ok (.istore 5, 2) := by decide +kernel
theorem dX12_rule_142 : decode cX12_rule 142 = .ok (.aload_n 0, 1) := by decide +kernel
theorem dX12_rule_143 : decode cX12_rule 143 = .ok (.aload_n 0, 1) := by decide +kernel
theorem dX12_rule_144 : decode cX12_rule 144 = .ok (.getfield 322, 3) := by decide +kernel
theorem dX12_rule_147 : decode cX12_rule 147 = .ok (.ifCond .ne 20, 3) := by decide +kernel
theorem dX12_rule_150 : decode cX12_rule 150 = .ok (.aload_n 0, 1) := by decide +kernel
theorem dX12_rule_151 : decode cX12_rule 151 = .ok (.aload_n 0, 1) := by decide +kernel
theorem dX12_rule_152 : decode cX12_rule 152 = .ok (.getfield 310, 3) := by decide +kernel
theorem dX12_rule_155 : decode cX12_rule 155 = .ok (.invokevirtual 313, 3) := by decide +kernel
theorem dX12_rule_158 : decode cX12_rule 158 = .ok (.bipush 59, 2) := by decide +kernel
theorem dX12_rule_160 : decode cX12_rule 160 = .ok (.if_icmp .ne 7, 3) := by decide +kernel
theorem dX12_rule_163 : decode cX12_rule 163 = .ok (.iconst 1, 1) := by decide +kernel
theorem dX12_rule_164 : decode cX12_rule 164 = .ok (.goto 4, 3) := by decide +kernel
theorem dX12_rule_167 : decode cX12_rule 167 = .ok (.iconst 0, 1) := by decide +kernel
theorem dX12_rule_168 : decode cX12_rule 168 = .ok (.invokevirtual 336, 3) := by decide +kernel
theorem dX12_rule_171 : decode cX12_rule 171 = .ok (.aload_n 0, 1) := by decide +kernel
theorem dX12_rule_172 : decode cX12_rule 172 = .ok (.getfield 322, 3) := by decide +kernel
theorem dX12_rule_175 : decode cX12_rule 175 = .ok (.ifCond .ne 71, 3) := by decide +kernel
theorem dX12_rule_178 : decode cX12_rule 178 = .ok (.bipush 106, 2) := by decide +kernel
theorem dX12_rule_180 : decode cX12_rule 180 = .ok (.iconst 4, 1) := by decide +kernel
theorem dX12_rule_181 : decode cX12_rule 181 = .ok (.aload_n 0, 1) := by decide +kernel
theorem dX12_rule_182 : decode cX12_rule 182 = .ok (.getfield 7, 3) := by decide +kernel
theorem dX12_rule_185 : decode cX12_rule 185 = .ok (.iconst 1, 1) := by decide +kernel
theorem dX12_rule_186 : decode cX12_rule 186 = .ok (.iaload, 1) := by decide +kernel
theorem dX12_rule_187 : decode cX12_rule 187 = .ok (.imul, 1) := by decide +kernel
theorem dX12_rule_188 : decode cX12_rule 188 = .ok (.iadd, 1) := by decide +kernel
theorem dX12_rule_189 : decode cX12_rule 189 = .ok (.istore 6, 2) := by decide +kernel
theorem dX12_rule_191 : decode cX12_rule 191 = .ok (.aload_n 0, 1) := by decide +kernel
theorem dX12_rule_192 : decode cX12_rule 192 = .ok (.getfield 7, 3) := by decide +kernel
theorem dX12_rule_195 : decode cX12_rule 195 = .ok (.iload 6, 2) := by decide +kernel
theorem dX12_rule_197 : decode cX12_rule 197 = .ok (.iconst 0, 1) := by decide +kernel
theorem dX12_rule_198 : decode cX12_rule 198 = .ok (.iadd, 1) := by decide +kernel
theorem dX12_rule_199 : decode cX12_rule 199 = .ok (.iload_n 1, 1) := by decide +kernel
theorem dX12_rule_200 : decode cX12_rule 200 = .ok (.iastore, 1) := by decide +kernel
theorem dX12_rule_201 : decode cX12_rule 201 = .ok (.aload_n 0, 1) := by decide +kernel
theorem dX12_rule_202 : decode cX12_rule 202 = .ok (.getfield 7, 3) := by decide +kernel
theorem dX12_rule_205 : decode cX12_rule 205 = .ok (.iload 6, 2) := by decide +kernel
theorem dX12_rule_207 : decode cX12_rule 207 = .ok (.iconst 1, 1) := by decide +kernel
theorem dX12_rule_208 : decode cX12_rule 208 = .ok (.iadd, 1) := by decide +kernel
theorem dX12_rule_209 : decode cX12_rule 209 = .ok (.iload 4, 2) := by decide +kernel
theorem dX12_rule_211 : decode cX12_rule 211 = .ok (.iastore, 1) := by decide +kernel
theorem dX12_rule_212 : decode cX12_rule 212 = .ok (.aload_n 0, 1) := by decide +kernel
theorem dX12_rule_213 : decode cX12_rule 213 = .ok (.getfield 7, 3) := by decide +kernel
theorem dX12_rule_216 : decode cX12_rule 216 = .ok (.iload 6, 2) := by decide +kernel
theorem dX12_rule_218 : decode cX12_rule 218 = .ok (.iconst 2, 1) := by decide +kernel
theorem dX12_rule_219 : decode cX12_rule 219 = .ok (.iadd, 1) := by decide +kernel
theorem dX12_rule_220 : decode cX12_rule 220 = .ok (.iload 5, 2) := by decide +kernel
theorem dX12_rule_222 : decode cX12_rule 222 = .ok (.iastore, 1) := by decide +kernel
theorem dX12_rule_223 : decode cX12_rule 223 = .ok (.aload_n 0, 1) := by decide +kernel
theorem dX12_rule_224 : decode cX12_rule 224 = .ok (.getfield 7, 3) := by decide +kernel
theorem dX12_rule_227 : decode cX12_rule 227 = .ok (.iload 6, 2) := by decide +kernel
theorem dX12_rule_229 : decode cX12_rule 229 = .ok (.iconst 3, 1) := by decide +kernel
theorem dX12_rule_230 : decode cX12_rule 230 = .ok (.iadd, 1) := by decide +kernel
theorem dX12_rule_231 : decode cX12_rule 231 = .ok (.aload_n 0, 1) := by decide +kernel
theorem dX12_rule_232 : decode cX12_rule 232 = .ok (.getfield 366, 3) := by decide +kernel
theorem dX12_rule_235 : decode cX12_rule 235 = .ok (.iastore, 1) := by decide +kernel
theorem dX12_rule_236 : decode cX12_rule 236 = .ok (.aload_n 0, 1) := by decide +kernel
theorem dX12_rule_237 : decode cX12_rule 237 = .ok (.getfield 7, 3) := by decide +kernel
theorem dX12_rule_240 : decode cX12_rule 240 = .ok (.iconst 1, 1) := by decide +kernel
theorem dX12_rule_241 : decode cX12_rule 241 = .ok (.dup2, 1) := by decide +kernel
theorem dX12_rule_242 : decode cX12_rule 242 = .ok (.iaload, 1) := by decide +kernel
theorem dX12_rule_243 : decode cX12_rule 243 = .ok (.iconst 1, 1) := by decide +kernel
theorem dX12_rule_244 : decode cX12_rule 244 = .ok (.iadd, 1) := by decide +kernel
theorem dX12_rule_245 : decode cX12_rule 245 = .ok (.iastore, 1) := by decide +kernel
theorem dX12_rule_246 : decode cX12_rule 246 = .ok (.return_, 1) := by decide +kernel
theorem dX12_rules_0 : decode cX12_rules 0 = .ok (.aload_n 0, 1) := by decide +kernel
theorem dX12_rules_1 : decode cX12_rules 1 = .ok (.invokevirtual 280, 3) := by decide +kernel
theorem dX12_rules_4 : decode cX12_rules 4 = .ok (.aload_n 0, 1) := by decide +kernel
theorem dX12_rules_5 : decode cX12_rules 5 = .ok (.getfield 7, 3) := by decide +kernel
theorem dX12_rules_8 : decode cX12_rules 8 = .ok (.iconst 1, 1) := by decide +kernel
theorem dX12_rules_9 : decode cX12_rules 9 = .ok (.iconst 0, 1) := by decide +kernel
theorem dX12_rules_10 : decode cX12_rules 10 = .ok (.iastore, 1) := by decide +kernel
theorem dX12_rules_11 : decode cX12_rules 11 = .ok (.aload_n 0, 1) := by decide +kernel
theorem dX12_rules_12 : decode cX12_rules 12 = .ok (.iconst 0, 1) := by decide +kernel
theorem dX12_rules_13 : decode cX12_rules 13 = .ok (.putfield 366, 3) := by decide +kernel
theorem dX12_rules_16 : decode cX12_rules 16 = .ok (.aload_n 0, 1) := by decide +kernel
theorem dX12_rules_17 : decode cX12_rules 17 = .ok (.iconst 0, 1) := by decide +kernel
theorem dX12_rules_18 : decode cX12_rules 18 = .ok (.putfield 383, 3) := by decide +kernel
theorem dX12_rules_21 : decode cX12_rules 21 = .ok (.aload_n 0, 1) := by decide +kernel
theorem dX12_rules_22 : decode cX12_rules 22 = .ok (.iconst 0, 1) := by decide +kernel
theorem dX12_rules_23 : decode cX12_rules 23 = .ok (.putfield 307, 3) := by decide +kernel
theorem dX12_rules_26 : decode cX12_rules 26 = .ok (.aload_n 0, 1) := by decide +kernel
theorem dX12_rules_27 : decode cX12_rules 27 = .ok (.iconst 0, 1) := by decide +kernel
theorem dX12_rules_28 : decode cX12_rules 28 = .ok (.putfield 322, 3) := by decide +kernel
theorem dX12_rules_31 : decode cX12_rules 31 = .ok (.aload_n 0, 1) := by decide +kernel
theorem dX12_rules_32 : decode cX12_rules 32 = .ok (.invokevirtual 326, 3) := by decide +kernel
theorem dX12_rules_35 : decode cX12_rules 35 = .ok (.aload_n 0, 1) := by decide +kernel
theorem dX12_rules_36 : decode cX12_rules 36 = .ok (.getfield 322, 3) := by decide +kernel
theorem dX12_rules_39 : decode cX12_rules 39 = .ok (.ifCond .ne 21, 3) := by decide +kernel
theorem dX12_rules_42 : decode cX12_rules 42 = .ok (.aload_n 0, 1) := by decide +kernel
theorem dX12_rules_43 : decode cX12_rules 43 = .ok (.getfield 310, 3) := by decide +kernel
theorem dX12_rules_46 : decode cX12_rules 46 = .ok (.aload_n 0, 1) := by decide +kernel
theorem dX12_rules_47 : decode cX12_rules 47 = .ok (.getfield 294, 3) := by decide +kernel
theorem dX12_rules_50 : decode cX12_rules 50 = .ok (.if_icmp .ge 10, 3) := by decide +kernel
theorem dX12_rules_53 : decode cX12_rules 53 = .ok (.aload_n 0, 1) := by decide +kernel
theorem dX12_rules_54 : decode cX12_rules 54 = .ok (.invokevirtual 413, 3) := by decide +kernel
theorem dX12_rules_57 : decode cX12_rules 57 = .ok (.goto (-22), 3) := by decide +kernel
theorem dX12_rules_60 : decode cX12_rules 60 = .ok (.aload_n 0, 1) := by decide +kernel
theorem dX12_rules_61 : decode cX12_rules 61 = .ok (.iconst 0, 1) := by decide +kernel
theorem dX12_rules_62 : decode cX12_rules 62 = .ok (.putfield 294, 3) := by decide +kernel
theorem dX12_rules_65 : decode cX12_rules 65 = .ok (.aload_n 0, 1) := by decide +kernel
theorem dX12_rules_66 : decode cX12_rules 66 = .ok (.getfield 322, 3) := by decide +kernel
theorem dX12_rules_69 : decode cX12_rules 69 = .ok (.ifCond .eq 15, 3) := by decide +kernel
theorem dX12_rules_72 : decode cX12_rules 72 = .ok (.aload_n 0, 1) := by decide +kernel
theorem dX12_rules_73 : decode cX12_rules 73 = .ok (.invokevirtual 283, 3) := by decide +kernel
theorem dX12_rules_76 : decode cX12_rules 76 = .ok (.bipush (-100), 2) := by decide +kernel
theorem dX12_rules_78 : decode cX12_rules 78 = .ok (.aload_n 0, 1) := by decide +kernel
theorem dX12_rules_79 : decode cX12_rules 79 = .ok (.getfield 310, 3) := by decide +kernel
theorem dX12_rules_82 : decode cX12_rules 82 = .ok (.isub, 1) := by decide +kernel
theorem dX12_rules_83 : decode cX12_rules 83 = .ok (.ireturn, 1) := by decide +kernel
theorem dX12_rules_84 : decode cX12_rules 84 = .ok (.aload_n 0, 1) := by decide +kernel
theorem dX12_rules_85 : decode cX12_rules 85 = .ok (.getfield 7, 3) := by decide +kernel
theorem dX12_rules_88 : decode cX12_rules 88 = .ok (.iconst 1, 1) := by decide +kernel
theorem dX12_rules_89 : decode cX12_rules 89 = .ok (.iaload, 1) := by decide +kernel
theorem dX12_rules_90 : decode cX12_rules 90 = .ok (.ireturn, 1) := by decide +kernel
theorem dX12_isOne_0 : decode cX12_isOne 0 = .ok (.iload_n 0, 1) := by decide +kernel
theorem dX12_isOne_1 : decode cX12_isOne 1 = .ok (.i2l, 1) := by decide +kernel
theorem dX12_isOne_2 : decode cX12_isOne 2 = .ok (.lconst 0, 1) := by decide +kernel
theorem dX12_isOne_3 : decode cX12_isOne 3 = .ok (.ldc2_w 416, 3) := by decide +kernel
theorem dX12_isOne_6 : decode cX12_isOne 6 = .ok (.invokestatic 68, 3) := by decide +kernel
theorem dX12_isOne_9 : decode cX12_isOne 9 = .ok (.ireturn, 1) := by decide +kernel
theorem dX12_sheet_0 : decode cX12_sheet 0 = .ok (.iload_n 1, 1) := by decide +kernel
theorem dX12_sheet_1 : decode cX12_sheet 1 = .ok (.invokestatic 418, 3) := by decide +kernel
theorem dX12_sheet_4 : decode cX12_sheet 4 = .ok (.ifCond .eq 27, 3) := by decide +kernel
theorem dX12_sheet_7 : decode cX12_sheet 7 = .ok (.iload_n 2, 1) := by decide +kernel
theorem dX12_sheet_8 : decode cX12_sheet 8 = .ok (.i2l, 1) := by decide +kernel
theorem dX12_sheet_9 : decode cX12_sheet 9 = .ok (.ldc2_w 421, 3) := by decide +kernel
theorem dX12_sheet_12 : decode cX12_sheet 12 = .ok (.ldc2_w 242, 3) := by decide +kernel
theorem dX12_sheet_15 : decode cX12_sheet 15 = .ok (.invokestatic 68, 3) := by decide +kernel
theorem dX12_sheet_18 : decode cX12_sheet 18 = .ok (.ifCond .eq 13, 3) := by decide +kernel
theorem dX12_sheet_21 : decode cX12_sheet 21 = .ok (.iload_n 2, 1) := by decide +kernel
theorem dX12_sheet_22 : decode cX12_sheet 22 = .ok (.ifCond .lt 11, 3) := by decide +kernel
theorem dX12_sheet_25 : decode cX12_sheet 25 = .ok (.iload_n 3, 1) := by decide +kernel
theorem dX12_sheet_26 : decode cX12_sheet 26 = .ok (.bipush 40, 2) := by decide +kernel
theorem dX12_sheet_28 : decode cX12_sheet 28 = .ok (.if_icmp .le 5, 3) := by decide +kernel
theorem dX12_sheet_31 : decode cX12_sheet 31 = .ok (.iconst (-1), 1) := by decide +kernel
theorem dX12_sheet_32 : decode cX12_sheet 32 = .ok (.ireturn, 1) := by decide +kernel
theorem dX12_sheet_33 : decode cX12_sheet 33 = .ok (.iload_n 2, 1) := by decide +kernel
theorem dX12_sheet_34 : decode cX12_sheet 34 = .ok (.ifCond .lt 10, 3) := by decide +kernel
theorem dX12_sheet_37 : decode cX12_sheet 37 = .ok (.iload_n 3, 1) := by decide +kernel
theorem dX12_sheet_38 : decode cX12_sheet 38 = .ok (.ifCond .ge 6, 3) := by decide +kernel
theorem dX12_sheet_41 : decode cX12_sheet 41 = .ok (.bipush (-14), 2) := by decide +kernel
theorem dX12_sheet_43 : decode cX12_sheet 43 = .ok (.ireturn, 1) := by decide +kernel
theorem dX12_sheet_44 : decode cX12_sheet 44 = .ok (.aload_n 0, 1) := by decide +kernel
theorem dX12_sheet_45 : decode cX12_sheet 45 = .ok (.getfield 47, 3) := by decide +kernel
theorem dX12_sheet_48 : decode cX12_sheet 48 = .ok (.iload_n 1, 1) := by decide +kernel
theorem dX12_sheet_49 : decode cX12_sheet 49 = .ok (.iload_n 2, 1) := by decide +kernel
theorem dX12_sheet_50 : decode cX12_sheet 50 = .ok (.iastore, 1) := by decide +kernel
theorem dX12_sheet_51 : decode cX12_sheet 51 = .ok (.aload_n 0, 1) := by decide +kernel
theorem dX12_sheet_52 : decode cX12_sheet 52 = .ok (.getfield 50, 3) := by decide +kernel
theorem dX12_sheet_55 : decode cX12_sheet 55 = .ok (.iload_n 1, 1) := by decide +kernel
theorem dX12_sheet_56 : decode cX12_sheet 56 = .ok (.iload_n 2, 1) := by decide +kernel
theorem dX12_sheet_57 : decode cX12_sheet 57 = .ok (.ifCond .ge 7, 3) := by decide +kernel
theorem dX12_sheet_60 : decode cX12_sheet 60 = .ok (.iconst 0, 1) := by decide +kernel
theorem dX12_sheet_61 : decode cX12_sheet 61 = .ok (.goto 4, 3) := by decide +kernel
theorem dX12_sheet_64 : decode cX12_sheet 64 = .ok (.iload_n 3, 1) := by decide +kernel
theorem dX12_sheet_65 : decode cX12_sheet 65 = .ok (.iastore, 1) := by decide +kernel
theorem dX12_sheet_66 : decode cX12_sheet 66 = .ok (.iconst 0, 1) := by decide +kernel
theorem dX12_sheet_67 : decode cX12_sheet 67 = .ok (.istore 4, 2) := by decide +kernel
theorem dX12_sheet_69 : decode cX12_sheet 69 = .ok (.iload 4, 2) := by decide +kernel
theorem dX12_sheet_71 : decode cX12_sheet 71 = .ok (.bipush 40, 2) := by decide +kernel
theorem dX12_sheet_73 : decode cX12_sheet 73 = .ok (.if_icmp .ge 22, 3) := by decide +kernel
theorem dX12_sheet_76 : decode cX12_sheet 76 = .ok (.aload_n 0, 1) := by decide +kernel
theorem dX12_sheet_77 : decode cX12_sheet 77 = .ok (.getfield 53, 3) := by decide +kernel
theorem dX12_sheet_80 : decode cX12_sheet 80 = .ok (.bipush 40, 2) := by decide +kernel
theorem dX12_sheet_82 : decode cX12_sheet 82 = .ok (.iload_n 1, 1) := by decide +kernel
theorem dX12_sheet_83 : decode cX12_sheet 83 = .ok (.imul, 1) := by decide +kernel
theorem dX12_sheet_84 : decode cX12_sheet 84 = .ok (.iload 4, 2) := by decide +kernel
theorem dX12_sheet_86 : decode cX12_sheet 86 = .ok (.iadd, 1) := by decide +kernel
theorem dX12_sheet_87 : decode cX12_sheet 87 = .ok (.iconst 0, 1) := by decide +kernel
theorem dX12_sheet_88 : decode cX12_sheet 88 = .ok (.iastore, 1) := by decide +kernel
theorem dX12_sheet_89 : decode cX12_sheet 89 = .ok (.iinc 4 1, 3) := by decide +kernel
theorem dX12_sheet_92 : decode cX12_sheet 92 = .ok (.goto (-23), 3) := by decide +kernel
theorem dX12_sheet_95 : decode cX12_sheet 95 = .ok (.iconst 1, 1) := by decide +kernel
theorem dX12_sheet_96 : decode cX12_sheet 96 = .ok (.ireturn, 1) := by decide +kernel
theorem dX12_narrowed_0 : decode cX12_narrowed 0 = .ok (.iload_n 0, 1) := by decide +kernel
theorem dX12_narrowed_1 : decode cX12_narrowed 1 = .ok (.ifCond .ne 8, 3) := by decide +kernel
theorem dX12_narrowed_4 : decode cX12_narrowed 4 = .ok (.iload_n 1, 1) := by decide +kernel
theorem dX12_narrowed_5 : decode cX12_narrowed 5 = .ok (.i2b, 1) := by decide +kernel
theorem dX12_narrowed_6 : decode cX12_narrowed 6 = .ok (.goto 31, 3) := by decide +kernel
theorem dX12_narrowed_9 : decode cX12_narrowed 9 = .ok (.iload_n 0, 1) := by decide +kernel
theorem dX12_narrowed_10 : decode cX12_narrowed 10 = .ok (.iconst 1, 1) := by decide +kernel
theorem dX12_narrowed_11 : decode cX12_narrowed 11 = .ok (.if_icmp .ne 8, 3) := by decide +kernel
theorem dX12_narrowed_14 : decode cX12_narrowed 14 = .ok (.iload_n 1, 1) := by decide +kernel
theorem dX12_narrowed_15 : decode cX12_narrowed 15 = .ok (.i2s, 1) := by decide +kernel
theorem dX12_narrowed_16 : decode cX12_narrowed 16 = .ok (.goto 21, 3) := by decide +kernel
theorem dX12_narrowed_19 : decode cX12_narrowed 19 = .ok (.iload_n 0, 1) := by decide +kernel
theorem dX12_narrowed_20 : decode cX12_narrowed 20 = .ok (.iconst 4, 1) := by decide +kernel
theorem dX12_narrowed_21 : decode cX12_narrowed 21 = .ok (.if_icmp .ne 15, 3) := by decide +kernel
theorem dX12_narrowed_24 : decode cX12_narrowed 24 = .ok (.iload_n 1, 1) := by decide +kernel
theorem dX12_narrowed_25 : decode cX12_narrowed 25 = .ok (.ifCond .ne 7, 3) := by decide +kernel
theorem dX12_narrowed_28 : decode cX12_narrowed 28 = .ok (.iconst 0, 1) := by decide +kernel
theorem dX12_narrowed_29 : decode cX12_narrowed 29 = .ok (.goto 8, 3) := by decide +kernel
theorem dX12_narrowed_32 : decode cX12_narrowed 32 = .ok (.iconst 1, 1) := by decide +kernel
theorem dX12_narrowed_33 : decode cX12_narrowed 33 = .ok (.goto 4, 3) := by decide +kernel
theorem dX12_narrowed_36 : decode cX12_narrowed 36 = .ok (.iload_n 1, 1) := by decide +kernel
theorem dX12_narrowed_37 : decode cX12_narrowed 37 = .ok (.ireturn, 1) := by decide +kernel
theorem dX12_write_0 : decode cX12_write 0 = .ok (.iload_n 1, 1) := by decide +kernel
theorem dX12_write_1 : decode cX12_write 1 = .ok (.invokestatic 418, 3) := by decide +kernel
theorem dX12_write_4 : decode cX12_write 4 = .ok (.ifCond .ne 5, 3) := by decide +kernel
theorem dX12_write_7 : decode cX12_write 7 = .ok (.iconst (-1), 1) := by decide +kernel
theorem dX12_write_8 : decode cX12_write 8 = .ok (.ireturn, 1) := by decide +kernel
theorem dX12_write_9 : decode cX12_write 9 = .ok (.aload_n 0, 1) := by decide +kernel
theorem dX12_write_10 : decode cX12_write 10 = .ok (.getfield 47, 3) := by decide +kernel
theorem dX12_write_13 : decode cX12_write 13 = .ok (.iload_n 1, 1) := by decide +kernel
theorem dX12_write_14 : decode cX12_write 14 = .ok (.iaload, 1) := by decide +kernel
theorem dX12_write_15 : decode cX12_write 15 = .ok (.ifCond .ge 6, 3) := by decide +kernel
theorem dX12_write_18 : decode cX12_write 18 = .ok (.bipush (-11), 2) := by decide +kernel
theorem dX12_write_20 : decode cX12_write 20 = .ok (.ireturn, 1) := by decide +kernel
theorem dX12_write_21 : decode cX12_write 21 = .ok (.iload_n 2, 1) := by decide +kernel
theorem dX12_write_22 : decode cX12_write 22 = .ok (.i2l, 1) := by decide +kernel
theorem dX12_write_23 : decode cX12_write 23 = .ok (.lconst 0, 1) := by decide +kernel
theorem dX12_write_24 : decode cX12_write 24 = .ok (.aload_n 0, 1) := by decide +kernel
theorem dX12_write_25 : decode cX12_write 25 = .ok (.getfield 50, 3) := by decide +kernel
theorem dX12_write_28 : decode cX12_write 28 = .ok (.iload_n 1, 1) := by decide +kernel
theorem dX12_write_29 : decode cX12_write 29 = .ok (.iaload, 1) := by decide +kernel
theorem dX12_write_30 : decode cX12_write 30 = .ok (.iconst 1, 1) := by decide +kernel
theorem dX12_write_31 : decode cX12_write 31 = .ok (.isub, 1) := by decide +kernel
theorem dX12_write_32 : decode cX12_write 32 = .ok (.i2l, 1) := by decide +kernel
theorem dX12_write_33 : decode cX12_write 33 = .ok (.invokestatic 68, 3) := by decide +kernel
theorem dX12_write_36 : decode cX12_write 36 = .ok (.ifCond .ne 6, 3) := by decide +kernel
theorem dX12_write_39 : decode cX12_write 39 = .ok (.bipush (-12), 2) := by decide +kernel
theorem dX12_write_41 : decode cX12_write 41 = .ok (.ireturn, 1) := by decide +kernel
theorem dX12_write_42 : decode cX12_write 42 = .ok (.aload_n 0, 1) := by decide +kernel
theorem dX12_write_43 : decode cX12_write 43 = .ok (.getfield 53, 3) := by decide +kernel
theorem dX12_write_46 : decode cX12_write 46 = .ok (.bipush 40, 2) := by decide +kernel
theorem dX12_write_48 : decode cX12_write 48 = .ok (.iload_n 1, 1) := by decide +kernel
theorem dX12_write_49 : decode cX12_write 49 = .ok (.imul, 1) := by decide +kernel
theorem dX12_write_50 : decode cX12_write 50 = .ok (.iload_n 2, 1) := by decide +kernel
theorem dX12_write_51 : decode cX12_write 51 = .ok (.iadd, 1) := by decide +kernel
theorem dX12_write_52 : decode cX12_write 52 = .ok (.aload_n 0, 1) := by decide +kernel
theorem dX12_write_53 : decode cX12_write 53 = .ok (.getfield 47, 3) := by decide +kernel
theorem dX12_write_56 : decode cX12_write 56 = .ok (.iload_n 1, 1) := by decide +kernel
theorem dX12_write_57 : decode cX12_write 57 = .ok (.iaload, 1) := by decide +kernel
theorem dX12_write_58 : decode cX12_write 58 = .ok (.iload_n 3, 1) := by decide +kernel
theorem dX12_write_59 : decode cX12_write 59 = .ok (.invokestatic 423, 3) := by decide +kernel
theorem dX12_write_62 : decode cX12_write 62 = .ok (.iastore, 1) := by decide +kernel
theorem dX12_write_63 : decode cX12_write 63 = .ok (.iconst 1, 1) := by decide +kernel
theorem dX12_write_64 : decode cX12_write 64 = .ok (.ireturn, 1) := by decide +kernel
theorem dX12_whyNot_0 : decode cX12_whyNot 0 = .ok (.aload_n 0, 1) := by decide +kernel
theorem dX12_whyNot_1 : decode cX12_whyNot 1 = .ok (.getfield 47, 3) := by decide +kernel
theorem dX12_whyNot_4 : decode cX12_whyNot 4 = .ok (.iload_n 1, 1) := by decide +kernel
theorem dX12_whyNot_5 : decode cX12_whyNot 5 = .ok (.iaload, 1) := by decide +kernel
theorem dX12_whyNot_6 : decode cX12_whyNot 6 = .ok (.ifCond .ge 8, 3) := by decide +kernel
theorem dX12_whyNot_9 : decode cX12_whyNot 9 = .ok (.bipush (-11), 2) := by decide +kernel
theorem dX12_whyNot_11 : decode cX12_whyNot 11 = .ok (.goto 19, 3) := by decide +kernel
theorem dX12_whyNot_14 : decode cX12_whyNot 14 = .ok (.aload_n 0, 1) := by decide +kernel
theorem dX12_whyNot_15 : decode cX12_whyNot 15 = .ok (.getfield 47, 3) := by decide +kernel
theorem dX12_whyNot_18 : decode cX12_whyNot 18 = .ok (.iload_n 1, 1) := by decide +kernel
theorem dX12_whyNot_19 : decode cX12_whyNot 19 = .ok (.iaload, 1) := by decide +kernel
theorem dX12_whyNot_20 : decode cX12_whyNot 20 = .ok (.iload_n 2, 1) := by decide +kernel
theorem dX12_whyNot_21 : decode cX12_whyNot 21 = .ok (.if_icmp .eq 8, 3) := by decide +kernel
theorem dX12_whyNot_24 : decode cX12_whyNot 24 = .ok (.bipush (-13), 2) := by decide +kernel
theorem dX12_whyNot_26 : decode cX12_whyNot 26 = .ok (.goto 4, 3) := by decide +kernel
theorem dX12_whyNot_29 : decode cX12_whyNot 29 = .ok (.iconst 0, 1) := by decide +kernel
theorem dX12_whyNot_30 : decode cX12_whyNot 30 = .ok (.ireturn, 1) := by decide +kernel
theorem dX12_item_0 : decode cX12_item 0 = .ok (.iload_n 1, 1) := by decide +kernel
theorem dX12_item_1 : decode cX12_item 1 = .ok (.invokestatic 418, 3) := by decide +kernel
theorem dX12_item_4 : decode cX12_item 4 = .ok (.ifCond .eq 15, 3) := by decide +kernel
theorem dX12_item_7 : decode cX12_item 7 = .ok (.iload_n 2, 1) := by decide +kernel
theorem dX12_item_8 : decode cX12_item 8 = .ok (.i2l, 1) := by decide +kernel
theorem dX12_item_9 : decode cX12_item 9 = .ok (.lconst 0, 1) := by decide +kernel
theorem dX12_item_10 : decode cX12_item 10 = .ok (.ldc2_w 242, 3) := by decide +kernel
theorem dX12_item_13 : decode cX12_item 13 = .ok (.invokestatic 68, 3) := by decide +kernel
theorem dX12_item_16 : decode cX12_item 16 = .ok (.ifCond .ne 5, 3) := by decide +kernel
theorem dX12_item_19 : decode cX12_item 19 = .ok (.iconst (-1), 1) := by decide +kernel
theorem dX12_item_20 : decode cX12_item 20 = .ok (.ireturn, 1) := by decide +kernel
theorem dX12_item_21 : decode cX12_item 21 = .ok (.aload_n 0, 1) := by decide +kernel
theorem dX12_item_22 : decode cX12_item 22 = .ok (.iload_n 1, 1) := by decide +kernel
theorem dX12_item_23 : decode cX12_item 23 = .ok (.iload_n 2, 1) := by decide +kernel
theorem dX12_item_24 : decode cX12_item 24 = .ok (.invokevirtual 426, 3) := by decide +kernel
theorem dX12_item_27 : decode cX12_item 27 = .ok (.istore 4, 2) := by decide +kernel
theorem dX12_item_29 : decode cX12_item 29 = .ok (.iload 4, 2) := by decide +kernel
theorem dX12_item_31 : decode cX12_item 31 = .ok (.ifCond .eq 8, 3) := by decide +kernel
theorem dX12_item_34 : decode cX12_item 34 = .ok (.iload 4, 2) := by decide +kernel
theorem dX12_item_36 : decode cX12_item 36 = .ok (.goto 37, 3) := by decide +kernel
theorem dX12_item_39 : decode cX12_item 39 = .ok (.iload_n 3, 1) := by decide +kernel
theorem dX12_item_40 : decode cX12_item 40 = .ok (.i2l, 1) := by decide +kernel
theorem dX12_item_41 : decode cX12_item 41 = .ok (.lconst 0, 1) := by decide +kernel
theorem dX12_item_42 : decode cX12_item 42 = .ok (.aload_n 0, 1) := by decide +kernel
theorem dX12_item_43 : decode cX12_item 43 = .ok (.getfield 50, 3) := by decide +kernel
theorem dX12_item_46 : decode cX12_item 46 = .ok (.iload_n 1, 1) := by decide +kernel
theorem dX12_item_47 : decode cX12_item 47 = .ok (.iaload, 1) := by decide +kernel
theorem dX12_item_48 : decode cX12_item 48 = .ok (.iconst 1, 1) := by decide +kernel
theorem dX12_item_49 : decode cX12_item 49 = .ok (.isub, 1) := by decide +kernel
theorem dX12_item_50 : decode cX12_item 50 = .ok (.i2l, 1) := by decide +kernel
theorem dX12_item_51 : decode cX12_item 51 = .ok (.invokestatic 68, 3) := by decide +kernel
theorem dX12_item_54 : decode cX12_item 54 = .ok (.ifCond .eq 17, 3) := by decide +kernel
theorem dX12_item_57 : decode cX12_item 57 = .ok (.aload_n 0, 1) := by decide +kernel
theorem dX12_item_58 : decode cX12_item 58 = .ok (.getfield 53, 3) := by decide +kernel
theorem dX12_item_61 : decode cX12_item 61 = .ok (.bipush 40, 2) := by decide +kernel
theorem dX12_item_63 : decode cX12_item 63 = .ok (.iload_n 1, 1) := by decide +kernel
theorem dX12_item_64 : decode cX12_item 64 = .ok (.imul, 1) := by decide +kernel
theorem dX12_item_65 : decode cX12_item 65 = .ok (.iload_n 3, 1) := by decide +kernel
theorem dX12_item_66 : decode cX12_item 66 = .ok (.iadd, 1) := by decide +kernel
theorem dX12_item_67 : decode cX12_item 67 = .ok (.iaload, 1) := by decide +kernel
theorem dX12_item_68 : decode cX12_item 68 = .ok (.goto 5, 3) := by decide +kernel
theorem dX12_item_71 : decode cX12_item 71 = .ok (.bipush (-12), 2) := by decide +kernel
theorem dX12_item_73 : decode cX12_item 73 = .ok (.ireturn, 1) := by decide +kernel
theorem dX12_isItem_0 : decode cX12_isItem 0 = .ok (.lload_n 2, 1) := by decide +kernel
theorem dX12_isItem_1 : decode cX12_isItem 1 = .ok (.lconst 0, 1) := by decide +kernel
theorem dX12_isItem_2 : decode cX12_isItem 2 = .ok (.aload_n 0, 1) := by decide +kernel
theorem dX12_isItem_3 : decode cX12_isItem 3 = .ok (.getfield 50, 3) := by decide +kernel
theorem dX12_isItem_6 : decode cX12_isItem 6 = .ok (.iload_n 1, 1) := by decide +kernel
theorem dX12_isItem_7 : decode cX12_isItem 7 = .ok (.iaload, 1) := by decide +kernel
theorem dX12_isItem_8 : decode cX12_isItem 8 = .ok (.iconst 1, 1) := by decide +kernel
theorem dX12_isItem_9 : decode cX12_isItem 9 = .ok (.isub, 1) := by decide +kernel
theorem dX12_isItem_10 : decode cX12_isItem 10 = .ok (.i2l, 1) := by decide +kernel
theorem dX12_isItem_11 : decode cX12_isItem 11 = .ok (.invokestatic 68, 3) := by decide +kernel
theorem dX12_isItem_14 : decode cX12_isItem 14 = .ok (.ireturn, 1) := by decide +kernel
theorem dX12_isSpan_0 : decode cX12_isSpan 0 = .ok (.iload_n 1, 1) := by decide +kernel
theorem dX12_isSpan_1 : decode cX12_isSpan 1 = .ok (.invokestatic 418, 3) := by decide +kernel
theorem dX12_isSpan_4 : decode cX12_isSpan 4 = .ok (.ifCond .eq 19, 3) := by decide +kernel
theorem dX12_isSpan_7 : decode cX12_isSpan 7 = .ok (.iload_n 2, 1) := by decide +kernel
theorem dX12_isSpan_8 : decode cX12_isSpan 8 = .ok (.i2l, 1) := by decide +kernel
theorem dX12_isSpan_9 : decode cX12_isSpan 9 = .ok (.lconst 0, 1) := by decide +kernel
theorem dX12_isSpan_10 : decode cX12_isSpan 10 = .ok (.ldc2_w 429, 3) := by decide +kernel
theorem dX12_isSpan_13 : decode cX12_isSpan 13 = .ok (.invokestatic 68, 3) := by decide +kernel
theorem dX12_isSpan_16 : decode cX12_isSpan 16 = .ok (.ifCond .eq 7, 3) := by decide +kernel
theorem dX12_isSpan_19 : decode cX12_isSpan 19 = .ok (.iconst 1, 1) := by decide +kernel
theorem dX12_isSpan_20 : decode cX12_isSpan 20 = .ok (.goto 4, 3) := by decide +kernel
theorem dX12_isSpan_23 : decode cX12_isSpan 23 = .ok (.iconst 0, 1) := by decide +kernel
theorem dX12_isSpan_24 : decode cX12_isSpan 24 = .ok (.ireturn, 1) := by decide +kernel
theorem dX12_isOnTurn_0 : decode cX12_isOnTurn 0 = .ok (.aload_n 0, 1) := by decide +kernel
theorem dX12_isOnTurn_1 : decode cX12_isOnTurn 1 = .ok (.getfield 53, 3) := by decide +kernel
theorem dX12_isOnTurn_4 : decode cX12_isOnTurn 4 = .ok (.bipush 40, 2) := by decide +kernel
theorem dX12_isOnTurn_6 : decode cX12_isOnTurn 6 = .ok (.iload_n 1, 1) := by decide +kernel
theorem dX12_isOnTurn_7 : decode cX12_isOnTurn 7 = .ok (.imul, 1) := by decide +kernel
theorem dX12_isOnTurn_8 : decode cX12_isOnTurn 8 = .ok (.iload_n 2, 1) := by decide +kernel
theorem dX12_isOnTurn_9 : decode cX12_isOnTurn 9 = .ok (.iadd, 1) := by decide +kernel
theorem dX12_isOnTurn_10 : decode cX12_isOnTurn 10 = .ok (.iaload, 1) := by decide +kernel
theorem dX12_isOnTurn_11 : decode cX12_isOnTurn 11 = .ok (.istore_n 3, 1) := by decide +kernel
theorem dX12_isOnTurn_12 : decode cX12_isOnTurn 12 = .ok (.aload_n 0, 1) := by decide +kernel
theorem dX12_isOnTurn_13 : decode cX12_isOnTurn 13 = .ok (.iload_n 3, 1) := by decide +kernel
theorem dX12_isOnTurn_14 : decode cX12_isOnTurn 14 = .ok (.invokevirtual 159, 3) := by decide +kernel
theorem dX12_isOnTurn_17 : decode cX12_isOnTurn 17 = .ok (.ifCond .eq 15, 3) := by decide +kernel
theorem dX12_isOnTurn_20 : decode cX12_isOnTurn 20 = .ok (.aload_n 0, 1) := by decide +kernel
theorem dX12_isOnTurn_21 : decode cX12_isOnTurn 21 = .ok (.iload_n 3, 1) := by decide +kernel
theorem dX12_isOnTurn_22 : decode cX12_isOnTurn 22 = .ok (.invokevirtual 162, 3) := by decide +kernel
theorem dX12_isOnTurn_25 : decode cX12_isOnTurn 25 = .ok (.ifCond .eq 7, 3) := by decide +kernel
theorem dX12_isOnTurn_28 : decode cX12_isOnTurn 28 = .ok (.iconst 1, 1) := by decide +kernel
theorem dX12_isOnTurn_29 : decode cX12_isOnTurn 29 = .ok (.goto 4, 3) := by decide +kernel
theorem dX12_isOnTurn_32 : decode cX12_isOnTurn 32 = .ok (.iconst 0, 1) := by decide +kernel
theorem dX12_isOnTurn_33 : decode cX12_isOnTurn 33 = .ok (.ireturn, 1) := by decide +kernel
theorem dX12_makeAll_0 : decode cX12_makeAll 0 = .ok (.aload_n 0, 1) := by decide +kernel
theorem dX12_makeAll_1 : decode cX12_makeAll 1 = .ok (.iload_n 1, 1) := by decide +kernel
theorem dX12_makeAll_2 : decode cX12_makeAll 2 = .ok (.iload_n 3, 1) := by decide +kernel
theorem dX12_makeAll_3 : decode cX12_makeAll 3 = .ok (.invokevirtual 431, 3) := by decide +kernel
theorem dX12_makeAll_6 : decode cX12_makeAll 6 = .ok (.ifCond .ne 5, 3) := by decide +kernel
theorem dX12_makeAll_9 : decode cX12_makeAll 9 = .ok (.iconst (-1), 1) := by decide +kernel
theorem dX12_makeAll_10 : decode cX12_makeAll 10 = .ok (.ireturn, 1) := by decide +kernel
theorem dX12_makeAll_11 : decode cX12_makeAll 11 = .ok (.aload_n 0, 1) := by decide +kernel
theorem dX12_makeAll_12 : decode cX12_makeAll 12 = .ok (.iload_n 1, 1) := by decide +kernel
theorem dX12_makeAll_13 : decode cX12_makeAll 13 = .ok (.iconst 0, 1) := by decide +kernel
theorem dX12_makeAll_14 : decode cX12_makeAll 14 = .ok (.invokevirtual 426, 3) := by decide +kernel
theorem dX12_makeAll_17 : decode cX12_makeAll 17 = .ok (.istore 4, 2) := by decide +kernel
theorem dX12_makeAll_19 : decode cX12_makeAll 19 = .ok (.iload 4, 2) := by decide +kernel
theorem dX12_makeAll_21 : decode cX12_makeAll 21 = .ok (.ifCond .eq 6, 3) := by decide +kernel
theorem dX12_makeAll_24 : decode cX12_makeAll 24 = .ok (.iload 4, 2) := by decide +kernel
theorem dX12_makeAll_26 : decode cX12_makeAll 26 = .ok (.ireturn, 1) := by decide +kernel
theorem dX12_makeAll_27 : decode cX12_makeAll 27 = .ok (.iconst 0, 1) := by decide +kernel
theorem dX12_makeAll_28 : decode cX12_makeAll 28 = .ok (.istore 5, 2) := by decide +kernel
theorem dX12_makeAll_30 : decode cX12_makeAll 30 = .ok (.iconst 0, 1) := by decide +kernel
theorem dX12_makeAll_31 : decode cX12_makeAll 31 = .ok (.istore 6, 2) := by decide +kernel
theorem dX12_makeAll_33 : decode cX12_makeAll 33 = .ok (.iload 6, 2) := by decide +kernel
theorem dX12_makeAll_35 : decode cX12_makeAll 35 = .ok (.iload_n 3, 1) := by decide +kernel
theorem dX12_makeAll_36 : decode cX12_makeAll 36 = .ok (.if_icmp .ge 59, 3) := by decide +kernel
theorem dX12_makeAll_39 : decode cX12_makeAll 39 = .ok (.aload_n 0, 1) := by decide +kernel
theorem dX12_makeAll_40 : decode cX12_makeAll 40 = .ok (.iload_n 1, 1) := by decide +kernel
theorem dX12_makeAll_41 : decode cX12_makeAll 41 = .ok (.iload_n 2, 1) := by decide +kernel
theorem dX12_makeAll_42 : decode cX12_makeAll 42 = .ok (.i2l, 1) := by decide +kernel
theorem dX12_makeAll_43 : decode cX12_makeAll 43 = .ok (.iload 6, 2) := by decide +kernel
theorem dX12_makeAll_45 : decode cX12_makeAll 45 = .ok (.i2l, 1) := by decide +kernel
theorem dX12_makeAll_46 : decode cX12_makeAll 46 = .ok (.ladd, 1) := by decide +kernel
theorem dX12_makeAll_47 : decode cX12_makeAll 47 = .ok (.invokevirtual 434, 3) := by decide +kernel
theorem dX12_makeAll_50 : decode cX12_makeAll 50 = .ok (.ifCond .ne 6, 3) := by decide +kernel
theorem dX12_makeAll_53 : decode cX12_makeAll 53 = .ok (.bipush (-12), 2) := by decide +kernel
theorem dX12_makeAll_55 : decode cX12_makeAll 55 = .ok (.ireturn, 1) := by decide +kernel
theorem dX12_makeAll_56 : decode cX12_makeAll 56 = .ok (.aload_n 0, 1) := by decide +kernel
theorem dX12_makeAll_57 : decode cX12_makeAll 57 = .ok (.iload_n 1, 1) := by decide +kernel
theorem dX12_makeAll_58 : decode cX12_makeAll 58 = .ok (.iload_n 2, 1) := by decide +kernel
theorem dX12_makeAll_59 : decode cX12_makeAll 59 = .ok (.iload 6, 2) := by decide +kernel
theorem dX12_makeAll_61 : decode cX12_makeAll 61 = .ok (.iadd, 1) := by decide +kernel
theorem dX12_makeAll_62 : decode cX12_makeAll 62 = .ok (.invokevirtual 438, 3) := by decide +kernel
theorem dX12_makeAll_65 : decode cX12_makeAll 65 = .ok (.ifCond .eq 24, 3) := by decide +kernel
theorem dX12_makeAll_68 : decode cX12_makeAll 68 = .ok (.aload_n 0, 1) := by decide +kernel
theorem dX12_makeAll_69 : decode cX12_makeAll 69 = .ok (.aload_n 0, 1) := by decide +kernel
theorem dX12_makeAll_70 : decode cX12_makeAll 70 = .ok (.getfield 53, 3) := by decide +kernel
theorem dX12_makeAll_73 : decode cX12_makeAll 73 = .ok (.bipush 40, 2) := by decide +kernel
theorem dX12_makeAll_75 : decode cX12_makeAll 75 = .ok (.iload_n 1, 1) := by decide +kernel
theorem dX12_makeAll_76 : decode cX12_makeAll 76 = .ok (.imul, 1) := by decide +kernel
theorem dX12_makeAll_77 : decode cX12_makeAll 77 = .ok (.iload_n 2, 1) := by decide +kernel
theorem dX12_makeAll_78 : decode cX12_makeAll 78 = .ok (.iadd, 1) := by decide +kernel
theorem dX12_makeAll_79 : decode cX12_makeAll 79 = .ok (.iload 6, 2) := by decide +kernel
theorem dX12_makeAll_81 : decode cX12_makeAll 81 = .ok (.iadd, 1) := by decide +kernel
theorem dX12_makeAll_82 : decode cX12_makeAll 82 = .ok (.iaload, 1) := by decide +kernel
theorem dX12_makeAll_83 : decode cX12_makeAll 83 = .ok (.invokevirtual 182, 3) := by decide +kernel
theorem dX12_makeAll_86 : decode cX12_makeAll 86 = .ok (.iinc 5 1, 3) := by decide +kernel
theorem dX12_makeAll_89 : decode cX12_makeAll 89 = .ok (.iinc 6 1, 3) := by decide +kernel
theorem dX12_makeAll_92 : decode cX12_makeAll 92 = .ok (.goto (-59), 3) := by decide +kernel
theorem dX12_makeAll_95 : decode cX12_makeAll 95 = .ok (.iload 5, 2) := by decide +kernel
theorem dX12_makeAll_97 : decode cX12_makeAll 97 = .ok (.ireturn, 1) := by decide +kernel
theorem dX12_wouldCost_0 : decode cX12_wouldCost 0 = .ok (.aload_n 0, 1) := by decide +kernel
theorem dX12_wouldCost_1 : decode cX12_wouldCost 1 = .ok (.iload_n 1, 1) := by decide +kernel
theorem dX12_wouldCost_2 : decode cX12_wouldCost 2 = .ok (.iload_n 3, 1) := by decide +kernel
theorem dX12_wouldCost_3 : decode cX12_wouldCost 3 = .ok (.invokevirtual 431, 3) := by decide +kernel
theorem dX12_wouldCost_6 : decode cX12_wouldCost 6 = .ok (.ifCond .ne 5, 3) := by decide +kernel
theorem dX12_wouldCost_9 : decode cX12_wouldCost 9 = .ok (.iconst (-1), 1) := by decide +kernel
theorem dX12_wouldCost_10 : decode cX12_wouldCost 10 = .ok (.ireturn, 1) := by decide +kernel
theorem dX12_wouldCost_11 : decode cX12_wouldCost 11 = .ok (.aload_n 0, 1) := by decide +kernel
theorem dX12_wouldCost_12 : decode cX12_wouldCost 12 = .ok (.iload_n 1, 1) := by decide +kernel
theorem dX12_wouldCost_13 : decode cX12_wouldCost 13 = .ok (.iconst 0, 1) := by decide +kernel
theorem dX12_wouldCost_14 : decode cX12_wouldCost 14 = .ok (.invokevirtual 426, 3) := by decide +kernel
theorem dX12_wouldCost_17 : decode cX12_wouldCost 17 = .ok (.istore 4, 2) := by decide +kernel
theorem dX12_wouldCost_19 : decode cX12_wouldCost 19 = .ok (.iload 4, 2) := by decide +kernel
theorem dX12_wouldCost_21 : decode cX12_wouldCost 21 = .ok (.ifCond .eq 6, 3) := by decide +kernel
theorem dX12_wouldCost_24 : decode cX12_wouldCost 24 = .ok (.iload 4, 2) := by decide +kernel
theorem dX12_wouldCost_26 : decode cX12_wouldCost 26 = .ok (.ireturn, 1) := by decide +kernel
theorem dX12_wouldCost_27 : decode cX12_wouldCost 27 = .ok (.aload_n 0, 1) := by decide +kernel
theorem dX12_wouldCost_28 : decode cX12_wouldCost 28 = .ok (.invokevirtual 280, 3) := by decide +kernel
theorem dX12_wouldCost_31 : decode cX12_wouldCost 31 = .ok (.iconst 0, 1) := by decide +kernel
theorem dX12_wouldCost_32 : decode cX12_wouldCost 32 = .ok (.istore 5, 2) := by decide +kernel
theorem dX12_wouldCost_34 : decode cX12_wouldCost 34 = .ok (.iconst 0, 1) := by decide +kernel
theorem dX12_wouldCost_35 : decode cX12_wouldCost 35 = .ok (.istore 6, 2) := by decide +kernel
theorem dX12_wouldCost_37 : decode cX12_wouldCost 37 = .ok (.iload 6, 2) := by decide +kernel
theorem dX12_wouldCost_39 : decode cX12_wouldCost 39 = .ok (.iload_n 3, 1) := by decide +kernel
theorem dX12_wouldCost_40 : decode cX12_wouldCost 40 = .ok (.if_icmp .ge 89, 3) := by decide +kernel
theorem dX12_wouldCost_43 : decode cX12_wouldCost 43 = .ok (.iload 4, 2) := by decide +kernel
theorem dX12_wouldCost_45 : decode cX12_wouldCost 45 = .ok (.ifCond .ne 84, 3) := by decide +kernel
theorem dX12_wouldCost_48 : decode cX12_wouldCost 48 = .ok (.aload_n 0, 1) := by decide +kernel
theorem dX12_wouldCost_49 : decode cX12_wouldCost 49 = .ok (.iload_n 1, 1) := by decide +kernel
theorem dX12_wouldCost_50 : decode cX12_wouldCost 50 = .ok (.iload_n 2, 1) := by decide +kernel
theorem dX12_wouldCost_51 : decode cX12_wouldCost 51 = .ok (.i2l, 1) := by decide +kernel
theorem dX12_wouldCost_52 : decode cX12_wouldCost 52 = .ok (.iload 6, 2) := by decide +kernel
theorem dX12_wouldCost_54 : decode cX12_wouldCost 54 = .ok (.i2l, 1) := by decide +kernel
theorem dX12_wouldCost_55 : decode cX12_wouldCost 55 = .ok (.ladd, 1) := by decide +kernel
theorem dX12_wouldCost_56 : decode cX12_wouldCost 56 = .ok (.invokevirtual 434, 3) := by decide +kernel
theorem dX12_wouldCost_59 : decode cX12_wouldCost 59 = .ok (.istore 7, 2) := by decide +kernel
theorem dX12_wouldCost_61 : decode cX12_wouldCost 61 = .ok (.iload 7, 2) := by decide +kernel
theorem dX12_wouldCost_63 : decode cX12_wouldCost 63 = .ok (.ifCond .ne 8, 3) := by decide +kernel
theorem dX12_wouldCost_66 : decode cX12_wouldCost 66 = .ok (.bipush (-12), 2) := by decide +kernel
theorem dX12_wouldCost_68 : decode cX12_wouldCost 68 = .ok (.goto 21, 3) := by decide +kernel
theorem dX12_wouldCost_71 : decode cX12_wouldCost 71 = .ok (.aload_n 0, 1) := by decide +kernel
theorem dX12_wouldCost_72 : decode cX12_wouldCost 72 = .ok (.iload_n 1, 1) := by decide +kernel
theorem dX12_wouldCost_73 : decode cX12_wouldCost 73 = .ok (.iload_n 2, 1) := by decide +kernel
theorem dX12_wouldCost_74 : decode cX12_wouldCost 74 = .ok (.iload 6, 2) := by decide +kernel
theorem dX12_wouldCost_76 : decode cX12_wouldCost 76 = .ok (.iadd, 1) := by decide +kernel
theorem dX12_wouldCost_77 : decode cX12_wouldCost 77 = .ok (.invokevirtual 438, 3) := by decide +kernel
theorem dX12_wouldCost_80 : decode cX12_wouldCost 80 = .ok (.ifCond .ne 8, 3) := by decide +kernel
theorem dX12_wouldCost_83 : decode cX12_wouldCost 83 = .ok (.bipush (-4), 2) := by decide +kernel
theorem dX12_wouldCost_85 : decode cX12_wouldCost 85 = .ok (.goto 4, 3) := by decide +kernel
theorem dX12_wouldCost_88 : decode cX12_wouldCost 88 = .ok (.iconst 0, 1) := by decide +kernel
theorem dX12_wouldCost_89 : decode cX12_wouldCost 89 = .ok (.istore 4, 2) := by decide +kernel
theorem dX12_wouldCost_91 : decode cX12_wouldCost 91 = .ok (.iload 4, 2) := by decide +kernel
theorem dX12_wouldCost_93 : decode cX12_wouldCost 93 = .ok (.ifCond .ne 30, 3) := by decide +kernel
theorem dX12_wouldCost_96 : decode cX12_wouldCost 96 = .ok (.aload_n 0, 1) := by decide +kernel
theorem dX12_wouldCost_97 : decode cX12_wouldCost 97 = .ok (.aload_n 0, 1) := by decide +kernel
theorem dX12_wouldCost_98 : decode cX12_wouldCost 98 = .ok (.getfield 53, 3) := by decide +kernel
theorem dX12_wouldCost_101 : decode cX12_wouldCost 101 = .ok (.bipush 40, 2) := by decide +kernel
theorem dX12_wouldCost_103 : decode cX12_wouldCost 103 = .ok (.iload_n 1, 1) := by decide +kernel
theorem dX12_wouldCost_104 : decode cX12_wouldCost 104 = .ok (.imul, 1) := by decide +kernel
theorem dX12_wouldCost_105 : decode cX12_wouldCost 105 = .ok (.iload_n 2, 1) := by decide +kernel
theorem dX12_wouldCost_106 : decode cX12_wouldCost 106 = .ok (.iadd, 1) := by decide +kernel
theorem dX12_wouldCost_107 : decode cX12_wouldCost 107 = .ok (.iload 6, 2) := by decide +kernel
theorem dX12_wouldCost_109 : decode cX12_wouldCost 109 = .ok (.iadd, 1) := by decide +kernel
theorem dX12_wouldCost_110 : decode cX12_wouldCost 110 = .ok (.iaload, 1) := by decide +kernel
theorem dX12_wouldCost_111 : decode cX12_wouldCost 111 = .ok (.invokevirtual 175, 3) := by decide +kernel
theorem dX12_wouldCost_114 : decode cX12_wouldCost 114 = .ok (.iload 5, 2) := by decide +kernel
theorem dX12_wouldCost_116 : decode cX12_wouldCost 116 = .ok (.aload_n 0, 1) := by decide +kernel
theorem dX12_wouldCost_117 : decode cX12_wouldCost 117 = .ok (.getfield 168, 3) := by decide +kernel
theorem dX12_wouldCost_120 : decode cX12_wouldCost 120 = .ok (.iadd, 1) := by decide +kernel
theorem dX12_wouldCost_121 : decode cX12_wouldCost 121 = .ok (.istore 5, 2) := by decide +kernel
theorem dX12_wouldCost_123 : decode cX12_wouldCost 123 = .ok (.iinc 6 1, 3) := by decide +kernel
theorem dX12_wouldCost_126 : decode cX12_wouldCost 126 = .ok (.goto (-89), 3) := by decide +kernel
theorem dX12_wouldCost_129 : decode cX12_wouldCost 129 = .ok (.aload_n 0, 1) := by decide +kernel
theorem dX12_wouldCost_130 : decode cX12_wouldCost 130 = .ok (.invokevirtual 283, 3) := by decide +kernel
theorem dX12_wouldCost_133 : decode cX12_wouldCost 133 = .ok (.iload 4, 2) := by decide +kernel
theorem dX12_wouldCost_135 : decode cX12_wouldCost 135 = .ok (.ifCond .eq 8, 3) := by decide +kernel
theorem dX12_wouldCost_138 : decode cX12_wouldCost 138 = .ok (.iload 4, 2) := by decide +kernel
theorem dX12_wouldCost_140 : decode cX12_wouldCost 140 = .ok (.goto 5, 3) := by decide +kernel
theorem dX12_wouldCost_143 : decode cX12_wouldCost 143 = .ok (.iload 5, 2) := by decide +kernel
theorem dX12_wouldCost_145 : decode cX12_wouldCost 145 = .ok (.ireturn, 1) := by decide +kernel
theorem dX12_shelf_0 : decode cX12_shelf 0 = .ok (.iload_n 1, 1) := by decide +kernel
theorem dX12_shelf_1 : decode cX12_shelf 1 = .ok (.invokestatic 418, 3) := by decide +kernel
theorem dX12_shelf_4 : decode cX12_shelf 4 = .ok (.ifCond .eq 39, 3) := by decide +kernel
theorem dX12_shelf_7 : decode cX12_shelf 7 = .ok (.iload_n 2, 1) := by decide +kernel
theorem dX12_shelf_8 : decode cX12_shelf 8 = .ok (.i2l, 1) := by decide +kernel
theorem dX12_shelf_9 : decode cX12_shelf 9 = .ok (.lconst 0, 1) := by decide +kernel
theorem dX12_shelf_10 : decode cX12_shelf 10 = .ok (.ldc2_w 231, 3) := by decide +kernel
theorem dX12_shelf_13 : decode cX12_shelf 13 = .ok (.invokestatic 68, 3) := by decide +kernel
theorem dX12_shelf_16 : decode cX12_shelf 16 = .ok (.ifCond .eq 27, 3) := by decide +kernel
theorem dX12_shelf_19 : decode cX12_shelf 19 = .ok (.iload_n 2, 1) := by decide +kernel
theorem dX12_shelf_20 : decode cX12_shelf 20 = .ok (.ifCond .ne 11, 3) := by decide +kernel
theorem dX12_shelf_23 : decode cX12_shelf 23 = .ok (.aload_n 0, 1) := by decide +kernel
theorem dX12_shelf_24 : decode cX12_shelf 24 = .ok (.iload_n 3, 1) := by decide +kernel
theorem dX12_shelf_25 : decode cX12_shelf 25 = .ok (.invokevirtual 123, 3) := by decide +kernel
theorem dX12_shelf_28 : decode cX12_shelf 28 = .ok (.ifCond .eq 15, 3) := by decide +kernel
theorem dX12_shelf_31 : decode cX12_shelf 31 = .ok (.iload_n 2, 1) := by decide +kernel
theorem dX12_shelf_32 : decode cX12_shelf 32 = .ok (.iconst 1, 1) := by decide +kernel
theorem dX12_shelf_33 : decode cX12_shelf 33 = .ok (.if_icmp .ne 12, 3) := by decide +kernel
theorem dX12_shelf_36 : decode cX12_shelf 36 = .ok (.iload_n 3, 1) := by decide +kernel
theorem dX12_shelf_37 : decode cX12_shelf 37 = .ok (.invokestatic 418, 3) := by decide +kernel
theorem dX12_shelf_40 : decode cX12_shelf 40 = .ok (.ifCond .ne 5, 3) := by decide +kernel
theorem dX12_shelf_43 : decode cX12_shelf 43 = .ok (.iconst (-1), 1) := by decide +kernel
theorem dX12_shelf_44 : decode cX12_shelf 44 = .ok (.ireturn, 1) := by decide +kernel
theorem dX12_shelf_45 : decode cX12_shelf 45 = .ok (.aload_n 0, 1) := by decide +kernel
theorem dX12_shelf_46 : decode cX12_shelf 46 = .ok (.getfield 56, 3) := by decide +kernel
theorem dX12_shelf_49 : decode cX12_shelf 49 = .ok (.iload_n 1, 1) := by decide +kernel
theorem dX12_shelf_50 : decode cX12_shelf 50 = .ok (.iload_n 2, 1) := by decide +kernel
theorem dX12_shelf_51 : decode cX12_shelf 51 = .ok (.ifCond .ne 7, 3) := by decide +kernel
theorem dX12_shelf_54 : decode cX12_shelf 54 = .ok (.iconst 1, 1) := by decide +kernel
theorem dX12_shelf_55 : decode cX12_shelf 55 = .ok (.goto 22, 3) := by decide +kernel
theorem dX12_shelf_58 : decode cX12_shelf 58 = .ok (.iload_n 2, 1) := by decide +kernel
theorem dX12_shelf_59 : decode cX12_shelf 59 = .ok (.iconst 1, 1) := by decide +kernel
theorem dX12_shelf_60 : decode cX12_shelf 60 = .ok (.if_icmp .ne 16, 3) := by decide +kernel
theorem dX12_shelf_63 : decode cX12_shelf 63 = .ok (.aload_n 0, 1) := by decide +kernel
theorem dX12_shelf_64 : decode cX12_shelf 64 = .ok (.getfield 47, 3) := by decide +kernel
theorem dX12_shelf_67 : decode cX12_shelf 67 = .ok (.iload_n 3, 1) := by decide +kernel
theorem dX12_shelf_68 : decode cX12_shelf 68 = .ok (.iaload, 1) := by decide +kernel
theorem dX12_shelf_69 : decode cX12_shelf 69 = .ok (.ifCond .lt 7, 3) := by decide +kernel
theorem dX12_shelf_72 : decode cX12_shelf 72 = .ok (.iconst 2, 1) := by decide +kernel
theorem dX12_shelf_73 : decode cX12_shelf 73 = .ok (.goto 4, 3) := by decide +kernel
theorem dX12_shelf_76 : decode cX12_shelf 76 = .ok (.iconst 0, 1) := by decide +kernel
theorem dX12_shelf_77 : decode cX12_shelf 77 = .ok (.iastore, 1) := by decide +kernel
theorem dX12_shelf_78 : decode cX12_shelf 78 = .ok (.aload_n 0, 1) := by decide +kernel
theorem dX12_shelf_79 : decode cX12_shelf 79 = .ok (.getfield 59, 3) := by decide +kernel
theorem dX12_shelf_82 : decode cX12_shelf 82 = .ok (.iload_n 1, 1) := by decide +kernel
theorem dX12_shelf_83 : decode cX12_shelf 83 = .ok (.iload_n 2, 1) := by decide +kernel
theorem dX12_shelf_84 : decode cX12_shelf 84 = .ok (.ifCond .ne 7, 3) := by decide +kernel
theorem dX12_shelf_87 : decode cX12_shelf 87 = .ok (.iload_n 3, 1) := by decide +kernel
theorem dX12_shelf_88 : decode cX12_shelf 88 = .ok (.goto 18, 3) := by decide +kernel
theorem dX12_shelf_91 : decode cX12_shelf 91 = .ok (.iload_n 2, 1) := by decide +kernel
theorem dX12_shelf_92 : decode cX12_shelf 92 = .ok (.iconst 1, 1) := by decide +kernel
theorem dX12_shelf_93 : decode cX12_shelf 93 = .ok (.if_icmp .ne 12, 3) := by decide +kernel
theorem dX12_shelf_96 : decode cX12_shelf 96 = .ok (.aload_n 0, 1) := by decide +kernel
theorem dX12_shelf_97 : decode cX12_shelf 97 = .ok (.getfield 50, 3) := by decide +kernel
theorem dX12_shelf_100 : decode cX12_shelf 100 = .ok (.iload_n 3, 1) := by decide +kernel
theorem dX12_shelf_101 : decode cX12_shelf 101 = .ok (.iaload, 1) := by decide +kernel
theorem dX12_shelf_102 : decode cX12_shelf 102 = .ok (.goto 4, 3) := by decide +kernel
theorem dX12_shelf_105 : decode cX12_shelf 105 = .ok (.iconst 0, 1) := by decide +kernel
theorem dX12_shelf_106 : decode cX12_shelf 106 = .ok (.iastore, 1) := by decide +kernel
theorem dX12_shelf_107 : decode cX12_shelf 107 = .ok (.aload_n 0, 1) := by decide +kernel
theorem dX12_shelf_108 : decode cX12_shelf 108 = .ok (.getfield 62, 3) := by decide +kernel
theorem dX12_shelf_111 : decode cX12_shelf 111 = .ok (.iload_n 1, 1) := by decide +kernel
theorem dX12_shelf_112 : decode cX12_shelf 112 = .ok (.iload_n 2, 1) := by decide +kernel
theorem dX12_shelf_113 : decode cX12_shelf 113 = .ok (.iconst 1, 1) := by decide +kernel
theorem dX12_shelf_114 : decode cX12_shelf 114 = .ok (.if_icmp .ne 12, 3) := by decide +kernel
theorem dX12_shelf_117 : decode cX12_shelf 117 = .ok (.aload_n 0, 1) := by decide +kernel
theorem dX12_shelf_118 : decode cX12_shelf 118 = .ok (.getfield 47, 3) := by decide +kernel
theorem dX12_shelf_121 : decode cX12_shelf 121 = .ok (.iload_n 3, 1) := by decide +kernel
theorem dX12_shelf_122 : decode cX12_shelf 122 = .ok (.iaload, 1) := by decide +kernel
theorem dX12_shelf_123 : decode cX12_shelf 123 = .ok (.goto 4, 3) := by decide +kernel
theorem dX12_shelf_126 : decode cX12_shelf 126 = .ok (.iconst 0, 1) := by decide +kernel
theorem dX12_shelf_127 : decode cX12_shelf 127 = .ok (.iastore, 1) := by decide +kernel
theorem dX12_shelf_128 : decode cX12_shelf 128 = .ok (.iconst 1, 1) := by decide +kernel
theorem dX12_shelf_129 : decode cX12_shelf 129 = .ok (.ireturn, 1) := by decide +kernel
theorem dX12_onShelf_0 : decode cX12_onShelf 0 = .ok (.iload_n 1, 1) := by decide +kernel
theorem dX12_onShelf_1 : decode cX12_onShelf 1 = .ok (.invokestatic 418, 3) := by decide +kernel
theorem dX12_onShelf_4 : decode cX12_onShelf 4 = .ok (.ifCond .eq 35, 3) := by decide +kernel
theorem dX12_onShelf_7 : decode cX12_onShelf 7 = .ok (.aload_n 0, 1) := by decide +kernel
theorem dX12_onShelf_8 : decode cX12_onShelf 8 = .ok (.getfield 56, 3) := by decide +kernel
theorem dX12_onShelf_11 : decode cX12_onShelf 11 = .ok (.iload_n 1, 1) := by decide +kernel
theorem dX12_onShelf_12 : decode cX12_onShelf 12 = .ok (.iaload, 1) := by decide +kernel
theorem dX12_onShelf_13 : decode cX12_onShelf 13 = .ok (.iconst 1, 1) := by decide +kernel
theorem dX12_onShelf_14 : decode cX12_onShelf 14 = .ok (.if_icmp .ne 25, 3) := by decide +kernel
theorem dX12_onShelf_17 : decode cX12_onShelf 17 = .ok (.aload_n 0, 1) := by decide +kernel
theorem dX12_onShelf_18 : decode cX12_onShelf 18 = .ok (.aload_n 0, 1) := by decide +kernel
theorem dX12_onShelf_19 : decode cX12_onShelf 19 = .ok (.getfield 59, 3) := by decide +kernel
theorem dX12_onShelf_22 : decode cX12_onShelf 22 = .ok (.iload_n 1, 1) := by decide +kernel
theorem dX12_onShelf_23 : decode cX12_onShelf 23 = .ok (.iaload, 1) := by decide +kernel
theorem dX12_onShelf_24 : decode cX12_onShelf 24 = .ok (.invokevirtual 123, 3) := by decide +kernel
theorem dX12_onShelf_27 : decode cX12_onShelf 27 = .ok (.ifCond .eq 12, 3) := by decide +kernel
theorem dX12_onShelf_30 : decode cX12_onShelf 30 = .ok (.aload_n 0, 1) := by decide +kernel
theorem dX12_onShelf_31 : decode cX12_onShelf 31 = .ok (.getfield 59, 3) := by decide +kernel
theorem dX12_onShelf_34 : decode cX12_onShelf 34 = .ok (.iload_n 1, 1) := by decide +kernel
theorem dX12_onShelf_35 : decode cX12_onShelf 35 = .ok (.iaload, 1) := by decide +kernel
theorem dX12_onShelf_36 : decode cX12_onShelf 36 = .ok (.goto 4, 3) := by decide +kernel
theorem dX12_onShelf_39 : decode cX12_onShelf 39 = .ok (.iconst (-1), 1) := by decide +kernel
theorem dX12_onShelf_40 : decode cX12_onShelf 40 = .ok (.ireturn, 1) := by decide +kernel
theorem dX12_taken_0 : decode cX12_taken 0 = .ok (.iload_n 1, 1) := by decide +kernel
theorem dX12_taken_1 : decode cX12_taken 1 = .ok (.invokestatic 418, 3) := by decide +kernel
theorem dX12_taken_4 : decode cX12_taken 4 = .ok (.ifCond .eq 29, 3) := by decide +kernel
theorem dX12_taken_7 : decode cX12_taken 7 = .ok (.iload_n 2, 1) := by decide +kernel
theorem dX12_taken_8 : decode cX12_taken 8 = .ok (.i2l, 1) := by decide +kernel
theorem dX12_taken_9 : decode cX12_taken 9 = .ok (.lconst 0, 1) := by decide +kernel
theorem dX12_taken_10 : decode cX12_taken 10 = .ok (.ldc2_w 78, 3) := by decide +kernel
theorem dX12_taken_13 : decode cX12_taken 13 = .ok (.invokestatic 68, 3) := by decide +kernel
theorem dX12_taken_16 : decode cX12_taken 16 = .ok (.ifCond .ne 19, 3) := by decide +kernel
theorem dX12_taken_19 : decode cX12_taken 19 = .ok (.iload_n 2, 1) := by decide +kernel
theorem dX12_taken_20 : decode cX12_taken 20 = .ok (.i2l, 1) := by decide +kernel
theorem dX12_taken_21 : decode cX12_taken 21 = .ok (.ldc2_w 441, 3) := by decide +kernel
theorem dX12_taken_24 : decode cX12_taken 24 = .ok (.ldc2_w 443, 3) := by decide +kernel
theorem dX12_taken_27 : decode cX12_taken 27 = .ok (.invokestatic 68, 3) := by decide +kernel
theorem dX12_taken_30 : decode cX12_taken 30 = .ok (.ifCond .ne 5, 3) := by decide +kernel
theorem dX12_taken_33 : decode cX12_taken 33 = .ok (.iconst (-1), 1) := by decide +kernel
theorem dX12_taken_34 : decode cX12_taken 34 = .ok (.ireturn, 1) := by decide +kernel
theorem dX12_taken_35 : decode cX12_taken 35 = .ok (.aload_n 0, 1) := by decide +kernel
theorem dX12_taken_36 : decode cX12_taken 36 = .ok (.iload_n 1, 1) := by decide +kernel
theorem dX12_taken_37 : decode cX12_taken 37 = .ok (.invokevirtual 445, 3) := by decide +kernel
theorem dX12_taken_40 : decode cX12_taken 40 = .ok (.istore_n 3, 1) := by decide +kernel
theorem dX12_taken_41 : decode cX12_taken 41 = .ok (.iload_n 3, 1) := by decide +kernel
theorem dX12_taken_42 : decode cX12_taken 42 = .ok (.ifCond .ge 16, 3) := by decide +kernel
theorem dX12_taken_45 : decode cX12_taken 45 = .ok (.aload_n 0, 1) := by decide +kernel
theorem dX12_taken_46 : decode cX12_taken 46 = .ok (.getfield 56, 3) := by decide +kernel
theorem dX12_taken_49 : decode cX12_taken 49 = .ok (.iload_n 1, 1) := by decide +kernel
theorem dX12_taken_50 : decode cX12_taken 50 = .ok (.iaload, 1) := by decide +kernel
theorem dX12_taken_51 : decode cX12_taken 51 = .ok (.iconst 2, 1) := by decide +kernel
theorem dX12_taken_52 : decode cX12_taken 52 = .ok (.if_icmp .ge 6, 3) := by decide +kernel
theorem dX12_taken_55 : decode cX12_taken 55 = .ok (.bipush (-11), 2) := by decide +kernel
theorem dX12_taken_57 : decode cX12_taken 57 = .ok (.ireturn, 1) := by decide +kernel
theorem dX12_taken_58 : decode cX12_taken 58 = .ok (.iload_n 3, 1) := by decide +kernel
theorem dX12_taken_59 : decode cX12_taken 59 = .ok (.ifCond .lt 30, 3) := by decide +kernel
theorem dX12_taken_62 : decode cX12_taken 62 = .ok (.iload_n 2, 1) := by decide +kernel
theorem dX12_taken_63 : decode cX12_taken 63 = .ok (.bipush 6, 2) := by decide +kernel
theorem dX12_taken_65 : decode cX12_taken 65 = .ok (.if_icmp .ge 20, 3) := by decide +kernel
theorem dX12_taken_68 : decode cX12_taken 68 = .ok (.aload_n 0, 1) := by decide +kernel
theorem dX12_taken_69 : decode cX12_taken 69 = .ok (.iload_n 3, 1) := by decide +kernel
theorem dX12_taken_70 : decode cX12_taken 70 = .ok (.iconst 0, 1) := by decide +kernel
theorem dX12_taken_71 : decode cX12_taken 71 = .ok (.invokevirtual 93, 3) := by decide +kernel
theorem dX12_taken_74 : decode cX12_taken 74 = .ok (.iload_n 2, 1) := by decide +kernel
theorem dX12_taken_75 : decode cX12_taken 75 = .ok (.invokestatic 114, 3) := by decide +kernel
theorem dX12_taken_78 : decode cX12_taken 78 = .ok (.ifCond .eq 7, 3) := by decide +kernel
theorem dX12_taken_81 : decode cX12_taken 81 = .ok (.iconst 1, 1) := by decide +kernel
theorem dX12_taken_82 : decode cX12_taken 82 = .ok (.goto 25, 3) := by decide +kernel
theorem dX12_taken_85 : decode cX12_taken 85 = .ok (.iconst 0, 1) := by decide +kernel
theorem dX12_taken_86 : decode cX12_taken 86 = .ok (.goto 21, 3) := by decide +kernel
theorem dX12_taken_89 : decode cX12_taken 89 = .ok (.iload_n 2, 1) := by decide +kernel
theorem dX12_taken_90 : decode cX12_taken 90 = .ok (.bipush 10, 2) := by decide +kernel
theorem dX12_taken_92 : decode cX12_taken 92 = .ok (.isub, 1) := by decide +kernel
theorem dX12_taken_93 : decode cX12_taken 93 = .ok (.aload_n 0, 1) := by decide +kernel
theorem dX12_taken_94 : decode cX12_taken 94 = .ok (.getfield 62, 3) := by decide +kernel
theorem dX12_taken_97 : decode cX12_taken 97 = .ok (.iload_n 1, 1) := by decide +kernel
theorem dX12_taken_98 : decode cX12_taken 98 = .ok (.iaload, 1) := by decide +kernel
theorem dX12_taken_99 : decode cX12_taken 99 = .ok (.if_icmp .ne 7, 3) := by decide +kernel
theorem dX12_taken_102 : decode cX12_taken 102 = .ok (.iconst 1, 1) := by decide +kernel
theorem dX12_taken_103 : decode cX12_taken 103 = .ok (.goto 4, 3) := by decide +kernel
theorem dX12_taken_106 : decode cX12_taken 106 = .ok (.iconst 0, 1) := by decide +kernel
theorem dX12_taken_107 : decode cX12_taken 107 = .ok (.istore 4, 2) := by decide +kernel
theorem dX12_taken_109 : decode cX12_taken 109 = .ok (.iload 4, 2) := by decide +kernel
theorem dX12_taken_111 : decode cX12_taken 111 = .ok (.ifCond .eq 12, 3) := by decide +kernel
theorem dX12_taken_114 : decode cX12_taken 114 = .ok (.aload_n 0, 1) := by decide +kernel
theorem dX12_taken_115 : decode cX12_taken 115 = .ok (.getfield 59, 3) := by decide +kernel
theorem dX12_taken_118 : decode cX12_taken 118 = .ok (.iload_n 1, 1) := by decide +kernel
theorem dX12_taken_119 : decode cX12_taken 119 = .ok (.iaload, 1) := by decide +kernel
theorem dX12_taken_120 : decode cX12_taken 120 = .ok (.goto 5, 3) := by decide +kernel
theorem dX12_taken_123 : decode cX12_taken 123 = .ok (.bipush (-13), 2) := by decide +kernel
theorem dX12_taken_125 : decode cX12_taken 125 = .ok (.ireturn, 1) := by decide +kernel
theorem dX12_runs_0 : decode cX12_runs 0 = .ok (.aload_n 0, 1) := by decide +kernel
theorem dX12_runs_1 : decode cX12_runs 1 = .ok (.getfield 448, 3) := by decide +kernel
theorem dX12_runs_4 : decode cX12_runs 4 = .ok (.ifCond .ne 32, 3) := by decide +kernel
theorem dX12_runs_7 : decode cX12_runs 7 = .ok (.aload_n 0, 1) := by decide +kernel
theorem dX12_runs_8 : decode cX12_runs 8 = .ok (.getfield 451, 3) := by decide +kernel
theorem dX12_runs_11 : decode cX12_runs 11 = .ok (.bipush 30, 2) := by decide +kernel
theorem dX12_runs_13 : decode cX12_runs 13 = .ok (.if_icmp .ge 13, 3) := by decide +kernel
theorem dX12_runs_16 : decode cX12_runs 16 = .ok (.aload_n 0, 1) := by decide +kernel
theorem dX12_runs_17 : decode cX12_runs 17 = .ok (.getfield 65, 3) := by decide +kernel
theorem dX12_runs_20 : decode cX12_runs 20 = .ok (.aload_n 0, 1) := by decide +kernel
theorem dX12_runs_21 : decode cX12_runs 21 = .ok (.getfield 451, 3) := by decide +kernel
theorem dX12_runs_24 : decode cX12_runs 24 = .ok (.iload_n 1, 1) := by decide +kernel
theorem dX12_runs_25 : decode cX12_runs 25 = .ok (.iastore, 1) := by decide +kernel
theorem dX12_runs_26 : decode cX12_runs 26 = .ok (.aload_n 0, 1) := by decide +kernel
theorem dX12_runs_27 : decode cX12_runs 27 = .ok (.dup, 1) := by decide +kernel
theorem dX12_runs_28 : decode cX12_runs 28 = .ok (.getfield 451, 3) := by decide +kernel
theorem dX12_runs_31 : decode cX12_runs 31 = .ok (.iconst 1, 1) := by decide +kernel
theorem dX12_runs_32 : decode cX12_runs 32 = .ok (.iadd, 1) := by decide +kernel
theorem dX12_runs_33 : decode cX12_runs 33 = .ok (.putfield 451, 3) := by decide +kernel
theorem dX12_runs_36 : decode cX12_runs 36 = .ok (.return_, 1) := by decide +kernel
theorem dX12_gives_0 : decode cX12_gives 0 = .ok (.aload_n 0, 1) := by decide +kernel
theorem dX12_gives_1 : decode cX12_gives 1 = .ok (.getfield 454, 3) := by decide +kernel
theorem dX12_gives_4 : decode cX12_gives 4 = .ok (.iconst 1, 1) := by decide +kernel
theorem dX12_gives_5 : decode cX12_gives 5 = .ok (.if_icmp .ne 9, 3) := by decide +kernel
theorem dX12_gives_8 : decode cX12_gives 8 = .ok (.aload_n 0, 1) := by decide +kernel
theorem dX12_gives_9 : decode cX12_gives 9 = .ok (.bipush 20, 2) := by decide +kernel
theorem dX12_gives_11 : decode cX12_gives 11 = .ok (.invokevirtual 457, 3) := by decide +kernel
theorem dX12_gives_14 : decode cX12_gives 14 = .ok (.aload_n 0, 1) := by decide +kernel
theorem dX12_gives_15 : decode cX12_gives 15 = .ok (.getfield 454, 3) := by decide +kernel
theorem dX12_gives_18 : decode cX12_gives 18 = .ok (.iconst 3, 1) := by decide +kernel
theorem dX12_gives_19 : decode cX12_gives 19 = .ok (.if_icmp .ne 9, 3) := by decide +kernel
theorem dX12_gives_22 : decode cX12_gives 22 = .ok (.aload_n 0, 1) := by decide +kernel
theorem dX12_gives_23 : decode cX12_gives 23 = .ok (.bipush 50, 2) := by decide +kernel
theorem dX12_gives_25 : decode cX12_gives 25 = .ok (.invokevirtual 457, 3) := by decide +kernel
theorem dX12_gives_28 : decode cX12_gives 28 = .ok (.aload_n 0, 1) := by decide +kernel
theorem dX12_gives_29 : decode cX12_gives 29 = .ok (.bipush 10, 2) := by decide +kernel
theorem dX12_gives_31 : decode cX12_gives 31 = .ok (.invokevirtual 457, 3) := by decide +kernel
theorem dX12_gives_34 : decode cX12_gives 34 = .ok (.iload_n 1, 1) := by decide +kernel
theorem dX12_gives_35 : decode cX12_gives 35 = .ok (.aload_n 0, 1) := by decide +kernel
theorem dX12_gives_36 : decode cX12_gives 36 = .ok (.getfield 460, 3) := by decide +kernel
theorem dX12_gives_39 : decode cX12_gives 39 = .ok (.iadd, 1) := by decide +kernel
theorem dX12_gives_40 : decode cX12_gives 40 = .ok (.istore_n 2, 1) := by decide +kernel
theorem dX12_gives_41 : decode cX12_gives 41 = .ok (.aload_n 0, 1) := by decide +kernel
theorem dX12_gives_42 : decode cX12_gives 42 = .ok (.getfield 454, 3) := by decide +kernel
theorem dX12_gives_45 : decode cX12_gives 45 = .ok (.iconst 1, 1) := by decide +kernel
theorem dX12_gives_46 : decode cX12_gives 46 = .ok (.if_icmp .ne 9, 3) := by decide +kernel
theorem dX12_gives_49 : decode cX12_gives 49 = .ok (.iload_n 2, 1) := by decide +kernel
theorem dX12_gives_50 : decode cX12_gives 50 = .ok (.iconst 2, 1) := by decide +kernel
theorem dX12_gives_51 : decode cX12_gives 51 = .ok (.imul, 1) := by decide +kernel
theorem dX12_gives_52 : decode cX12_gives 52 = .ok (.goto 18, 3) := by decide +kernel
theorem dX12_gives_55 : decode cX12_gives 55 = .ok (.aload_n 0, 1) := by decide +kernel
theorem dX12_gives_56 : decode cX12_gives 56 = .ok (.getfield 454, 3) := by decide +kernel
theorem dX12_gives_59 : decode cX12_gives 59 = .ok (.iconst 3, 1) := by decide +kernel
theorem dX12_gives_60 : decode cX12_gives 60 = .ok (.if_icmp .ne 9, 3) := by decide +kernel
theorem dX12_gives_63 : decode cX12_gives 63 = .ok (.iload_n 2, 1) := by decide +kernel
theorem dX12_gives_64 : decode cX12_gives 64 = .ok (.iconst 1, 1) := by decide +kernel
theorem dX12_gives_65 : decode cX12_gives 65 = .ok (.isub, 1) := by decide +kernel
theorem dX12_gives_66 : decode cX12_gives 66 = .ok (.goto 4, 3) := by decide +kernel
theorem dX12_gives_69 : decode cX12_gives 69 = .ok (.iload_n 2, 1) := by decide +kernel
theorem dX12_gives_70 : decode cX12_gives 70 = .ok (.ireturn, 1) := by decide +kernel
theorem dX12_takes_0 : decode cX12_takes 0 = .ok (.aload_n 0, 1) := by decide +kernel
theorem dX12_takes_1 : decode cX12_takes 1 = .ok (.getfield 454, 3) := by decide +kernel
theorem dX12_takes_4 : decode cX12_takes 4 = .ok (.iconst 2, 1) := by decide +kernel
theorem dX12_takes_5 : decode cX12_takes 5 = .ok (.if_icmp .eq 11, 3) := by decide +kernel
theorem dX12_takes_8 : decode cX12_takes 8 = .ok (.aload_n 0, 1) := by decide +kernel
theorem dX12_takes_9 : decode cX12_takes 9 = .ok (.getfield 454, 3) := by decide +kernel
theorem dX12_takes_12 : decode cX12_takes 12 = .ok (.iconst 3, 1) := by decide +kernel
theorem dX12_takes_13 : decode cX12_takes 13 = .ok (.if_icmp .ne 7, 3) := by decide +kernel
theorem dX12_takes_16 : decode cX12_takes 16 = .ok (.iconst 1, 1) := by decide +kernel
theorem dX12_takes_17 : decode cX12_takes 17 = .ok (.goto 4, 3) := by decide +kernel
theorem dX12_takes_20 : decode cX12_takes 20 = .ok (.iconst 0, 1) := by decide +kernel
theorem dX12_takes_21 : decode cX12_takes 21 = .ok (.istore_n 2, 1) := by decide +kernel
theorem dX12_takes_22 : decode cX12_takes 22 = .ok (.iload_n 2, 1) := by decide +kernel
theorem dX12_takes_23 : decode cX12_takes 23 = .ok (.ifCond .eq 9, 3) := by decide +kernel
theorem dX12_takes_26 : decode cX12_takes 26 = .ok (.aload_n 0, 1) := by decide +kernel
theorem dX12_takes_27 : decode cX12_takes 27 = .ok (.bipush 30, 2) := by decide +kernel
theorem dX12_takes_29 : decode cX12_takes 29 = .ok (.invokevirtual 457, 3) := by decide +kernel
theorem dX12_takes_32 : decode cX12_takes 32 = .ok (.aload_n 0, 1) := by decide +kernel
theorem dX12_takes_33 : decode cX12_takes 33 = .ok (.getfield 454, 3) := by decide +kernel
theorem dX12_takes_36 : decode cX12_takes 36 = .ok (.iconst 5, 1) := by decide +kernel
theorem dX12_takes_37 : decode cX12_takes 37 = .ok (.if_icmp .ne 9, 3) := by decide +kernel
theorem dX12_takes_40 : decode cX12_takes 40 = .ok (.aload_n 0, 1) := by decide +kernel
theorem dX12_takes_41 : decode cX12_takes 41 = .ok (.bipush 60, 2) := by decide +kernel
theorem dX12_takes_43 : decode cX12_takes 43 = .ok (.invokevirtual 457, 3) := by decide +kernel
theorem dX12_takes_46 : decode cX12_takes 46 = .ok (.aload_n 0, 1) := by decide +kernel
theorem dX12_takes_47 : decode cX12_takes 47 = .ok (.bipush 11, 2) := by decide +kernel
theorem dX12_takes_49 : decode cX12_takes 49 = .ok (.invokevirtual 457, 3) := by decide +kernel
theorem dX12_takes_52 : decode cX12_takes 52 = .ok (.aload_n 0, 1) := by decide +kernel
theorem dX12_takes_53 : decode cX12_takes 53 = .ok (.iload_n 1, 1) := by decide +kernel
theorem dX12_takes_54 : decode cX12_takes 54 = .ok (.invokevirtual 463, 3) := by decide +kernel
theorem dX12_takes_57 : decode cX12_takes 57 = .ok (.aload_n 0, 1) := by decide +kernel
theorem dX12_takes_58 : decode cX12_takes 58 = .ok (.getfield 466, 3) := by decide +kernel
theorem dX12_takes_61 : decode cX12_takes 61 = .ok (.isub, 1) := by decide +kernel
theorem dX12_takes_62 : decode cX12_takes 62 = .ok (.istore_n 3, 1) := by decide +kernel
theorem dX12_takes_63 : decode cX12_takes 63 = .ok (.iload_n 2, 1) := by decide +kernel
theorem dX12_takes_64 : decode cX12_takes 64 = .ok (.ifCond .eq 12, 3) := by decide +kernel
theorem dX12_takes_67 : decode cX12_takes 67 = .ok (.iload_n 3, 1) := by decide +kernel
theorem dX12_takes_68 : decode cX12_takes 68 = .ok (.aload_n 0, 1) := by decide +kernel
theorem dX12_takes_69 : decode cX12_takes 69 = .ok (.getfield 466, 3) := by decide +kernel
theorem dX12_takes_72 : decode cX12_takes 72 = .ok (.ixor, 1) := by decide +kernel
theorem dX12_takes_73 : decode cX12_takes 73 = .ok (.goto 18, 3) := by decide +kernel
theorem dX12_takes_76 : decode cX12_takes 76 = .ok (.aload_n 0, 1) := by decide +kernel
theorem dX12_takes_77 : decode cX12_takes 77 = .ok (.getfield 454, 3) := by decide +kernel
theorem dX12_takes_80 : decode cX12_takes 80 = .ok (.iconst 5, 1) := by decide +kernel
theorem dX12_takes_81 : decode cX12_takes 81 = .ok (.if_icmp .ne 9, 3) := by decide +kernel
theorem dX12_takes_84 : decode cX12_takes 84 = .ok (.iconst 0, 1) := by decide +kernel
theorem dX12_takes_85 : decode cX12_takes 85 = .ok (.iload_n 3, 1) := by decide +kernel
theorem dX12_takes_86 : decode cX12_takes 86 = .ok (.isub, 1) := by decide +kernel
theorem dX12_takes_87 : decode cX12_takes 87 = .ok (.goto 4, 3) := by decide +kernel
theorem dX12_takes_90 : decode cX12_takes 90 = .ok (.iload_n 3, 1) := by decide +kernel
theorem dX12_takes_91 : decode cX12_takes 91 = .ok (.ireturn, 1) := by decide +kernel
theorem dX12_plainHalves_0 : decode cX12_plainHalves 0 = .ok (.aload_n 0, 1) := by decide +kernel
theorem dX12_plainHalves_1 : decode cX12_plainHalves 1 = .ok (.bipush 12, 2) := by decide +kernel
theorem dX12_plainHalves_3 : decode cX12_plainHalves 3 = .ok (.invokevirtual 457, 3) := by decide +kernel
theorem dX12_plainHalves_6 : decode cX12_plainHalves 6 = .ok (.aload_n 0, 1) := by decide +kernel
theorem dX12_plainHalves_7 : decode cX12_plainHalves 7 = .ok (.getfield 460, 3) := by decide +kernel
theorem dX12_plainHalves_10 : decode cX12_plainHalves 10 = .ok (.aload_n 0, 1) := by decide +kernel
theorem dX12_plainHalves_11 : decode cX12_plainHalves 11 = .ok (.getfield 466, 3) := by decide +kernel
theorem dX12_plainHalves_14 : decode cX12_plainHalves 14 = .ok (.if_icmp .ne 10, 3) := by decide +kernel
theorem dX12_plainHalves_17 : decode cX12_plainHalves 17 = .ok (.aload_n 0, 1) := by decide +kernel
theorem dX12_plainHalves_18 : decode cX12_plainHalves 18 = .ok (.iconst 1, 1) := by decide +kernel
theorem dX12_plainHalves_19 : decode cX12_plainHalves 19 = .ok (.putfield 448, 3) := by decide +kernel
theorem dX12_plainHalves_22 : decode cX12_plainHalves 22 = .ok (.iconst 0, 1) := by decide +kernel
theorem dX12_plainHalves_23 : decode cX12_plainHalves 23 = .ok (.ireturn, 1) := by decide +kernel
theorem dX12_plainHalves_24 : decode cX12_plainHalves 24 = .ok (.iload_n 1, 1) := by decide +kernel
theorem dX12_plainHalves_25 : decode cX12_plainHalves 25 = .ok (.aload_n 0, 1) := by decide +kernel
theorem dX12_plainHalves_26 : decode cX12_plainHalves 26 = .ok (.getfield 460, 3) := by decide +kernel
theorem dX12_plainHalves_29 : decode cX12_plainHalves 29 = .ok (.aload_n 0, 1) := by decide +kernel
theorem dX12_plainHalves_30 : decode cX12_plainHalves 30 = .ok (.getfield 466, 3) := by decide +kernel
theorem dX12_plainHalves_33 : decode cX12_plainHalves 33 = .ok (.isub, 1) := by decide +kernel
theorem dX12_plainHalves_34 : decode cX12_plainHalves 34 = .ok (.idiv, 1) := by decide +kernel
theorem dX12_plainHalves_35 : decode cX12_plainHalves 35 = .ok (.ireturn, 1) := by decide +kernel
theorem dX12_halves_0 : decode cX12_halves 0 = .ok (.aload_n 0, 1) := by decide +kernel
theorem dX12_halves_1 : decode cX12_halves 1 = .ok (.getfield 454, 3) := by decide +kernel
theorem dX12_halves_4 : decode cX12_halves 4 = .ok (.iconst 4, 1) := by decide +kernel
theorem dX12_halves_5 : decode cX12_halves 5 = .ok (.if_icmp .ne 17, 3) := by decide +kernel
theorem dX12_halves_8 : decode cX12_halves 8 = .ok (.aload_n 0, 1) := by decide +kernel
theorem dX12_halves_9 : decode cX12_halves 9 = .ok (.bipush 40, 2) := by decide +kernel
theorem dX12_halves_11 : decode cX12_halves 11 = .ok (.invokevirtual 457, 3) := by decide +kernel
theorem dX12_halves_14 : decode cX12_halves 14 = .ok (.aload_n 0, 1) := by decide +kernel
theorem dX12_halves_15 : decode cX12_halves 15 = .ok (.iload_n 1, 1) := by decide +kernel
theorem dX12_halves_16 : decode cX12_halves 16 = .ok (.iconst 3, 1) := by decide +kernel
theorem dX12_halves_17 : decode cX12_halves 17 = .ok (.isub, 1) := by decide +kernel
theorem dX12_halves_18 : decode cX12_halves 18 = .ok (.invokevirtual 469, 3) := by decide +kernel
theorem dX12_halves_21 : decode cX12_halves 21 = .ok (.ireturn, 1) := by decide +kernel
theorem dX12_halves_22 : decode cX12_halves 22 = .ok (.aload_n 0, 1) := by decide +kernel
theorem dX12_halves_23 : decode cX12_halves 23 = .ok (.getfield 454, 3) := by decide +kernel
theorem dX12_halves_26 : decode cX12_halves 26 = .ok (.iconst 5, 1) := by decide +kernel
theorem dX12_halves_27 : decode cX12_halves 27 = .ok (.if_icmp .ne 45, 3) := by decide +kernel
theorem dX12_halves_30 : decode cX12_halves 30 = .ok (.aload_n 0, 1) := by decide +kernel
theorem dX12_halves_31 : decode cX12_halves 31 = .ok (.bipush 61, 2) := by decide +kernel
theorem dX12_halves_33 : decode cX12_halves 33 = .ok (.invokevirtual 457, 3) := by decide +kernel
theorem dX12_halves_36 : decode cX12_halves 36 = .ok (.aload_n 0, 1) := by decide +kernel
theorem dX12_halves_37 : decode cX12_halves 37 = .ok (.bipush 40, 2) := by decide +kernel
theorem dX12_halves_39 : decode cX12_halves 39 = .ok (.invokevirtual 457, 3) := by decide +kernel
theorem dX12_halves_42 : decode cX12_halves 42 = .ok (.aload_n 0, 1) := by decide +kernel
theorem dX12_halves_43 : decode cX12_halves 43 = .ok (.iload_n 1, 1) := by decide +kernel
theorem dX12_halves_44 : decode cX12_halves 44 = .ok (.iconst 3, 1) := by decide +kernel
theorem dX12_halves_45 : decode cX12_halves 45 = .ok (.isub, 1) := by decide +kernel
theorem dX12_halves_46 : decode cX12_halves 46 = .ok (.invokevirtual 469, 3) := by decide +kernel
theorem dX12_halves_49 : decode cX12_halves 49 = .ok (.istore_n 2, 1) := by decide +kernel
theorem dX12_halves_50 : decode cX12_halves 50 = .ok (.aload_n 0, 1) := by decide +kernel
theorem dX12_halves_51 : decode cX12_halves 51 = .ok (.getfield 448, 3) := by decide +kernel
theorem dX12_halves_54 : decode cX12_halves 54 = .ok (.ifCond .eq 7, 3) := by decide +kernel
theorem dX12_halves_57 : decode cX12_halves 57 = .ok (.iconst 0, 1) := by decide +kernel
theorem dX12_halves_58 : decode cX12_halves 58 = .ok (.goto 13, 3) := by decide +kernel
theorem dX12_halves_61 : decode cX12_halves 61 = .ok (.iload_n 2, 1) := by decide +kernel
theorem dX12_halves_62 : decode cX12_halves 62 = .ok (.aload_n 0, 1) := by decide +kernel
theorem dX12_halves_63 : decode cX12_halves 63 = .ok (.aload_n 0, 1) := by decide +kernel
theorem dX12_halves_64 : decode cX12_halves 64 = .ok (.getfield 466, 3) := by decide +kernel
theorem dX12_halves_67 : decode cX12_halves 67 = .ok (.invokevirtual 463, 3) := by decide +kernel
theorem dX12_halves_70 : decode cX12_halves 70 = .ok (.isub, 1) := by decide +kernel
theorem dX12_halves_71 : decode cX12_halves 71 = .ok (.ireturn, 1) := by decide +kernel
theorem dX12_halves_72 : decode cX12_halves 72 = .ok (.aload_n 0, 1) := by decide +kernel
theorem dX12_halves_73 : decode cX12_halves 73 = .ok (.iload_n 1, 1) := by decide +kernel
theorem dX12_halves_74 : decode cX12_halves 74 = .ok (.invokevirtual 469, 3) := by decide +kernel
theorem dX12_halves_77 : decode cX12_halves 77 = .ok (.ireturn, 1) := by decide +kernel
theorem dX12_owes_0 : decode cX12_owes 0 = .ok (.aload_n 0, 1) := by decide +kernel
theorem dX12_owes_1 : decode cX12_owes 1 = .ok (.getfield 454, 3) := by decide +kernel
theorem dX12_owes_4 : decode cX12_owes 4 = .ok (.iconst 3, 1) := by decide +kernel
theorem dX12_owes_5 : decode cX12_owes 5 = .ok (.if_icmp .ne 9, 3) := by decide +kernel
theorem dX12_owes_8 : decode cX12_owes 8 = .ok (.aload_n 0, 1) := by decide +kernel
theorem dX12_owes_9 : decode cX12_owes 9 = .ok (.bipush 51, 2) := by decide +kernel
theorem dX12_owes_11 : decode cX12_owes 11 = .ok (.invokevirtual 457, 3) := by decide +kernel
theorem dX12_owes_14 : decode cX12_owes 14 = .ok (.aload_n 0, 1) := by decide +kernel
theorem dX12_owes_15 : decode cX12_owes 15 = .ok (.bipush 13, 2) := by decide +kernel
theorem dX12_owes_17 : decode cX12_owes 17 = .ok (.invokevirtual 457, 3) := by decide +kernel
theorem dX12_owes_20 : decode cX12_owes 20 = .ok (.aload_n 0, 1) := by decide +kernel
theorem dX12_owes_21 : decode cX12_owes 21 = .ok (.iload_n 1, 1) := by decide +kernel
theorem dX12_owes_22 : decode cX12_owes 22 = .ok (.invokevirtual 472, 3) := by decide +kernel
theorem dX12_owes_25 : decode cX12_owes 25 = .ok (.aload_n 0, 1) := by decide +kernel
theorem dX12_owes_26 : decode cX12_owes 26 = .ok (.getfield 460, 3) := by decide +kernel
theorem dX12_owes_29 : decode cX12_owes 29 = .ok (.ixor, 1) := by decide +kernel
theorem dX12_owes_30 : decode cX12_owes 30 = .ok (.istore_n 2, 1) := by decide +kernel
theorem dX12_owes_31 : decode cX12_owes 31 = .ok (.aload_n 0, 1) := by decide +kernel
theorem dX12_owes_32 : decode cX12_owes 32 = .ok (.getfield 454, 3) := by decide +kernel
theorem dX12_owes_35 : decode cX12_owes 35 = .ok (.iconst 3, 1) := by decide +kernel
theorem dX12_owes_36 : decode cX12_owes 36 = .ok (.if_icmp .ne 16, 3) := by decide +kernel
theorem dX12_owes_39 : decode cX12_owes 39 = .ok (.iload_n 2, 1) := by decide +kernel
theorem dX12_owes_40 : decode cX12_owes 40 = .ok (.aload_n 0, 1) := by decide +kernel
theorem dX12_owes_41 : decode cX12_owes 41 = .ok (.aload_n 0, 1) := by decide +kernel
theorem dX12_owes_42 : decode cX12_owes 42 = .ok (.getfield 460, 3) := by decide +kernel
theorem dX12_owes_45 : decode cX12_owes 45 = .ok (.invokevirtual 475, 3) := by decide +kernel
theorem dX12_owes_48 : decode cX12_owes 48 = .ok (.iadd, 1) := by decide +kernel
theorem dX12_owes_49 : decode cX12_owes 49 = .ok (.goto 4, 3) := by decide +kernel
theorem dX12_owes_52 : decode cX12_owes 52 = .ok (.iload_n 2, 1) := by decide +kernel
theorem dX12_owes_53 : decode cX12_owes 53 = .ok (.ireturn, 1) := by decide +kernel
theorem dX12_act_0 : decode cX12_act 0 = .ok (.aload_n 0, 1) := by decide +kernel
theorem dX12_act_1 : decode cX12_act 1 = .ok (.iconst 0, 1) := by decide +kernel
theorem dX12_act_2 : decode cX12_act 2 = .ok (.putfield 451, 3) := by decide +kernel
theorem dX12_act_5 : decode cX12_act 5 = .ok (.aload_n 0, 1) := by decide +kernel
theorem dX12_act_6 : decode cX12_act 6 = .ok (.iconst 0, 1) := by decide +kernel
theorem dX12_act_7 : decode cX12_act 7 = .ok (.putfield 448, 3) := by decide +kernel
theorem dX12_act_10 : decode cX12_act 10 = .ok (.aload_n 0, 1) := by decide +kernel
theorem dX12_act_11 : decode cX12_act 11 = .ok (.aload_n 0, 1) := by decide +kernel
theorem dX12_act_12 : decode cX12_act 12 = .ok (.iload_n 1, 1) := by decide +kernel
theorem dX12_act_13 : decode cX12_act 13 = .ok (.invokevirtual 445, 3) := by decide +kernel
theorem dX12_act_16 : decode cX12_act 16 = .ok (.putfield 466, 3) := by decide +kernel
theorem dX12_act_19 : decode cX12_act 19 = .ok (.aload_n 0, 1) := by decide +kernel
theorem dX12_act_20 : decode cX12_act 20 = .ok (.getfield 466, 3) := by decide +kernel
theorem dX12_act_23 : decode cX12_act 23 = .ok (.ifCond .lt 15, 3) := by decide +kernel
theorem dX12_act_26 : decode cX12_act 26 = .ok (.iload_n 2, 1) := by decide +kernel
theorem dX12_act_27 : decode cX12_act 27 = .ok (.i2l, 1) := by decide +kernel
theorem dX12_act_28 : decode cX12_act 28 = .ok (.lconst 0, 1) := by decide +kernel
theorem dX12_act_29 : decode cX12_act 29 = .ok (.ldc2_w 416, 3) := by decide +kernel
theorem dX12_act_32 : decode cX12_act 32 = .ok (.invokestatic 68, 3) := by decide +kernel
theorem dX12_act_35 : decode cX12_act 35 = .ok (.ifCond .ne 5, 3) := by decide +kernel
theorem dX12_act_38 : decode cX12_act 38 = .ok (.iconst 0, 1) := by decide +kernel
theorem dX12_act_39 : decode cX12_act 39 = .ok (.ireturn, 1) := by decide +kernel
theorem dX12_act_40 : decode cX12_act 40 = .ok (.aload_n 0, 1) := by decide +kernel
theorem dX12_act_41 : decode cX12_act 41 = .ok (.aload_n 0, 1) := by decide +kernel
theorem dX12_act_42 : decode cX12_act 42 = .ok (.aload_n 0, 1) := by decide +kernel
theorem dX12_act_43 : decode cX12_act 43 = .ok (.getfield 466, 3) := by decide +kernel
theorem dX12_act_46 : decode cX12_act 46 = .ok (.iconst 2, 1) := by decide +kernel
theorem dX12_act_47 : decode cX12_act 47 = .ok (.invokevirtual 93, 3) := by decide +kernel
theorem dX12_act_50 : decode cX12_act 50 = .ok (.putfield 460, 3) := by decide +kernel
theorem dX12_act_53 : decode cX12_act 53 = .ok (.aload_n 0, 1) := by decide +kernel
theorem dX12_act_54 : decode cX12_act 54 = .ok (.aload_n 0, 1) := by decide +kernel
theorem dX12_act_55 : decode cX12_act 55 = .ok (.aload_n 0, 1) := by decide +kernel
theorem dX12_act_56 : decode cX12_act 56 = .ok (.getfield 466, 3) := by decide +kernel
theorem dX12_act_59 : decode cX12_act 59 = .ok (.iconst 0, 1) := by decide +kernel
theorem dX12_act_60 : decode cX12_act 60 = .ok (.invokevirtual 93, 3) := by decide +kernel
theorem dX12_act_63 : decode cX12_act 63 = .ok (.putfield 454, 3) := by decide +kernel
theorem dX12_act_66 : decode cX12_act 66 = .ok (.iload_n 2, 1) := by decide +kernel
theorem dX12_act_67 : decode cX12_act 67 = .ok (.ifCond .ne 11, 3) := by decide +kernel
theorem dX12_act_70 : decode cX12_act 70 = .ok (.aload_n 0, 1) := by decide +kernel
theorem dX12_act_71 : decode cX12_act 71 = .ok (.iload_n 3, 1) := by decide +kernel
theorem dX12_act_72 : decode cX12_act 72 = .ok (.invokevirtual 463, 3) := by decide +kernel
theorem dX12_act_75 : decode cX12_act 75 = .ok (.goto 34, 3) := by decide +kernel
theorem dX12_act_78 : decode cX12_act 78 = .ok (.iload_n 2, 1) := by decide +kernel
theorem dX12_act_79 : decode cX12_act 79 = .ok (.iconst 1, 1) := by decide +kernel
theorem dX12_act_80 : decode cX12_act 80 = .ok (.if_icmp .ne 11, 3) := by decide +kernel
theorem dX12_act_83 : decode cX12_act 83 = .ok (.aload_n 0, 1) := by decide +kernel
theorem dX12_act_84 : decode cX12_act 84 = .ok (.iload_n 3, 1) := by decide +kernel
theorem dX12_act_85 : decode cX12_act 85 = .ok (.invokevirtual 472, 3) := by decide +kernel
theorem dX12_act_88 : decode cX12_act 88 = .ok (.goto 21, 3) := by decide +kernel
theorem dX12_act_91 : decode cX12_act 91 = .ok (.iload_n 2, 1) := by decide +kernel
theorem dX12_act_92 : decode cX12_act 92 = .ok (.iconst 2, 1) := by decide +kernel
theorem dX12_act_93 : decode cX12_act 93 = .ok (.if_icmp .ne 11, 3) := by decide +kernel
theorem dX12_act_96 : decode cX12_act 96 = .ok (.aload_n 0, 1) := by decide +kernel
theorem dX12_act_97 : decode cX12_act 97 = .ok (.iload_n 3, 1) := by decide +kernel
theorem dX12_act_98 : decode cX12_act 98 = .ok (.invokevirtual 475, 3) := by decide +kernel
theorem dX12_act_101 : decode cX12_act 101 = .ok (.goto 8, 3) := by decide +kernel
theorem dX12_act_104 : decode cX12_act 104 = .ok (.aload_n 0, 1) := by decide +kernel
theorem dX12_act_105 : decode cX12_act 105 = .ok (.iload_n 3, 1) := by decide +kernel
theorem dX12_act_106 : decode cX12_act 106 = .ok (.invokevirtual 478, 3) := by decide +kernel
theorem dX12_act_109 : decode cX12_act 109 = .ok (.istore 4, 2) := by decide +kernel
theorem dX12_act_111 : decode cX12_act 111 = .ok (.aload_n 0, 1) := by decide +kernel
theorem dX12_act_112 : decode cX12_act 112 = .ok (.getfield 448, 3) := by decide +kernel
theorem dX12_act_115 : decode cX12_act 115 = .ok (.ifCond .eq 8, 3) := by decide +kernel
theorem dX12_act_118 : decode cX12_act 118 = .ok (.bipush (-15), 2) := by decide +kernel
theorem dX12_act_120 : decode cX12_act 120 = .ok (.goto 5, 3) := by decide +kernel
theorem dX12_act_123 : decode cX12_act 123 = .ok (.iload 4, 2) := by decide +kernel
theorem dX12_act_125 : decode cX12_act 125 = .ok (.ireturn, 1) := by decide +kernel
theorem dX12_traced_0 : decode cX12_traced 0 = .ok (.aload_n 0, 1) := by decide +kernel
theorem dX12_traced_1 : decode cX12_traced 1 = .ok (.getfield 451, 3) := by decide +kernel
theorem dX12_traced_4 : decode cX12_traced 4 = .ok (.bipush 30, 2) := by decide +kernel
theorem dX12_traced_6 : decode cX12_traced 6 = .ok (.if_icmp .ge 10, 3) := by decide +kernel
theorem dX12_traced_9 : decode cX12_traced 9 = .ok (.aload_n 0, 1) := by decide +kernel
theorem dX12_traced_10 : decode cX12_traced 10 = .ok (.getfield 451, 3) := by decide +kernel
theorem dX12_traced_13 : decode cX12_traced 13 = .ok (.goto 5, 3) := by decide +kernel
theorem dX12_traced_16 : decode cX12_traced 16 = .ok (.bipush 30, 2) := by decide +kernel
theorem dX12_traced_18 : decode cX12_traced 18 = .ok (.ireturn, 1) := by decide +kernel
theorem dX12_trace_0 : decode cX12_trace 0 = .ok (.iload_n 1, 1) := by decide +kernel
theorem dX12_trace_1 : decode cX12_trace 1 = .ok (.i2l, 1) := by decide +kernel
theorem dX12_trace_2 : decode cX12_trace 2 = .ok (.lconst 0, 1) := by decide +kernel
theorem dX12_trace_3 : decode cX12_trace 3 = .ok (.aload_n 0, 1) := by decide +kernel
theorem dX12_trace_4 : decode cX12_trace 4 = .ok (.invokevirtual 481, 3) := by decide +kernel
theorem dX12_trace_7 : decode cX12_trace 7 = .ok (.iconst 1, 1) := by decide +kernel
theorem dX12_trace_8 : decode cX12_trace 8 = .ok (.isub, 1) := by decide +kernel
theorem dX12_trace_9 : decode cX12_trace 9 = .ok (.i2l, 1) := by decide +kernel
theorem dX12_trace_10 : decode cX12_trace 10 = .ok (.invokestatic 68, 3) := by decide +kernel
theorem dX12_trace_13 : decode cX12_trace 13 = .ok (.ifCond .eq 12, 3) := by decide +kernel
theorem dX12_trace_16 : decode cX12_trace 16 = .ok (.aload_n 0, 1) := by decide +kernel
theorem dX12_trace_17 : decode cX12_trace 17 = .ok (.getfield 65, 3) := by decide +kernel
theorem dX12_trace_20 : decode cX12_trace 20 = .ok (.iload_n 1, 1) := by decide +kernel
theorem dX12_trace_21 : decode cX12_trace 21 = .ok (.iaload, 1) := by decide +kernel
theorem dX12_trace_22 : decode cX12_trace 22 = .ok (.goto 5, 3) := by decide +kernel
theorem dX12_trace_25 : decode cX12_trace 25 = .ok (.bipush (-3), 2) := by decide +kernel
theorem dX12_trace_27 : decode cX12_trace 27 = .ok (.ireturn, 1) := by decide +kernel
theorem dX12_many_0 : decode cX12_many 0 = .ok (.iload_n 1, 1) := by decide +kernel
theorem dX12_many_1 : decode cX12_many 1 = .ok (.tableswitch 86 0 6 #[43, 50, 57, 64, 71, 76, 81], 43) := by decide +kernel
theorem dX12_many_44 : decode cX12_many 44 = .ok (.aload_n 0, 1) := by decide +kernel
theorem dX12_many_45 : decode cX12_many 45 = .ok (.getfield 7, 3) := by decide +kernel
theorem dX12_many_48 : decode cX12_many 48 = .ok (.iconst 0, 1) := by decide +kernel
theorem dX12_many_49 : decode cX12_many 49 = .ok (.iaload, 1) := by decide +kernel
theorem dX12_many_50 : decode cX12_many 50 = .ok (.ireturn, 1) := by decide +kernel
theorem dX12_many_51 : decode cX12_many 51 = .ok (.aload_n 0, 1) := by decide +kernel
theorem dX12_many_52 : decode cX12_many 52 = .ok (.getfield 7, 3) := by decide +kernel
theorem dX12_many_55 : decode cX12_many 55 = .ok (.iconst 1, 1) := by decide +kernel
theorem dX12_many_56 : decode cX12_many 56 = .ok (.iaload, 1) := by decide +kernel
theorem dX12_many_57 : decode cX12_many 57 = .ok (.ireturn, 1) := by decide +kernel
theorem dX12_many_58 : decode cX12_many 58 = .ok (.aload_n 0, 1) := by decide +kernel
theorem dX12_many_59 : decode cX12_many 59 = .ok (.getfield 7, 3) := by decide +kernel
theorem dX12_many_62 : decode cX12_many 62 = .ok (.iconst 4, 1) := by decide +kernel
theorem dX12_many_63 : decode cX12_many 63 = .ok (.iaload, 1) := by decide +kernel
theorem dX12_many_64 : decode cX12_many 64 = .ok (.ireturn, 1) := by decide +kernel
theorem dX12_many_65 : decode cX12_many 65 = .ok (.aload_n 0, 1) := by decide +kernel
theorem dX12_many_66 : decode cX12_many 66 = .ok (.getfield 7, 3) := by decide +kernel
theorem dX12_many_69 : decode cX12_many 69 = .ok (.iconst 3, 1) := by decide +kernel
theorem dX12_many_70 : decode cX12_many 70 = .ok (.iaload, 1) := by decide +kernel
theorem dX12_many_71 : decode cX12_many 71 = .ok (.ireturn, 1) := by decide +kernel
theorem dX12_many_72 : decode cX12_many 72 = .ok (.aload_n 0, 1) := by decide +kernel
theorem dX12_many_73 : decode cX12_many 73 = .ok (.getfield 286, 3) := by decide +kernel
theorem dX12_many_76 : decode cX12_many 76 = .ok (.ireturn, 1) := by decide +kernel
theorem dX12_many_77 : decode cX12_many 77 = .ok (.aload_n 0, 1) := by decide +kernel
theorem dX12_many_78 : decode cX12_many 78 = .ok (.getfield 294, 3) := by decide +kernel
theorem dX12_many_81 : decode cX12_many 81 = .ok (.ireturn, 1) := by decide +kernel
theorem dX12_many_82 : decode cX12_many 82 = .ok (.aload_n 0, 1) := by decide +kernel
theorem dX12_many_83 : decode cX12_many 83 = .ok (.invokevirtual 481, 3) := by decide +kernel
theorem dX12_many_86 : decode cX12_many 86 = .ok (.ireturn, 1) := by decide +kernel
theorem dX12_many_87 : decode cX12_many 87 = .ok (.iconst (-1), 1) := by decide +kernel
theorem dX12_many_88 : decode cX12_many 88 = .ok (.ireturn, 1) := by decide +kernel
theorem dX12_keep_0 : decode cX12_keep 0 = .ok (.iconst 0, 1) := by decide +kernel
theorem dX12_keep_1 : decode cX12_keep 1 = .ok (.istore_n 1, 1) := by decide +kernel
theorem dX12_keep_2 : decode cX12_keep 2 = .ok (.iload_n 1, 1) := by decide +kernel
theorem dX12_keep_3 : decode cX12_keep 3 = .ok (.sipush 340, 3) := by decide +kernel
theorem dX12_keep_6 : decode cX12_keep 6 = .ok (.if_icmp .ge 21, 3) := by decide +kernel
theorem dX12_keep_9 : decode cX12_keep 9 = .ok (.aload_n 0, 1) := by decide +kernel
theorem dX12_keep_10 : decode cX12_keep 10 = .ok (.getfield 13, 3) := by decide +kernel
theorem dX12_keep_13 : decode cX12_keep 13 = .ok (.iload_n 1, 1) := by decide +kernel
theorem dX12_keep_14 : decode cX12_keep 14 = .ok (.aload_n 0, 1) := by decide +kernel
theorem dX12_keep_15 : decode cX12_keep 15 = .ok (.getfield 7, 3) := by decide +kernel
theorem dX12_keep_18 : decode cX12_keep 18 = .ok (.iload_n 1, 1) := by decide +kernel
theorem dX12_keep_19 : decode cX12_keep 19 = .ok (.iaload, 1) := by decide +kernel
theorem dX12_keep_20 : decode cX12_keep 20 = .ok (.iastore, 1) := by decide +kernel
theorem dX12_keep_21 : decode cX12_keep 21 = .ok (.iinc 1 1, 3) := by decide +kernel
theorem dX12_keep_24 : decode cX12_keep 24 = .ok (.goto (-22), 3) := by decide +kernel
theorem dX12_keep_27 : decode cX12_keep 27 = .ok (.aload_n 0, 1) := by decide +kernel
theorem dX12_keep_28 : decode cX12_keep 28 = .ok (.iconst 1, 1) := by decide +kernel
theorem dX12_keep_29 : decode cX12_keep 29 = .ok (.putfield 484, 3) := by decide +kernel
theorem dX12_keep_32 : decode cX12_keep 32 = .ok (.iconst 1, 1) := by decide +kernel
theorem dX12_keep_33 : decode cX12_keep 33 = .ok (.ireturn, 1) := by decide +kernel
theorem dX12_again_0 : decode cX12_again 0 = .ok (.aload_n 0, 1) := by decide +kernel
theorem dX12_again_1 : decode cX12_again 1 = .ok (.getfield 484, 3) := by decide +kernel
theorem dX12_again_4 : decode cX12_again 4 = .ok (.ifCond .ne 6, 3) := by decide +kernel
theorem dX12_again_7 : decode cX12_again 7 = .ok (.bipush (-3), 2) := by decide +kernel
theorem dX12_again_9 : decode cX12_again 9 = .ok (.ireturn, 1) := by decide +kernel
theorem dX12_again_10 : decode cX12_again 10 = .ok (.iconst 0, 1) := by decide +kernel
theorem dX12_again_11 : decode cX12_again 11 = .ok (.istore_n 1, 1) := by decide +kernel
theorem dX12_again_12 : decode cX12_again 12 = .ok (.iload_n 1, 1) := by decide +kernel
theorem dX12_again_13 : decode cX12_again 13 = .ok (.sipush 340, 3) := by decide +kernel
theorem dX12_again_16 : decode cX12_again 16 = .ok (.if_icmp .ge 21, 3) := by decide +kernel
theorem dX12_again_19 : decode cX12_again 19 = .ok (.aload_n 0, 1) := by decide +kernel
theorem dX12_again_20 : decode cX12_again 20 = .ok (.getfield 7, 3) := by decide +kernel
theorem dX12_again_23 : decode cX12_again 23 = .ok (.iload_n 1, 1) := by decide +kernel
theorem dX12_again_24 : decode cX12_again 24 = .ok (.aload_n 0, 1) := by decide +kernel
theorem dX12_again_25 : decode cX12_again 25 = .ok (.getfield 13, 3) := by decide +kernel
theorem dX12_again_28 : decode cX12_again 28 = .ok (.iload_n 1, 1) := by decide +kernel
theorem dX12_again_29 : decode cX12_again 29 = .ok (.iaload, 1) := by decide +kernel
theorem dX12_again_30 : decode cX12_again 30 = .ok (.iastore, 1) := by decide +kernel
theorem dX12_again_31 : decode cX12_again 31 = .ok (.iinc 1 1, 3) := by decide +kernel
theorem dX12_again_34 : decode cX12_again 34 = .ok (.goto (-22), 3) := by decide +kernel
theorem dX12_again_37 : decode cX12_again 37 = .ok (.aload_n 0, 1) := by decide +kernel
theorem dX12_again_38 : decode cX12_again 38 = .ok (.getfield 7, 3) := by decide +kernel
theorem dX12_again_41 : decode cX12_again 41 = .ok (.iconst 0, 1) := by decide +kernel
theorem dX12_again_42 : decode cX12_again 42 = .ok (.iaload, 1) := by decide +kernel
theorem dX12_again_43 : decode cX12_again 43 = .ok (.ireturn, 1) := by decide +kernel
