theorem dX11_init_0 : decode cX11_init 0 = .ok (.aload_n 0, 1) := by decide +kernel
theorem dX11_init_1 : decode cX11_init 1 = .ok (.invokespecial 1, 3) := by decide +kernel
theorem dX11_init_4 : decode cX11_init 4 = .ok (.aload_n 0, 1) := by decide +kernel
theorem dX11_init_5 : decode cX11_init 5 = .ok (.new 7, 3) := by decide +kernel
theorem dX11_init_8 : decode cX11_init 8 = .ok (.dup, 1) := by decide +kernel
theorem dX11_init_9 : decode cX11_init 9 = .ok (.invokespecial 9, 3) := by decide +kernel
theorem dX11_init_12 : decode cX11_init 12 = .ok (.putfield 10, 3) := by decide +kernel
theorem dX11_init_15 : decode cX11_init 15 = .ok (.bipush 6, 2) := by decide +kernel
theorem dX11_init_17 : decode cX11_init 17 = .ok (.anewarray 16, 3) := by decide +kernel
theorem dX11_init_20 : decode cX11_init 20 = .ok (.dup, 1) := by decide +kernel
theorem dX11_init_21 : decode cX11_init 21 = .ok (.iconst 0, 1) := by decide +kernel
theorem dX11_init_22 : decode cX11_init 22 = .ok (.new 16, 3) := by decide +kernel
theorem dX11_init_25 : decode cX11_init 25 = .ok (.dup, 1) := by decide +kernel
theorem dX11_init_26 : decode cX11_init 26 = .ok (.aload_n 0, 1) := by decide +kernel
theorem dX11_init_27 : decode cX11_init 27 = .ok (.getfield 10, 3) := by decide +kernel
theorem dX11_init_30 : decode cX11_init 30 = .ok (.invokespecial 18, 3) := by decide +kernel
theorem dX11_init_33 : decode cX11_init 33 = .ok (.aastore, 1) := by decide +kernel
theorem dX11_init_34 : decode cX11_init 34 = .ok (.dup, 1) := by decide +kernel
theorem dX11_init_35 : decode cX11_init 35 = .ok (.iconst 1, 1) := by decide +kernel
theorem dX11_init_36 : decode cX11_init 36 = .ok (.new 21, 3) := by decide +kernel
theorem dX11_init_39 : decode cX11_init 39 = .ok (.dup, 1) := by decide +kernel
theorem dX11_init_40 : decode cX11_init 40 = .ok (.aload_n 0, 1) := by decide +kernel
theorem dX11_init_41 : decode cX11_init 41 = .ok (.getfield 10, 3) := by decide +kernel
theorem dX11_init_44 : decode cX11_init 44 = .ok (.invokespecial 23, 3) := by decide +kernel
theorem dX11_init_47 : decode cX11_init 47 = .ok (.aastore, 1) := by decide +kernel
theorem dX11_init_48 : decode cX11_init 48 = .ok (.dup, 1) := by decide +kernel
theorem dX11_init_49 : decode cX11_init 49 = .ok (.iconst 2, 1) := by decide +kernel
theorem dX11_init_50 : decode cX11_init 50 = .ok (.new 24, 3) := by decide +kernel
theorem dX11_init_53 : decode cX11_init 53 = .ok (.dup, 1) := by decide +kernel
theorem dX11_init_54 : decode cX11_init 54 = .ok (.aload_n 0, 1) := by decide +kernel
theorem dX11_init_55 : decode cX11_init 55 = .ok (.getfield 10, 3) := by decide +kernel
theorem dX11_init_58 : decode cX11_init 58 = .ok (.invokespecial 26, 3) := by decide +kernel
theorem dX11_init_61 : decode cX11_init 61 = .ok (.aastore, 1) := by decide +kernel
theorem dX11_init_62 : decode cX11_init 62 = .ok (.dup, 1) := by decide +kernel
theorem dX11_init_63 : decode cX11_init 63 = .ok (.iconst 3, 1) := by decide +kernel
theorem dX11_init_64 : decode cX11_init 64 = .ok (.new 27, 3) := by decide +kernel
theorem dX11_init_67 : decode cX11_init 67 = .ok (.dup, 1) := by decide +kernel
theorem dX11_init_68 : decode cX11_init 68 = .ok (.aload_n 0, 1) := by decide +kernel
theorem dX11_init_69 : decode cX11_init 69 = .ok (.getfield 10, 3) := by decide +kernel
theorem dX11_init_72 : decode cX11_init 72 = .ok (.invokespecial 29, 3) := by decide +kernel
theorem dX11_init_75 : decode cX11_init 75 = .ok (.aastore, 1) := by decide +kernel
theorem dX11_init_76 : decode cX11_init 76 = .ok (.dup, 1) := by decide +kernel
theorem dX11_init_77 : decode cX11_init 77 = .ok (.iconst 4, 1) := by decide +kernel
theorem dX11_init_78 : decode cX11_init 78 = .ok (.new 30, 3) := by decide +kernel
theorem dX11_init_81 : decode cX11_init 81 = .ok (.dup, 1) := by decide +kernel
theorem dX11_init_82 : decode cX11_init 82 = .ok (.aload_n 0, 1) := by decide +kernel
theorem dX11_init_83 : decode cX11_init 83 = .ok (.getfield 10, 3) := by decide +kernel
theorem dX11_init_86 : decode cX11_init 86 = .ok (.invokespecial 32, 3) := by decide +kernel
theorem dX11_init_89 : decode cX11_init 89 = .ok (.aastore, 1) := by decide +kernel
theorem dX11_init_90 : decode cX11_init 90 = .ok (.dup, 1) := by decide +kernel
theorem dX11_init_91 : decode cX11_init 91 = .ok (.iconst 5, 1) := by decide +kernel
theorem dX11_init_92 : decode cX11_init 92 = .ok (.new 33, 3) := by decide +kernel
theorem dX11_init_95 : decode cX11_init 95 = .ok (.dup, 1) := by decide +kernel
theorem dX11_init_96 : decode cX11_init 96 = .ok (.aload_n 0, 1) := by decide +kernel
theorem dX11_init_97 : decode cX11_init 97 = .ok (.getfield 10, 3) := by decide +kernel
theorem dX11_init_100 : decode cX11_init 100 = .ok (.invokespecial 35, 3) := by decide +kernel
theorem dX11_init_103 : decode cX11_init 103 = .ok (.aastore, 1) := by decide +kernel
theorem dX11_init_104 : decode cX11_init 104 = .ok (.astore_n 1, 1) := by decide +kernel
theorem dX11_init_105 : decode cX11_init 105 = .ok (.aload_n 0, 1) := by decide +kernel
theorem dX11_init_106 : decode cX11_init 106 = .ok (.new 36, 3) := by decide +kernel
theorem dX11_init_109 : decode cX11_init 109 = .ok (.dup, 1) := by decide +kernel
theorem dX11_init_110 : decode cX11_init 110 = .ok (.aload_n 1, 1) := by decide +kernel
theorem dX11_init_111 : decode cX11_init 111 = .ok (.invokespecial 38, 3) := by decide +kernel
theorem dX11_init_114 : decode cX11_init 114 = .ok (.putfield 41, 3) := by decide +kernel
theorem dX11_init_117 : decode cX11_init 117 = .ok (.aload_n 0, 1) := by decide +kernel
theorem dX11_init_118 : decode cX11_init 118 = .ok (.new 36, 3) := by decide +kernel
theorem dX11_init_121 : decode cX11_init 121 = .ok (.dup, 1) := by decide +kernel
theorem dX11_init_122 : decode cX11_init 122 = .ok (.aload_n 1, 1) := by decide +kernel
theorem dX11_init_123 : decode cX11_init 123 = .ok (.invokespecial 38, 3) := by decide +kernel
theorem dX11_init_126 : decode cX11_init 126 = .ok (.putfield 45, 3) := by decide +kernel
theorem dX11_init_129 : decode cX11_init 129 = .ok (.aload_n 0, 1) := by decide +kernel
theorem dX11_init_130 : decode cX11_init 130 = .ok (.new 36, 3) := by decide +kernel
theorem dX11_init_133 : decode cX11_init 133 = .ok (.dup, 1) := by decide +kernel
theorem dX11_init_134 : decode cX11_init 134 = .ok (.aload_n 1, 1) := by decide +kernel
theorem dX11_init_135 : decode cX11_init 135 = .ok (.invokespecial 38, 3) := by decide +kernel
theorem dX11_init_138 : decode cX11_init 138 = .ok (.putfield 48, 3) := by decide +kernel
theorem dX11_init_141 : decode cX11_init 141 = .ok (.aload_n 0, 1) := by decide +kernel
theorem dX11_init_142 : decode cX11_init 142 = .ok (.new 51, 3) := by decide +kernel
theorem dX11_init_145 : decode cX11_init 145 = .ok (.dup, 1) := by decide +kernel
theorem dX11_init_146 : decode cX11_init 146 = .ok (.aload_n 0, 1) := by decide +kernel
theorem dX11_init_147 : decode cX11_init 147 = .ok (.getfield 48, 3) := by decide +kernel
theorem dX11_init_150 : decode cX11_init 150 = .ok (.invokespecial 53, 3) := by decide +kernel
theorem dX11_init_153 : decode cX11_init 153 = .ok (.putfield 56, 3) := by decide +kernel
theorem dX11_init_156 : decode cX11_init 156 = .ok (.aload_n 0, 1) := by decide +kernel
theorem dX11_init_157 : decode cX11_init 157 = .ok (.new 60, 3) := by decide +kernel
theorem dX11_init_160 : decode cX11_init 160 = .ok (.dup, 1) := by decide +kernel
theorem dX11_init_161 : decode cX11_init 161 = .ok (.invokespecial 62, 3) := by decide +kernel
theorem dX11_init_164 : decode cX11_init 164 = .ok (.putfield 63, 3) := by decide +kernel
theorem dX11_init_167 : decode cX11_init 167 = .ok (.aload_n 0, 1) := by decide +kernel
theorem dX11_init_168 : decode cX11_init 168 = .ok (.bipush 6, 2) := by decide +kernel
theorem dX11_init_170 : decode cX11_init 170 = .ok (.iconst 3, 1) := by decide +kernel
theorem dX11_init_171 : decode cX11_init 171 = .ok (.multianewarray 67 2, 4) := by decide +kernel
theorem dX11_init_175 : decode cX11_init 175 = .ok (.putfield 69, 3) := by decide +kernel
theorem dX11_init_178 : decode cX11_init 178 = .ok (.return_, 1) := by decide +kernel
theorem dX11_person_0 : decode cX11_person 0 = .ok (.iload_n 1, 1) := by decide +kernel
theorem dX11_person_1 : decode cX11_person 1 = .ok (.iconst 1, 1) := by decide +kernel
theorem dX11_person_2 : decode cX11_person 2 = .ok (.iconst 5, 1) := by decide +kernel
theorem dX11_person_3 : decode cX11_person 3 = .ok (.invokestatic 72, 3) := by decide +kernel
theorem dX11_person_6 : decode cX11_person 6 = .ok (.ifCond .eq 29, 3) := by decide +kernel
theorem dX11_person_9 : decode cX11_person 9 = .ok (.iload_n 2, 1) := by decide +kernel
theorem dX11_person_10 : decode cX11_person 10 = .ok (.invokestatic 76, 3) := by decide +kernel
theorem dX11_person_13 : decode cX11_person 13 = .ok (.ifCond .eq 22, 3) := by decide +kernel
theorem dX11_person_16 : decode cX11_person 16 = .ok (.iload_n 3, 1) := by decide +kernel
theorem dX11_person_17 : decode cX11_person 17 = .ok (.invokestatic 76, 3) := by decide +kernel
theorem dX11_person_20 : decode cX11_person 20 = .ok (.ifCond .eq 15, 3) := by decide +kernel
theorem dX11_person_23 : decode cX11_person 23 = .ok (.iload 4, 2) := by decide +kernel
theorem dX11_person_25 : decode cX11_person 25 = .ok (.iconst 0, 1) := by decide +kernel
theorem dX11_person_26 : decode cX11_person 26 = .ok (.sipush 999, 3) := by decide +kernel
theorem dX11_person_29 : decode cX11_person 29 = .ok (.invokestatic 72, 3) := by decide +kernel
theorem dX11_person_32 : decode cX11_person 32 = .ok (.ifCond .ne 5, 3) := by decide +kernel
theorem dX11_person_35 : decode cX11_person 35 = .ok (.iconst (-1), 1) := by decide +kernel
theorem dX11_person_36 : decode cX11_person 36 = .ok (.ireturn, 1) := by decide +kernel
theorem dX11_person_37 : decode cX11_person 37 = .ok (.aload_n 0, 1) := by decide +kernel
theorem dX11_person_38 : decode cX11_person 38 = .ok (.getfield 41, 3) := by decide +kernel
theorem dX11_person_41 : decode cX11_person 41 = .ok (.getfield 80, 3) := by decide +kernel
theorem dX11_person_44 : decode cX11_person 44 = .ok (.bipush 6, 2) := by decide +kernel
theorem dX11_person_46 : decode cX11_person 46 = .ok (.if_icmp .lt 6, 3) := by decide +kernel
theorem dX11_person_49 : decode cX11_person 49 = .ok (.bipush (-2), 2) := by decide +kernel
theorem dX11_person_51 : decode cX11_person 51 = .ok (.ireturn, 1) := by decide +kernel
theorem dX11_person_52 : decode cX11_person 52 = .ok (.aload_n 0, 1) := by decide +kernel
theorem dX11_person_53 : decode cX11_person 53 = .ok (.getfield 41, 3) := by decide +kernel
theorem dX11_person_56 : decode cX11_person 56 = .ok (.getfield 80, 3) := by decide +kernel
theorem dX11_person_59 : decode cX11_person 59 = .ok (.istore 5, 2) := by decide +kernel
theorem dX11_person_61 : decode cX11_person 61 = .ok (.aload_n 0, 1) := by decide +kernel
theorem dX11_person_62 : decode cX11_person 62 = .ok (.getfield 41, 3) := by decide +kernel
theorem dX11_person_65 : decode cX11_person 65 = .ok (.dup, 1) := by decide +kernel
theorem dX11_person_66 : decode cX11_person 66 = .ok (.getfield 80, 3) := by decide +kernel
theorem dX11_person_69 : decode cX11_person 69 = .ok (.iconst 1, 1) := by decide +kernel
theorem dX11_person_70 : decode cX11_person 70 = .ok (.iadd, 1) := by decide +kernel
theorem dX11_person_71 : decode cX11_person 71 = .ok (.putfield 80, 3) := by decide +kernel
theorem dX11_person_74 : decode cX11_person 74 = .ok (.aload_n 0, 1) := by decide +kernel
theorem dX11_person_75 : decode cX11_person 75 = .ok (.getfield 41, 3) := by decide +kernel
theorem dX11_person_78 : decode cX11_person 78 = .ok (.getfield 84, 3) := by decide +kernel
theorem dX11_person_81 : decode cX11_person 81 = .ok (.iload 5, 2) := by decide +kernel
theorem dX11_person_83 : decode cX11_person 83 = .ok (.iload_n 1, 1) := by decide +kernel
theorem dX11_person_84 : decode cX11_person 84 = .ok (.iastore, 1) := by decide +kernel
theorem dX11_person_85 : decode cX11_person 85 = .ok (.aload_n 0, 1) := by decide +kernel
theorem dX11_person_86 : decode cX11_person 86 = .ok (.getfield 41, 3) := by decide +kernel
theorem dX11_person_89 : decode cX11_person 89 = .ok (.getfield 88, 3) := by decide +kernel
theorem dX11_person_92 : decode cX11_person 92 = .ok (.iload 5, 2) := by decide +kernel
theorem dX11_person_94 : decode cX11_person 94 = .ok (.iload_n 2, 1) := by decide +kernel
theorem dX11_person_95 : decode cX11_person 95 = .ok (.iastore, 1) := by decide +kernel
theorem dX11_person_96 : decode cX11_person 96 = .ok (.aload_n 0, 1) := by decide +kernel
theorem dX11_person_97 : decode cX11_person 97 = .ok (.getfield 41, 3) := by decide +kernel
theorem dX11_person_100 : decode cX11_person 100 = .ok (.getfield 91, 3) := by decide +kernel
theorem dX11_person_103 : decode cX11_person 103 = .ok (.iload 5, 2) := by decide +kernel
theorem dX11_person_105 : decode cX11_person 105 = .ok (.iload_n 3, 1) := by decide +kernel
theorem dX11_person_106 : decode cX11_person 106 = .ok (.iastore, 1) := by decide +kernel
theorem dX11_person_107 : decode cX11_person 107 = .ok (.aload_n 0, 1) := by decide +kernel
theorem dX11_person_108 : decode cX11_person 108 = .ok (.getfield 41, 3) := by decide +kernel
theorem dX11_person_111 : decode cX11_person 111 = .ok (.getfield 94, 3) := by decide +kernel
theorem dX11_person_114 : decode cX11_person 114 = .ok (.iload 5, 2) := by decide +kernel
theorem dX11_person_116 : decode cX11_person 116 = .ok (.iload 4, 2) := by decide +kernel
theorem dX11_person_118 : decode cX11_person 118 = .ok (.iastore, 1) := by decide +kernel
theorem dX11_person_119 : decode cX11_person 119 = .ok (.aload_n 0, 1) := by decide +kernel
theorem dX11_person_120 : decode cX11_person 120 = .ok (.getfield 41, 3) := by decide +kernel
theorem dX11_person_123 : decode cX11_person 123 = .ok (.getfield 97, 3) := by decide +kernel
theorem dX11_person_126 : decode cX11_person 126 = .ok (.iload 5, 2) := by decide +kernel
theorem dX11_person_128 : decode cX11_person 128 = .ok (.iconst 0, 1) := by decide +kernel
theorem dX11_person_129 : decode cX11_person 129 = .ok (.iastore, 1) := by decide +kernel
theorem dX11_person_130 : decode cX11_person 130 = .ok (.aload_n 0, 1) := by decide +kernel
theorem dX11_person_131 : decode cX11_person 131 = .ok (.getfield 41, 3) := by decide +kernel
theorem dX11_person_134 : decode cX11_person 134 = .ok (.iload 5, 2) := by decide +kernel
theorem dX11_person_136 : decode cX11_person 136 = .ok (.invokevirtual 100, 3) := by decide +kernel
theorem dX11_person_139 : decode cX11_person 139 = .ok (.iload 5, 2) := by decide +kernel
theorem dX11_person_141 : decode cX11_person 141 = .ok (.ireturn, 1) := by decide +kernel
theorem dX11_personOf_0 : decode cX11_personOf 0 = .ok (.aload_n 0, 1) := by decide +kernel
theorem dX11_personOf_1 : decode cX11_personOf 1 = .ok (.getfield 41, 3) := by decide +kernel
theorem dX11_personOf_4 : decode cX11_personOf 4 = .ok (.iload_n 1, 1) := by decide +kernel
theorem dX11_personOf_5 : decode cX11_personOf 5 = .ok (.invokevirtual 104, 3) := by decide +kernel
theorem dX11_personOf_8 : decode cX11_personOf 8 = .ok (.ifCond .ne 5, 3) := by decide +kernel
theorem dX11_personOf_11 : decode cX11_personOf 11 = .ok (.iconst (-1), 1) := by decide +kernel
theorem dX11_personOf_12 : decode cX11_personOf 12 = .ok (.ireturn, 1) := by decide +kernel
theorem dX11_personOf_13 : decode cX11_personOf 13 = .ok (.iload_n 2, 1) := by decide +kernel
theorem dX11_personOf_14 : decode cX11_personOf 14 = .ok (.tableswitch 113 0 6 #[42, 52, 62, 72, 82, 91, 103], 42) := by decide +kernel
theorem dX11_personOf_56 : decode cX11_personOf 56 = .ok (.aload_n 0, 1) := by decide +kernel
theorem dX11_personOf_57 : decode cX11_personOf 57 = .ok (.getfield 41, 3) := by decide +kernel
theorem dX11_personOf_60 : decode cX11_personOf 60 = .ok (.getfield 84, 3) := by decide +kernel
theorem dX11_personOf_63 : decode cX11_personOf 63 = .ok (.iload_n 1, 1) := by decide +kernel
theorem dX11_personOf_64 : decode cX11_personOf 64 = .ok (.iaload, 1) := by decide +kernel
theorem dX11_personOf_65 : decode cX11_personOf 65 = .ok (.ireturn, 1) := by decide +kernel
theorem dX11_personOf_66 : decode cX11_personOf 66 = .ok (.aload_n 0, 1) := by decide +kernel
theorem dX11_personOf_67 : decode cX11_personOf 67 = .ok (.getfield 41, 3) := by decide +kernel
theorem dX11_personOf_70 : decode cX11_personOf 70 = .ok (.getfield 88, 3) := by decide +kernel
theorem dX11_personOf_73 : decode cX11_personOf 73 = .ok (.iload_n 1, 1) := by decide +kernel
theorem dX11_personOf_74 : decode cX11_personOf 74 = .ok (.iaload, 1) := by decide +kernel
theorem dX11_personOf_75 : decode cX11_personOf 75 = .ok (.ireturn, 1) := by decide +kernel
theorem dX11_personOf_76 : decode cX11_personOf 76 = .ok (.aload_n 0, 1) := by decide +kernel
theorem dX11_personOf_77 : decode cX11_personOf 77 = .ok (.getfield 41, 3) := by decide +kernel
theorem dX11_personOf_80 : decode cX11_personOf 80 = .ok (.getfield 91, 3) := by decide +kernel
theorem dX11_personOf_83 : decode cX11_personOf 83 = .ok (.iload_n 1, 1) := by decide +kernel
theorem dX11_personOf_84 : decode cX11_personOf 84 = .ok (.iaload, 1) := by decide +kernel
theorem dX11_personOf_85 : decode cX11_personOf 85 = .ok (.ireturn, 1) := by decide +kernel
theorem dX11_personOf_86 : decode cX11_personOf 86 = .ok (.aload_n 0, 1) := by decide +kernel
theorem dX11_personOf_87 : decode cX11_personOf 87 = .ok (.getfield 41, 3) := by decide +kernel
theorem dX11_personOf_90 : decode cX11_personOf 90 = .ok (.getfield 94, 3) := by decide +kernel
theorem dX11_personOf_93 : decode cX11_personOf 93 = .ok (.iload_n 1, 1) := by decide +kernel
theorem dX11_personOf_94 : decode cX11_personOf 94 = .ok (.iaload, 1) := by decide +kernel
theorem dX11_personOf_95 : decode cX11_personOf 95 = .ok (.ireturn, 1) := by decide +kernel
theorem dX11_personOf_96 : decode cX11_personOf 96 = .ok (.aload_n 0, 1) := by decide +kernel
theorem dX11_personOf_97 : decode cX11_personOf 97 = .ok (.getfield 41, 3) := by decide +kernel
theorem dX11_personOf_100 : decode cX11_personOf 100 = .ok (.iload_n 1, 1) := by decide +kernel
theorem dX11_personOf_101 : decode cX11_personOf 101 = .ok (.invokevirtual 107, 3) := by decide +kernel
theorem dX11_personOf_104 : decode cX11_personOf 104 = .ok (.ireturn, 1) := by decide +kernel
theorem dX11_personOf_105 : decode cX11_personOf 105 = .ok (.aload_n 0, 1) := by decide +kernel
theorem dX11_personOf_106 : decode cX11_personOf 106 = .ok (.getfield 41, 3) := by decide +kernel
theorem dX11_personOf_109 : decode cX11_personOf 109 = .ok (.getfield 111, 3) := by decide +kernel
theorem dX11_personOf_112 : decode cX11_personOf 112 = .ok (.iload_n 1, 1) := by decide +kernel
theorem dX11_personOf_113 : decode cX11_personOf 113 = .ok (.ishr, 1) := by decide +kernel
theorem dX11_personOf_114 : decode cX11_personOf 114 = .ok (.iconst 1, 1) := by decide +kernel
theorem dX11_personOf_115 : decode cX11_personOf 115 = .ok (.iand, 1) := by decide +kernel
theorem dX11_personOf_116 : decode cX11_personOf 116 = .ok (.ireturn, 1) := by decide +kernel
theorem dX11_personOf_117 : decode cX11_personOf 117 = .ok (.aload_n 0, 1) := by decide +kernel
theorem dX11_personOf_118 : decode cX11_personOf 118 = .ok (.getfield 41, 3) := by decide +kernel
theorem dX11_personOf_121 : decode cX11_personOf 121 = .ok (.getfield 97, 3) := by decide +kernel
theorem dX11_personOf_124 : decode cX11_personOf 124 = .ok (.iload_n 1, 1) := by decide +kernel
theorem dX11_personOf_125 : decode cX11_personOf 125 = .ok (.iaload, 1) := by decide +kernel
theorem dX11_personOf_126 : decode cX11_personOf 126 = .ok (.ireturn, 1) := by decide +kernel
theorem dX11_personOf_127 : decode cX11_personOf 127 = .ok (.iconst (-1), 1) := by decide +kernel
theorem dX11_personOf_128 : decode cX11_personOf 128 = .ok (.ireturn, 1) := by decide +kernel
theorem dX11_change_0 : decode cX11_change 0 = .ok (.aload_n 0, 1) := by decide +kernel
theorem dX11_change_1 : decode cX11_change 1 = .ok (.getfield 41, 3) := by decide +kernel
theorem dX11_change_4 : decode cX11_change 4 = .ok (.iload_n 1, 1) := by decide +kernel
theorem dX11_change_5 : decode cX11_change 5 = .ok (.invokevirtual 104, 3) := by decide +kernel
theorem dX11_change_8 : decode cX11_change 8 = .ok (.ifCond .eq 33, 3) := by decide +kernel
theorem dX11_change_11 : decode cX11_change 11 = .ok (.iload_n 2, 1) := by decide +kernel
theorem dX11_change_12 : decode cX11_change 12 = .ok (.iconst 1, 1) := by decide +kernel
theorem dX11_change_13 : decode cX11_change 13 = .ok (.iconst 3, 1) := by decide +kernel
theorem dX11_change_14 : decode cX11_change 14 = .ok (.invokestatic 72, 3) := by decide +kernel
theorem dX11_change_17 : decode cX11_change 17 = .ok (.ifCond .eq 24, 3) := by decide +kernel
theorem dX11_change_20 : decode cX11_change 20 = .ok (.iload_n 3, 1) := by decide +kernel
theorem dX11_change_21 : decode cX11_change 21 = .ok (.iconst 0, 1) := by decide +kernel
theorem dX11_change_22 : decode cX11_change 22 = .ok (.iload_n 2, 1) := by decide +kernel
theorem dX11_change_23 : decode cX11_change 23 = .ok (.iconst 3, 1) := by decide +kernel
theorem dX11_change_24 : decode cX11_change 24 = .ok (.if_icmp .ne 9, 3) := by decide +kernel
theorem dX11_change_27 : decode cX11_change 27 = .ok (.sipush 999, 3) := by decide +kernel
theorem dX11_change_30 : decode cX11_change 30 = .ok (.goto 5, 3) := by decide +kernel
theorem dX11_change_33 : decode cX11_change 33 = .ok (.bipush 7, 2) := by decide +kernel
theorem dX11_change_35 : decode cX11_change 35 = .ok (.invokestatic 72, 3) := by decide +kernel
theorem dX11_change_38 : decode cX11_change 38 = .ok (.ifCond .ne 5, 3) := by decide +kernel
theorem dX11_change_41 : decode cX11_change 41 = .ok (.iconst (-1), 1) := by decide +kernel
theorem dX11_change_42 : decode cX11_change 42 = .ok (.ireturn, 1) := by decide +kernel
theorem dX11_change_43 : decode cX11_change 43 = .ok (.iload_n 2, 1) := by decide +kernel
theorem dX11_change_44 : decode cX11_change 44 = .ok (.iconst 1, 1) := by decide +kernel
theorem dX11_change_45 : decode cX11_change 45 = .ok (.if_icmp .ne 13, 3) := by decide +kernel
theorem dX11_change_48 : decode cX11_change 48 = .ok (.aload_n 0, 1) := by decide +kernel
theorem dX11_change_49 : decode cX11_change 49 = .ok (.getfield 41, 3) := by decide +kernel
theorem dX11_change_52 : decode cX11_change 52 = .ok (.getfield 88, 3) := by decide +kernel
theorem dX11_change_55 : decode cX11_change 55 = .ok (.goto 25, 3) := by decide +kernel
theorem dX11_change_58 : decode cX11_change 58 = .ok (.iload_n 2, 1) := by decide +kernel
theorem dX11_change_59 : decode cX11_change 59 = .ok (.iconst 2, 1) := by decide +kernel
theorem dX11_change_60 : decode cX11_change 60 = .ok (.if_icmp .ne 13, 3) := by decide +kernel
theorem dX11_change_63 : decode cX11_change 63 = .ok (.aload_n 0, 1) := by decide +kernel
theorem dX11_change_64 : decode cX11_change 64 = .ok (.getfield 41, 3) := by decide +kernel
theorem dX11_change_67 : decode cX11_change 67 = .ok (.getfield 91, 3) := by decide +kernel
theorem dX11_change_70 : decode cX11_change 70 = .ok (.goto 10, 3) := by decide +kernel
theorem dX11_change_73 : decode cX11_change 73 = .ok (.aload_n 0, 1) := by decide +kernel
theorem dX11_change_74 : decode cX11_change 74 = .ok (.getfield 41, 3) := by decide +kernel
theorem dX11_change_77 : decode cX11_change 77 = .ok (.getfield 94, 3) := by decide +kernel
theorem dX11_change_80 : decode cX11_change 80 = .ok (.astore 4, 2) := by decide +kernel
theorem dX11_change_82 : decode cX11_change 82 = .ok (.aload 4, 2) := by decide +kernel
theorem dX11_change_84 : decode cX11_change 84 = .ok (.iload_n 1, 1) := by decide +kernel
theorem dX11_change_85 : decode cX11_change 85 = .ok (.iaload, 1) := by decide +kernel
theorem dX11_change_86 : decode cX11_change 86 = .ok (.istore 5, 2) := by decide +kernel
theorem dX11_change_88 : decode cX11_change 88 = .ok (.aload 4, 2) := by decide +kernel
theorem dX11_change_90 : decode cX11_change 90 = .ok (.iload_n 1, 1) := by decide +kernel
theorem dX11_change_91 : decode cX11_change 91 = .ok (.iload_n 3, 1) := by decide +kernel
theorem dX11_change_92 : decode cX11_change 92 = .ok (.iastore, 1) := by decide +kernel
theorem dX11_change_93 : decode cX11_change 93 = .ok (.aload_n 0, 1) := by decide +kernel
theorem dX11_change_94 : decode cX11_change 94 = .ok (.getfield 41, 3) := by decide +kernel
theorem dX11_change_97 : decode cX11_change 97 = .ok (.iload_n 1, 1) := by decide +kernel
theorem dX11_change_98 : decode cX11_change 98 = .ok (.invokevirtual 100, 3) := by decide +kernel
theorem dX11_change_101 : decode cX11_change 101 = .ok (.iload 5, 2) := by decide +kernel
theorem dX11_change_103 : decode cX11_change 103 = .ok (.ireturn, 1) := by decide +kernel
theorem dX11_remake_0 : decode cX11_remake 0 = .ok (.aload_n 0, 1) := by decide +kernel
theorem dX11_remake_1 : decode cX11_remake 1 = .ok (.getfield 41, 3) := by decide +kernel
theorem dX11_remake_4 : decode cX11_remake 4 = .ok (.iload_n 1, 1) := by decide +kernel
theorem dX11_remake_5 : decode cX11_remake 5 = .ok (.invokevirtual 104, 3) := by decide +kernel
theorem dX11_remake_8 : decode cX11_remake 8 = .ok (.ifCond .eq 12, 3) := by decide +kernel
theorem dX11_remake_11 : decode cX11_remake 11 = .ok (.iload_n 2, 1) := by decide +kernel
theorem dX11_remake_12 : decode cX11_remake 12 = .ok (.iconst 1, 1) := by decide +kernel
theorem dX11_remake_13 : decode cX11_remake 13 = .ok (.iconst 5, 1) := by decide +kernel
theorem dX11_remake_14 : decode cX11_remake 14 = .ok (.invokestatic 72, 3) := by decide +kernel
theorem dX11_remake_17 : decode cX11_remake 17 = .ok (.ifCond .ne 5, 3) := by decide +kernel
theorem dX11_remake_20 : decode cX11_remake 20 = .ok (.iconst (-1), 1) := by decide +kernel
theorem dX11_remake_21 : decode cX11_remake 21 = .ok (.ireturn, 1) := by decide +kernel
theorem dX11_remake_22 : decode cX11_remake 22 = .ok (.aload_n 0, 1) := by decide +kernel
theorem dX11_remake_23 : decode cX11_remake 23 = .ok (.getfield 41, 3) := by decide +kernel
theorem dX11_remake_26 : decode cX11_remake 26 = .ok (.getfield 84, 3) := by decide +kernel
theorem dX11_remake_29 : decode cX11_remake 29 = .ok (.iload_n 1, 1) := by decide +kernel
theorem dX11_remake_30 : decode cX11_remake 30 = .ok (.iaload, 1) := by decide +kernel
theorem dX11_remake_31 : decode cX11_remake 31 = .ok (.istore_n 3, 1) := by decide +kernel
theorem dX11_remake_32 : decode cX11_remake 32 = .ok (.aload_n 0, 1) := by decide +kernel
theorem dX11_remake_33 : decode cX11_remake 33 = .ok (.getfield 41, 3) := by decide +kernel
theorem dX11_remake_36 : decode cX11_remake 36 = .ok (.getfield 84, 3) := by decide +kernel
theorem dX11_remake_39 : decode cX11_remake 39 = .ok (.iload_n 1, 1) := by decide +kernel
theorem dX11_remake_40 : decode cX11_remake 40 = .ok (.iload_n 2, 1) := by decide +kernel
theorem dX11_remake_41 : decode cX11_remake 41 = .ok (.iastore, 1) := by decide +kernel
theorem dX11_remake_42 : decode cX11_remake 42 = .ok (.iload_n 3, 1) := by decide +kernel
theorem dX11_remake_43 : decode cX11_remake 43 = .ok (.ireturn, 1) := by decide +kernel
theorem dX11_meets_0 : decode cX11_meets 0 = .ok (.aload_n 0, 1) := by decide +kernel
theorem dX11_meets_1 : decode cX11_meets 1 = .ok (.getfield 41, 3) := by decide +kernel
theorem dX11_meets_4 : decode cX11_meets 4 = .ok (.iload_n 1, 1) := by decide +kernel
theorem dX11_meets_5 : decode cX11_meets 5 = .ok (.invokevirtual 104, 3) := by decide +kernel
theorem dX11_meets_8 : decode cX11_meets 8 = .ok (.ifCond .eq 19, 3) := by decide +kernel
theorem dX11_meets_11 : decode cX11_meets 11 = .ok (.aload_n 0, 1) := by decide +kernel
theorem dX11_meets_12 : decode cX11_meets 12 = .ok (.getfield 41, 3) := by decide +kernel
theorem dX11_meets_15 : decode cX11_meets 15 = .ok (.iload_n 2, 1) := by decide +kernel
theorem dX11_meets_16 : decode cX11_meets 16 = .ok (.invokevirtual 104, 3) := by decide +kernel
theorem dX11_meets_19 : decode cX11_meets 19 = .ok (.ifCond .eq 8, 3) := by decide +kernel
theorem dX11_meets_22 : decode cX11_meets 22 = .ok (.iload_n 1, 1) := by decide +kernel
theorem dX11_meets_23 : decode cX11_meets 23 = .ok (.iload_n 2, 1) := by decide +kernel
theorem dX11_meets_24 : decode cX11_meets 24 = .ok (.if_icmp .ne 5, 3) := by decide +kernel
theorem dX11_meets_27 : decode cX11_meets 27 = .ok (.iconst (-1), 1) := by decide +kernel
theorem dX11_meets_28 : decode cX11_meets 28 = .ok (.ireturn, 1) := by decide +kernel
theorem dX11_meets_29 : decode cX11_meets 29 = .ok (.aload_n 0, 1) := by decide +kernel
theorem dX11_meets_30 : decode cX11_meets 30 = .ok (.getfield 41, 3) := by decide +kernel
theorem dX11_meets_33 : decode cX11_meets 33 = .ok (.getfield 97, 3) := by decide +kernel
theorem dX11_meets_36 : decode cX11_meets 36 = .ok (.iload_n 1, 1) := by decide +kernel
theorem dX11_meets_37 : decode cX11_meets 37 = .ok (.iaload, 1) := by decide +kernel
theorem dX11_meets_38 : decode cX11_meets 38 = .ok (.iload_n 2, 1) := by decide +kernel
theorem dX11_meets_39 : decode cX11_meets 39 = .ok (.ishr, 1) := by decide +kernel
theorem dX11_meets_40 : decode cX11_meets 40 = .ok (.iconst 1, 1) := by decide +kernel
theorem dX11_meets_41 : decode cX11_meets 41 = .ok (.iand, 1) := by decide +kernel
theorem dX11_meets_42 : decode cX11_meets 42 = .ok (.istore 4, 2) := by decide +kernel
theorem dX11_meets_44 : decode cX11_meets 44 = .ok (.iload_n 3, 1) := by decide +kernel
theorem dX11_meets_45 : decode cX11_meets 45 = .ok (.ifCond .eq 36, 3) := by decide +kernel
theorem dX11_meets_48 : decode cX11_meets 48 = .ok (.aload_n 0, 1) := by decide +kernel
theorem dX11_meets_49 : decode cX11_meets 49 = .ok (.getfield 41, 3) := by decide +kernel
theorem dX11_meets_52 : decode cX11_meets 52 = .ok (.getfield 97, 3) := by decide +kernel
theorem dX11_meets_55 : decode cX11_meets 55 = .ok (.iload_n 1, 1) := by decide +kernel
theorem dX11_meets_56 : decode cX11_meets 56 = .ok (.dup2, 1) := by decide +kernel
theorem dX11_meets_57 : decode cX11_meets 57 = .ok (.iaload, 1) := by decide +kernel
theorem dX11_meets_58 : decode cX11_meets 58 = .ok (.iconst 1, 1) := by decide +kernel
theorem dX11_meets_59 : decode cX11_meets 59 = .ok (.iload_n 2, 1) := by decide +kernel
theorem dX11_meets_60 : decode cX11_meets 60 = .ok (.ishl, 1) := by decide +kernel
theorem dX11_meets_61 : decode cX11_meets 61 = .ok (.ior, 1) := by decide +kernel
theorem dX11_meets_62 : decode cX11_meets 62 = .ok (.iastore, 1) := by decide +kernel
theorem dX11_meets_63 : decode cX11_meets 63 = .ok (.aload_n 0, 1) := by decide +kernel
theorem dX11_meets_64 : decode cX11_meets 64 = .ok (.getfield 41, 3) := by decide +kernel
theorem dX11_meets_67 : decode cX11_meets 67 = .ok (.getfield 97, 3) := by decide +kernel
theorem dX11_meets_70 : decode cX11_meets 70 = .ok (.iload_n 2, 1) := by decide +kernel
theorem dX11_meets_71 : decode cX11_meets 71 = .ok (.dup2, 1) := by decide +kernel
theorem dX11_meets_72 : decode cX11_meets 72 = .ok (.iaload, 1) := by decide +kernel
theorem dX11_meets_73 : decode cX11_meets 73 = .ok (.iconst 1, 1) := by decide +kernel
theorem dX11_meets_74 : decode cX11_meets 74 = .ok (.iload_n 1, 1) := by decide +kernel
theorem dX11_meets_75 : decode cX11_meets 75 = .ok (.ishl, 1) := by decide +kernel
theorem dX11_meets_76 : decode cX11_meets 76 = .ok (.ior, 1) := by decide +kernel
theorem dX11_meets_77 : decode cX11_meets 77 = .ok (.iastore, 1) := by decide +kernel
theorem dX11_meets_78 : decode cX11_meets 78 = .ok (.goto 37, 3) := by decide +kernel
theorem dX11_meets_81 : decode cX11_meets 81 = .ok (.aload_n 0, 1) := by decide +kernel
theorem dX11_meets_82 : decode cX11_meets 82 = .ok (.getfield 41, 3) := by decide +kernel
theorem dX11_meets_85 : decode cX11_meets 85 = .ok (.getfield 97, 3) := by decide +kernel
theorem dX11_meets_88 : decode cX11_meets 88 = .ok (.iload_n 1, 1) := by decide +kernel
theorem dX11_meets_89 : decode cX11_meets 89 = .ok (.dup2, 1) := by decide +kernel
theorem dX11_meets_90 : decode cX11_meets 90 = .ok (.iaload, 1) := by decide +kernel
theorem dX11_meets_91 : decode cX11_meets 91 = .ok (.iconst 1, 1) := by decide +kernel
theorem dX11_meets_92 : decode cX11_meets 92 = .ok (.iload_n 2, 1) := by decide +kernel
theorem dX11_meets_93 : decode cX11_meets 93 = .ok (.ishl, 1) := by decide +kernel
theorem dX11_meets_94 : decode cX11_meets 94 = .ok (.iconst (-1), 1) := by decide +kernel
theorem dX11_meets_95 : decode cX11_meets 95 = .ok (.ixor, 1) := by decide +kernel
theorem dX11_meets_96 : decode cX11_meets 96 = .ok (.iand, 1) := by decide +kernel
theorem dX11_meets_97 : decode cX11_meets 97 = .ok (.iastore, 1) := by decide +kernel
theorem dX11_meets_98 : decode cX11_meets 98 = .ok (.aload_n 0, 1) := by decide +kernel
theorem dX11_meets_99 : decode cX11_meets 99 = .ok (.getfield 41, 3) := by decide +kernel
theorem dX11_meets_102 : decode cX11_meets 102 = .ok (.getfield 97, 3) := by decide +kernel
theorem dX11_meets_105 : decode cX11_meets 105 = .ok (.iload_n 2, 1) := by decide +kernel
theorem dX11_meets_106 : decode cX11_meets 106 = .ok (.dup2, 1) := by decide +kernel
theorem dX11_meets_107 : decode cX11_meets 107 = .ok (.iaload, 1) := by decide +kernel
theorem dX11_meets_108 : decode cX11_meets 108 = .ok (.iconst 1, 1) := by decide +kernel
theorem dX11_meets_109 : decode cX11_meets 109 = .ok (.iload_n 1, 1) := by decide +kernel
theorem dX11_meets_110 : decode cX11_meets 110 = .ok (.ishl, 1) := by decide +kernel
theorem dX11_meets_111 : decode cX11_meets 111 = .ok (.iconst (-1), 1) := by decide +kernel
theorem dX11_meets_112 : decode cX11_meets 112 = .ok (.ixor, 1) := by decide +kernel
theorem dX11_meets_113 : decode cX11_meets 113 = .ok (.iand, 1) := by decide +kernel
theorem dX11_meets_114 : decode cX11_meets 114 = .ok (.iastore, 1) := by decide +kernel
theorem dX11_meets_115 : decode cX11_meets 115 = .ok (.iload 4, 2) := by decide +kernel
theorem dX11_meets_117 : decode cX11_meets 117 = .ok (.ireturn, 1) := by decide +kernel
theorem dX11_worth_0 : decode cX11_worth 0 = .ok (.iload_n 1, 1) := by decide +kernel
theorem dX11_worth_1 : decode cX11_worth 1 = .ok (.invokestatic 76, 3) := by decide +kernel
theorem dX11_worth_4 : decode cX11_worth 4 = .ok (.ifCond .eq 13, 3) := by decide +kernel
theorem dX11_worth_7 : decode cX11_worth 7 = .ok (.iload_n 2, 1) := by decide +kernel
theorem dX11_worth_8 : decode cX11_worth 8 = .ok (.iconst 0, 1) := by decide +kernel
theorem dX11_worth_9 : decode cX11_worth 9 = .ok (.bipush 99, 2) := by decide +kernel
theorem dX11_worth_11 : decode cX11_worth 11 = .ok (.invokestatic 72, 3) := by decide +kernel
theorem dX11_worth_14 : decode cX11_worth 14 = .ok (.ifCond .ne 5, 3) := by decide +kernel
theorem dX11_worth_17 : decode cX11_worth 17 = .ok (.iconst (-1), 1) := by decide +kernel
theorem dX11_worth_18 : decode cX11_worth 18 = .ok (.ireturn, 1) := by decide +kernel
theorem dX11_worth_19 : decode cX11_worth 19 = .ok (.aload_n 0, 1) := by decide +kernel
theorem dX11_worth_20 : decode cX11_worth 20 = .ok (.getfield 41, 3) := by decide +kernel
theorem dX11_worth_23 : decode cX11_worth 23 = .ok (.getfield 114, 3) := by decide +kernel
theorem dX11_worth_26 : decode cX11_worth 26 = .ok (.iload_n 1, 1) := by decide +kernel
theorem dX11_worth_27 : decode cX11_worth 27 = .ok (.iaload, 1) := by decide +kernel
theorem dX11_worth_28 : decode cX11_worth 28 = .ok (.istore_n 3, 1) := by decide +kernel
theorem dX11_worth_29 : decode cX11_worth 29 = .ok (.aload_n 0, 1) := by decide +kernel
theorem dX11_worth_30 : decode cX11_worth 30 = .ok (.getfield 41, 3) := by decide +kernel
theorem dX11_worth_33 : decode cX11_worth 33 = .ok (.getfield 114, 3) := by decide +kernel
theorem dX11_worth_36 : decode cX11_worth 36 = .ok (.iload_n 1, 1) := by decide +kernel
theorem dX11_worth_37 : decode cX11_worth 37 = .ok (.iload_n 2, 1) := by decide +kernel
theorem dX11_worth_38 : decode cX11_worth 38 = .ok (.iastore, 1) := by decide +kernel
theorem dX11_worth_39 : decode cX11_worth 39 = .ok (.iload_n 3, 1) := by decide +kernel
theorem dX11_worth_40 : decode cX11_worth 40 = .ok (.ireturn, 1) := by decide +kernel
theorem dX11_jar_0 : decode cX11_jar 0 = .ok (.iload_n 1, 1) := by decide +kernel
theorem dX11_jar_1 : decode cX11_jar 1 = .ok (.invokestatic 76, 3) := by decide +kernel
theorem dX11_jar_4 : decode cX11_jar 4 = .ok (.ifCond .eq 13, 3) := by decide +kernel
theorem dX11_jar_7 : decode cX11_jar 7 = .ok (.iload_n 2, 1) := by decide +kernel
theorem dX11_jar_8 : decode cX11_jar 8 = .ok (.iconst 0, 1) := by decide +kernel
theorem dX11_jar_9 : decode cX11_jar 9 = .ok (.bipush 9, 2) := by decide +kernel
theorem dX11_jar_11 : decode cX11_jar 11 = .ok (.invokestatic 72, 3) := by decide +kernel
theorem dX11_jar_14 : decode cX11_jar 14 = .ok (.ifCond .ne 5, 3) := by decide +kernel
theorem dX11_jar_17 : decode cX11_jar 17 = .ok (.iconst (-1), 1) := by decide +kernel
theorem dX11_jar_18 : decode cX11_jar 18 = .ok (.ireturn, 1) := by decide +kernel
theorem dX11_jar_19 : decode cX11_jar 19 = .ok (.aload_n 0, 1) := by decide +kernel
theorem dX11_jar_20 : decode cX11_jar 20 = .ok (.getfield 41, 3) := by decide +kernel
theorem dX11_jar_23 : decode cX11_jar 23 = .ok (.getfield 117, 3) := by decide +kernel
theorem dX11_jar_26 : decode cX11_jar 26 = .ok (.iload_n 1, 1) := by decide +kernel
theorem dX11_jar_27 : decode cX11_jar 27 = .ok (.iaload, 1) := by decide +kernel
theorem dX11_jar_28 : decode cX11_jar 28 = .ok (.istore_n 3, 1) := by decide +kernel
theorem dX11_jar_29 : decode cX11_jar 29 = .ok (.aload_n 0, 1) := by decide +kernel
theorem dX11_jar_30 : decode cX11_jar 30 = .ok (.getfield 41, 3) := by decide +kernel
theorem dX11_jar_33 : decode cX11_jar 33 = .ok (.getfield 117, 3) := by decide +kernel
theorem dX11_jar_36 : decode cX11_jar 36 = .ok (.iload_n 1, 1) := by decide +kernel
theorem dX11_jar_37 : decode cX11_jar 37 = .ok (.iload_n 2, 1) := by decide +kernel
theorem dX11_jar_38 : decode cX11_jar 38 = .ok (.iastore, 1) := by decide +kernel
theorem dX11_jar_39 : decode cX11_jar 39 = .ok (.iload_n 3, 1) := by decide +kernel
theorem dX11_jar_40 : decode cX11_jar 40 = .ok (.ireturn, 1) := by decide +kernel
theorem dX11_fee_0 : decode cX11_fee 0 = .ok (.iload_n 1, 1) := by decide +kernel
theorem dX11_fee_1 : decode cX11_fee 1 = .ok (.iconst 0, 1) := by decide +kernel
theorem dX11_fee_2 : decode cX11_fee 2 = .ok (.bipush 50, 2) := by decide +kernel
theorem dX11_fee_4 : decode cX11_fee 4 = .ok (.invokestatic 72, 3) := by decide +kernel
theorem dX11_fee_7 : decode cX11_fee 7 = .ok (.ifCond .ne 5, 3) := by decide +kernel
theorem dX11_fee_10 : decode cX11_fee 10 = .ok (.iconst (-1), 1) := by decide +kernel
theorem dX11_fee_11 : decode cX11_fee 11 = .ok (.ireturn, 1) := by decide +kernel
theorem dX11_fee_12 : decode cX11_fee 12 = .ok (.aload_n 0, 1) := by decide +kernel
theorem dX11_fee_13 : decode cX11_fee 13 = .ok (.getfield 41, 3) := by decide +kernel
theorem dX11_fee_16 : decode cX11_fee 16 = .ok (.getfield 120, 3) := by decide +kernel
theorem dX11_fee_19 : decode cX11_fee 19 = .ok (.istore_n 2, 1) := by decide +kernel
theorem dX11_fee_20 : decode cX11_fee 20 = .ok (.aload_n 0, 1) := by decide +kernel
theorem dX11_fee_21 : decode cX11_fee 21 = .ok (.getfield 41, 3) := by decide +kernel
theorem dX11_fee_24 : decode cX11_fee 24 = .ok (.iload_n 1, 1) := by decide +kernel
theorem dX11_fee_25 : decode cX11_fee 25 = .ok (.putfield 120, 3) := by decide +kernel
theorem dX11_fee_28 : decode cX11_fee 28 = .ok (.iload_n 2, 1) := by decide +kernel
theorem dX11_fee_29 : decode cX11_fee 29 = .ok (.ireturn, 1) := by decide +kernel
theorem dX11_thing_0 : decode cX11_thing 0 = .ok (.iload_n 1, 1) := by decide +kernel
theorem dX11_thing_1 : decode cX11_thing 1 = .ok (.invokestatic 76, 3) := by decide +kernel
theorem dX11_thing_4 : decode cX11_thing 4 = .ok (.ifCond .ne 5, 3) := by decide +kernel
theorem dX11_thing_7 : decode cX11_thing 7 = .ok (.iconst (-1), 1) := by decide +kernel
theorem dX11_thing_8 : decode cX11_thing 8 = .ok (.ireturn, 1) := by decide +kernel
theorem dX11_thing_9 : decode cX11_thing 9 = .ok (.iload_n 2, 1) := by decide +kernel
theorem dX11_thing_10 : decode cX11_thing 10 = .ok (.tableswitch 82 0 3 #[30, 40, 50, 66], 30) := by decide +kernel
theorem dX11_thing_40 : decode cX11_thing 40 = .ok (.aload_n 0, 1) := by decide +kernel
theorem dX11_thing_41 : decode cX11_thing 41 = .ok (.getfield 41, 3) := by decide +kernel
theorem dX11_thing_44 : decode cX11_thing 44 = .ok (.getfield 114, 3) := by decide +kernel
theorem dX11_thing_47 : decode cX11_thing 47 = .ok (.iload_n 1, 1) := by decide +kernel
theorem dX11_thing_48 : decode cX11_thing 48 = .ok (.iaload, 1) := by decide +kernel
theorem dX11_thing_49 : decode cX11_thing 49 = .ok (.ireturn, 1) := by decide +kernel
theorem dX11_thing_50 : decode cX11_thing 50 = .ok (.aload_n 0, 1) := by decide +kernel
theorem dX11_thing_51 : decode cX11_thing 51 = .ok (.getfield 41, 3) := by decide +kernel
theorem dX11_thing_54 : decode cX11_thing 54 = .ok (.getfield 117, 3) := by decide +kernel
theorem dX11_thing_57 : decode cX11_thing 57 = .ok (.iload_n 1, 1) := by decide +kernel
theorem dX11_thing_58 : decode cX11_thing 58 = .ok (.iaload, 1) := by decide +kernel
theorem dX11_thing_59 : decode cX11_thing 59 = .ok (.ireturn, 1) := by decide +kernel
theorem dX11_thing_60 : decode cX11_thing 60 = .ok (.aload_n 0, 1) := by decide +kernel
theorem dX11_thing_61 : decode cX11_thing 61 = .ok (.getfield 41, 3) := by decide +kernel
theorem dX11_thing_64 : decode cX11_thing 64 = .ok (.aload_n 0, 1) := by decide +kernel
theorem dX11_thing_65 : decode cX11_thing 65 = .ok (.getfield 41, 3) := by decide +kernel
theorem dX11_thing_68 : decode cX11_thing 68 = .ok (.getfield 88, 3) := by decide +kernel
theorem dX11_thing_71 : decode cX11_thing 71 = .ok (.iload_n 1, 1) := by decide +kernel
theorem dX11_thing_72 : decode cX11_thing 72 = .ok (.invokevirtual 123, 3) := by decide +kernel
theorem dX11_thing_75 : decode cX11_thing 75 = .ok (.ireturn, 1) := by decide +kernel
theorem dX11_thing_76 : decode cX11_thing 76 = .ok (.aload_n 0, 1) := by decide +kernel
theorem dX11_thing_77 : decode cX11_thing 77 = .ok (.getfield 41, 3) := by decide +kernel
theorem dX11_thing_80 : decode cX11_thing 80 = .ok (.aload_n 0, 1) := by decide +kernel
theorem dX11_thing_81 : decode cX11_thing 81 = .ok (.getfield 41, 3) := by decide +kernel
theorem dX11_thing_84 : decode cX11_thing 84 = .ok (.getfield 91, 3) := by decide +kernel
theorem dX11_thing_87 : decode cX11_thing 87 = .ok (.iload_n 1, 1) := by decide +kernel
theorem dX11_thing_88 : decode cX11_thing 88 = .ok (.invokevirtual 123, 3) := by decide +kernel
theorem dX11_thing_91 : decode cX11_thing 91 = .ok (.ireturn, 1) := by decide +kernel
theorem dX11_thing_92 : decode cX11_thing 92 = .ok (.iconst (-1), 1) := by decide +kernel
theorem dX11_thing_93 : decode cX11_thing 93 = .ok (.ireturn, 1) := by decide +kernel
theorem dX11_state_0 : decode cX11_state 0 = .ok (.iload_n 1, 1) := by decide +kernel
theorem dX11_state_1 : decode cX11_state 1 = .ok (.tableswitch 63 0 3 #[31, 39, 47, 55], 31) := by decide +kernel
theorem dX11_state_32 : decode cX11_state 32 = .ok (.aload_n 0, 1) := by decide +kernel
theorem dX11_state_33 : decode cX11_state 33 = .ok (.getfield 41, 3) := by decide +kernel
theorem dX11_state_36 : decode cX11_state 36 = .ok (.getfield 111, 3) := by decide +kernel
theorem dX11_state_39 : decode cX11_state 39 = .ok (.ireturn, 1) := by decide +kernel
theorem dX11_state_40 : decode cX11_state 40 = .ok (.aload_n 0, 1) := by decide +kernel
theorem dX11_state_41 : decode cX11_state 41 = .ok (.getfield 41, 3) := by decide +kernel
theorem dX11_state_44 : decode cX11_state 44 = .ok (.invokevirtual 127, 3) := by decide +kernel
theorem dX11_state_47 : decode cX11_state 47 = .ok (.ireturn, 1) := by decide +kernel
theorem dX11_state_48 : decode cX11_state 48 = .ok (.aload_n 0, 1) := by decide +kernel
theorem dX11_state_49 : decode cX11_state 49 = .ok (.getfield 41, 3) := by decide +kernel
theorem dX11_state_52 : decode cX11_state 52 = .ok (.getfield 120, 3) := by decide +kernel
theorem dX11_state_55 : decode cX11_state 55 = .ok (.ireturn, 1) := by decide +kernel
theorem dX11_state_56 : decode cX11_state 56 = .ok (.aload_n 0, 1) := by decide +kernel
theorem dX11_state_57 : decode cX11_state 57 = .ok (.getfield 41, 3) := by decide +kernel
theorem dX11_state_60 : decode cX11_state 60 = .ok (.getfield 131, 3) := by decide +kernel
theorem dX11_state_63 : decode cX11_state 63 = .ok (.ireturn, 1) := by decide +kernel
theorem dX11_state_64 : decode cX11_state 64 = .ok (.iconst (-1), 1) := by decide +kernel
theorem dX11_state_65 : decode cX11_state 65 = .ok (.ireturn, 1) := by decide +kernel
theorem dX11_feed_0 : decode cX11_feed 0 = .ok (.iload_n 3, 1) := by decide +kernel
theorem dX11_feed_1 : decode cX11_feed 1 = .ok (.iconst 1, 1) := by decide +kernel
theorem dX11_feed_2 : decode cX11_feed 2 = .ok (.bipush 8, 2) := by decide +kernel
theorem dX11_feed_4 : decode cX11_feed 4 = .ok (.invokestatic 72, 3) := by decide +kernel
theorem dX11_feed_7 : decode cX11_feed 7 = .ok (.ifCond .ne 5, 3) := by decide +kernel
theorem dX11_feed_10 : decode cX11_feed 10 = .ok (.iconst (-1), 1) := by decide +kernel
theorem dX11_feed_11 : decode cX11_feed 11 = .ok (.ireturn, 1) := by decide +kernel
theorem dX11_feed_12 : decode cX11_feed 12 = .ok (.aload_n 0, 1) := by decide +kernel
theorem dX11_feed_13 : decode cX11_feed 13 = .ok (.getfield 63, 3) := by decide +kernel
theorem dX11_feed_16 : decode cX11_feed 16 = .ok (.getfield 134, 3) := by decide +kernel
theorem dX11_feed_19 : decode cX11_feed 19 = .ok (.iload_n 3, 1) := by decide +kernel
theorem dX11_feed_20 : decode cX11_feed 20 = .ok (.iadd, 1) := by decide +kernel
theorem dX11_feed_21 : decode cX11_feed 21 = .ok (.sipush 200, 3) := by decide +kernel
theorem dX11_feed_24 : decode cX11_feed 24 = .ok (.if_icmp .le 6, 3) := by decide +kernel
theorem dX11_feed_27 : decode cX11_feed 27 = .ok (.bipush (-2), 2) := by decide +kernel
theorem dX11_feed_29 : decode cX11_feed 29 = .ok (.ireturn, 1) := by decide +kernel
theorem dX11_feed_30 : decode cX11_feed 30 = .ok (.iconst 0, 1) := by decide +kernel
theorem dX11_feed_31 : decode cX11_feed 31 = .ok (.istore 4, 2) := by decide +kernel
theorem dX11_feed_33 : decode cX11_feed 33 = .ok (.iload 4, 2) := by decide +kernel
theorem dX11_feed_35 : decode cX11_feed 35 = .ok (.iload_n 3, 1) := by decide +kernel
theorem dX11_feed_36 : decode cX11_feed 36 = .ok (.if_icmp .ge 49, 3) := by decide +kernel
theorem dX11_feed_39 : decode cX11_feed 39 = .ok (.aload_n 0, 1) := by decide +kernel
theorem dX11_feed_40 : decode cX11_feed 40 = .ok (.getfield 63, 3) := by decide +kernel
theorem dX11_feed_43 : decode cX11_feed 43 = .ok (.getfield 137, 3) := by decide +kernel
theorem dX11_feed_46 : decode cX11_feed 46 = .ok (.aload_n 0, 1) := by decide +kernel
theorem dX11_feed_47 : decode cX11_feed 47 = .ok (.getfield 63, 3) := by decide +kernel
theorem dX11_feed_50 : decode cX11_feed 50 = .ok (.getfield 134, 3) := by decide +kernel
theorem dX11_feed_53 : decode cX11_feed 53 = .ok (.lload_n 1, 1) := by decide +kernel
theorem dX11_feed_54 : decode cX11_feed 54 = .ok (.bipush 8, 2) := by decide +kernel
theorem dX11_feed_56 : decode cX11_feed 56 = .ok (.iload 4, 2) := by decide +kernel
theorem dX11_feed_58 : decode cX11_feed 58 = .ok (.imul, 1) := by decide +kernel
theorem dX11_feed_59 : decode cX11_feed 59 = .ok (.lushr, 1) := by decide +kernel
theorem dX11_feed_60 : decode cX11_feed 60 = .ok (.l2i, 1) := by decide +kernel
theorem dX11_feed_61 : decode cX11_feed 61 = .ok (.sipush 255, 3) := by decide +kernel
theorem dX11_feed_64 : decode cX11_feed 64 = .ok (.iand, 1) := by decide +kernel
theorem dX11_feed_65 : decode cX11_feed 65 = .ok (.iastore, 1) := by decide +kernel
theorem dX11_feed_66 : decode cX11_feed 66 = .ok (.aload_n 0, 1) := by decide +kernel
theorem dX11_feed_67 : decode cX11_feed 67 = .ok (.getfield 63, 3) := by decide +kernel
theorem dX11_feed_70 : decode cX11_feed 70 = .ok (.dup, 1) := by decide +kernel
theorem dX11_feed_71 : decode cX11_feed 71 = .ok (.getfield 134, 3) := by decide +kernel
theorem dX11_feed_74 : decode cX11_feed 74 = .ok (.iconst 1, 1) := by decide +kernel
theorem dX11_feed_75 : decode cX11_feed 75 = .ok (.iadd, 1) := by decide +kernel
theorem dX11_feed_76 : decode cX11_feed 76 = .ok (.putfield 134, 3) := by decide +kernel
theorem dX11_feed_79 : decode cX11_feed 79 = .ok (.iinc 4 1, 3) := by decide +kernel
theorem dX11_feed_82 : decode cX11_feed 82 = .ok (.goto (-49), 3) := by decide +kernel
theorem dX11_feed_85 : decode cX11_feed 85 = .ok (.aload_n 0, 1) := by decide +kernel
theorem dX11_feed_86 : decode cX11_feed 86 = .ok (.getfield 63, 3) := by decide +kernel
theorem dX11_feed_89 : decode cX11_feed 89 = .ok (.getfield 134, 3) := by decide +kernel
theorem dX11_feed_92 : decode cX11_feed 92 = .ok (.ireturn, 1) := by decide +kernel
theorem dX11_rules_0 : decode cX11_rules 0 = .ok (.aload_n 0, 1) := by decide +kernel
theorem dX11_rules_1 : decode cX11_rules 1 = .ok (.getfield 63, 3) := by decide +kernel
theorem dX11_rules_4 : decode cX11_rules 4 = .ok (.invokevirtual 140, 3) := by decide +kernel
theorem dX11_rules_7 : decode cX11_rules 7 = .ok (.istore_n 1, 1) := by decide +kernel
theorem dX11_rules_8 : decode cX11_rules 8 = .ok (.iload_n 1, 1) := by decide +kernel
theorem dX11_rules_9 : decode cX11_rules 9 = .ok (.ifCond .lt 8, 3) := by decide +kernel
theorem dX11_rules_12 : decode cX11_rules 12 = .ok (.bipush (-100), 2) := by decide +kernel
theorem dX11_rules_14 : decode cX11_rules 14 = .ok (.iload_n 1, 1) := by decide +kernel
theorem dX11_rules_15 : decode cX11_rules 15 = .ok (.isub, 1) := by decide +kernel
theorem dX11_rules_16 : decode cX11_rules 16 = .ok (.ireturn, 1) := by decide +kernel
theorem dX11_rules_17 : decode cX11_rules 17 = .ok (.aload_n 0, 1) := by decide +kernel
theorem dX11_rules_18 : decode cX11_rules 18 = .ok (.getfield 41, 3) := by decide +kernel
theorem dX11_rules_21 : decode cX11_rules 21 = .ok (.getfield 143, 3) := by decide +kernel
theorem dX11_rules_24 : decode cX11_rules 24 = .ok (.aload_n 0, 1) := by decide +kernel
theorem dX11_rules_25 : decode cX11_rules 25 = .ok (.getfield 63, 3) := by decide +kernel
theorem dX11_rules_28 : decode cX11_rules 28 = .ok (.getfield 147, 3) := by decide +kernel
theorem dX11_rules_31 : decode cX11_rules 31 = .ok (.invokevirtual 150, 3) := by decide +kernel
theorem dX11_rules_34 : decode cX11_rules 34 = .ok (.aload_n 0, 1) := by decide +kernel
theorem dX11_rules_35 : decode cX11_rules 35 = .ok (.getfield 41, 3) := by decide +kernel
theorem dX11_rules_38 : decode cX11_rules 38 = .ok (.getfield 143, 3) := by decide +kernel
theorem dX11_rules_41 : decode cX11_rules 41 = .ok (.getfield 156, 3) := by decide +kernel
theorem dX11_rules_44 : decode cX11_rules 44 = .ok (.ireturn, 1) := by decide +kernel
theorem dX11_cans_0 : decode cX11_cans 0 = .ok (.iload_n 1, 1) := by decide +kernel
theorem dX11_cans_1 : decode cX11_cans 1 = .ok (.iconst (-1), 1) := by decide +kernel
theorem dX11_cans_2 : decode cX11_cans 2 = .ok (.if_icmp .ge 5, 3) := by decide +kernel
theorem dX11_cans_5 : decode cX11_cans 5 = .ok (.iconst (-1), 1) := by decide +kernel
theorem dX11_cans_6 : decode cX11_cans 6 = .ok (.ireturn, 1) := by decide +kernel
theorem dX11_cans_7 : decode cX11_cans 7 = .ok (.getstatic 159, 3) := by decide +kernel
theorem dX11_cans_10 : decode cX11_cans 10 = .ok (.astore_n 2, 1) := by decide +kernel
theorem dX11_cans_11 : decode cX11_cans 11 = .ok (.aload_n 2, 1) := by decide +kernel
theorem dX11_cans_12 : decode cX11_cans 12 = .ok (.arraylength, 1) := by decide +kernel
theorem dX11_cans_13 : decode cX11_cans 13 = .ok (.istore_n 3, 1) := by decide +kernel
theorem dX11_cans_14 : decode cX11_cans 14 = .ok (.iconst 0, 1) := by decide +kernel
theorem dX11_cans_15 : decode cX11_cans 15 = .ok (.istore 4, 2) := by decide +kernel
theorem dX11_cans_17 : decode cX11_cans 17 = .ok (.iload 4, 2) := by decide +kernel
theorem dX11_cans_19 : decode cX11_cans 19 = .ok (.iload_n 3, 1) := by decide +kernel
theorem dX11_cans_20 : decode cX11_cans 20 = .ok (.if_icmp .ge 36, 3) := by decide +kernel
theorem dX11_cans_23 : decode cX11_cans 23 = .ok (.aload_n 2, 1) := by decide +kernel
theorem dX11_cans_24 : decode cX11_cans 24 = .ok (.iload 4, 2) := by decide +kernel
theorem dX11_cans_26 : decode cX11_cans 26 = .ok (.iaload, 1) := by decide +kernel
theorem dX11_cans_27 : decode cX11_cans 27 = .ok (.istore 5, 2) := by decide +kernel
theorem dX11_cans_29 : decode cX11_cans 29 = .ok (.iload 5, 2) := by decide +kernel
theorem dX11_cans_31 : decode cX11_cans 31 = .ok (.iload_n 1, 1) := by decide +kernel
theorem dX11_cans_32 : decode cX11_cans 32 = .ok (.if_icmp .le 18, 3) := by decide +kernel
theorem dX11_cans_35 : decode cX11_cans 35 = .ok (.aload_n 0, 1) := by decide +kernel
theorem dX11_cans_36 : decode cX11_cans 36 = .ok (.getfield 41, 3) := by decide +kernel
theorem dX11_cans_39 : decode cX11_cans 39 = .ok (.iload 5, 2) := by decide +kernel
theorem dX11_cans_41 : decode cX11_cans 41 = .ok (.invokevirtual 162, 3) := by decide +kernel
theorem dX11_cans_44 : decode cX11_cans 44 = .ok (.ifCond .eq 6, 3) := by decide +kernel
theorem dX11_cans_47 : decode cX11_cans 47 = .ok (.iload 5, 2) := by decide +kernel
theorem dX11_cans_49 : decode cX11_cans 49 = .ok (.ireturn, 1) := by decide +kernel
theorem dX11_cans_50 : decode cX11_cans 50 = .ok (.iinc 4 1, 3) := by decide +kernel
theorem dX11_cans_53 : decode cX11_cans 53 = .ok (.goto (-36), 3) := by decide +kernel
theorem dX11_cans_56 : decode cX11_cans 56 = .ok (.bipush (-3), 2) := by decide +kernel
theorem dX11_cans_58 : decode cX11_cans 58 = .ok (.ireturn, 1) := by decide +kernel
theorem dX11_make_0 : decode cX11_make 0 = .ok (.aload_n 0, 1) := by decide +kernel
theorem dX11_make_1 : decode cX11_make 1 = .ok (.getfield 41, 3) := by decide +kernel
theorem dX11_make_4 : decode cX11_make 4 = .ok (.iload_n 1, 1) := by decide +kernel
theorem dX11_make_5 : decode cX11_make 5 = .ok (.invokevirtual 104, 3) := by decide +kernel
theorem dX11_make_8 : decode cX11_make 8 = .ok (.ifCond .eq 25, 3) := by decide +kernel
theorem dX11_make_11 : decode cX11_make 11 = .ok (.iload_n 2, 1) := by decide +kernel
theorem dX11_make_12 : decode cX11_make 12 = .ok (.bipush 9, 2) := by decide +kernel
theorem dX11_make_14 : decode cX11_make 14 = .ok (.if_icmp .eq 21, 3) := by decide +kernel
theorem dX11_make_17 : decode cX11_make 17 = .ok (.iload_n 2, 1) := by decide +kernel
theorem dX11_make_18 : decode cX11_make 18 = .ok (.iload_n 1, 1) := by decide +kernel
theorem dX11_make_19 : decode cX11_make 19 = .ok (.if_icmp .le 14, 3) := by decide +kernel
theorem dX11_make_22 : decode cX11_make 22 = .ok (.aload_n 0, 1) := by decide +kernel
theorem dX11_make_23 : decode cX11_make 23 = .ok (.getfield 41, 3) := by decide +kernel
theorem dX11_make_26 : decode cX11_make 26 = .ok (.iload_n 2, 1) := by decide +kernel
theorem dX11_make_27 : decode cX11_make 27 = .ok (.invokevirtual 104, 3) := by decide +kernel
theorem dX11_make_30 : decode cX11_make 30 = .ok (.ifCond .ne 5, 3) := by decide +kernel
theorem dX11_make_33 : decode cX11_make 33 = .ok (.iconst (-1), 1) := by decide +kernel
theorem dX11_make_34 : decode cX11_make 34 = .ok (.ireturn, 1) := by decide +kernel
theorem dX11_make_35 : decode cX11_make 35 = .ok (.bipush 10, 2) := by decide +kernel
theorem dX11_make_37 : decode cX11_make 37 = .ok (.iload_n 1, 1) := by decide +kernel
theorem dX11_make_38 : decode cX11_make 38 = .ok (.imul, 1) := by decide +kernel
theorem dX11_make_39 : decode cX11_make 39 = .ok (.iload_n 2, 1) := by decide +kernel
theorem dX11_make_40 : decode cX11_make 40 = .ok (.iadd, 1) := by decide +kernel
theorem dX11_make_41 : decode cX11_make 41 = .ok (.istore_n 3, 1) := by decide +kernel
theorem dX11_make_42 : decode cX11_make 42 = .ok (.aload_n 0, 1) := by decide +kernel
theorem dX11_make_43 : decode cX11_make 43 = .ok (.getfield 41, 3) := by decide +kernel
theorem dX11_make_46 : decode cX11_make 46 = .ok (.iload_n 3, 1) := by decide +kernel
theorem dX11_make_47 : decode cX11_make 47 = .ok (.invokevirtual 162, 3) := by decide +kernel
theorem dX11_make_50 : decode cX11_make 50 = .ok (.ifCond .eq 14, 3) := by decide +kernel
theorem dX11_make_53 : decode cX11_make 53 = .ok (.aload_n 0, 1) := by decide +kernel
theorem dX11_make_54 : decode cX11_make 54 = .ok (.getfield 41, 3) := by decide +kernel
theorem dX11_make_57 : decode cX11_make 57 = .ok (.iload_n 3, 1) := by decide +kernel
theorem dX11_make_58 : decode cX11_make 58 = .ok (.invokevirtual 165, 3) := by decide +kernel
theorem dX11_make_61 : decode cX11_make 61 = .ok (.goto 5, 3) := by decide +kernel
theorem dX11_make_64 : decode cX11_make 64 = .ok (.bipush (-4), 2) := by decide +kernel
theorem dX11_make_66 : decode cX11_make 66 = .ok (.ireturn, 1) := by decide +kernel
theorem dX11_back_0 : decode cX11_back 0 = .ok (.aload_n 0, 1) := by decide +kernel
theorem dX11_back_1 : decode cX11_back 1 = .ok (.getfield 41, 3) := by decide +kernel
theorem dX11_back_4 : decode cX11_back 4 = .ok (.invokevirtual 168, 3) := by decide +kernel
theorem dX11_back_7 : decode cX11_back 7 = .ok (.ireturn, 1) := by decide +kernel
theorem dX11_fewest_0 : decode cX11_fewest 0 = .ok (.aload_n 0, 1) := by decide +kernel
theorem dX11_fewest_1 : decode cX11_fewest 1 = .ok (.getfield 56, 3) := by decide +kernel
theorem dX11_fewest_4 : decode cX11_fewest 4 = .ok (.aload_n 0, 1) := by decide +kernel
theorem dX11_fewest_5 : decode cX11_fewest 5 = .ok (.getfield 41, 3) := by decide +kernel
theorem dX11_fewest_8 : decode cX11_fewest 8 = .ok (.iconst 0, 1) := by decide +kernel
theorem dX11_fewest_9 : decode cX11_fewest 9 = .ok (.bipush 6, 2) := by decide +kernel
theorem dX11_fewest_11 : decode cX11_fewest 11 = .ok (.invokevirtual 171, 3) := by decide +kernel
theorem dX11_fewest_14 : decode cX11_fewest 14 = .ok (.ireturn, 1) := by decide +kernel
theorem dX11_ith_0 : decode cX11_ith 0 = .ok (.iload_n 1, 1) := by decide +kernel
theorem dX11_ith_1 : decode cX11_ith 1 = .ok (.iconst 0, 1) := by decide +kernel
theorem dX11_ith_2 : decode cX11_ith 2 = .ok (.iconst 5, 1) := by decide +kernel
theorem dX11_ith_3 : decode cX11_ith 3 = .ok (.invokestatic 72, 3) := by decide +kernel
theorem dX11_ith_6 : decode cX11_ith 6 = .ok (.ifCond .ne 5, 3) := by decide +kernel
theorem dX11_ith_9 : decode cX11_ith 9 = .ok (.iconst (-1), 1) := by decide +kernel
theorem dX11_ith_10 : decode cX11_ith 10 = .ok (.ireturn, 1) := by decide +kernel
theorem dX11_ith_11 : decode cX11_ith 11 = .ok (.iload_n 1, 1) := by decide +kernel
theorem dX11_ith_12 : decode cX11_ith 12 = .ok (.aload_n 0, 1) := by decide +kernel
theorem dX11_ith_13 : decode cX11_ith 13 = .ok (.getfield 56, 3) := by decide +kernel
theorem dX11_ith_16 : decode cX11_ith 16 = .ok (.aload_n 0, 1) := by decide +kernel
theorem dX11_ith_17 : decode cX11_ith 17 = .ok (.getfield 41, 3) := by decide +kernel
theorem dX11_ith_20 : decode cX11_ith 20 = .ok (.iconst 0, 1) := by decide +kernel
theorem dX11_ith_21 : decode cX11_ith 21 = .ok (.bipush 6, 2) := by decide +kernel
theorem dX11_ith_23 : decode cX11_ith 23 = .ok (.invokevirtual 171, 3) := by decide +kernel
theorem dX11_ith_26 : decode cX11_ith 26 = .ok (.if_icmp .ge 15, 3) := by decide +kernel
theorem dX11_ith_29 : decode cX11_ith 29 = .ok (.aload_n 0, 1) := by decide +kernel
theorem dX11_ith_30 : decode cX11_ith 30 = .ok (.getfield 56, 3) := by decide +kernel
theorem dX11_ith_33 : decode cX11_ith 33 = .ok (.getfield 175, 3) := by decide +kernel
theorem dX11_ith_36 : decode cX11_ith 36 = .ok (.iload_n 1, 1) := by decide +kernel
theorem dX11_ith_37 : decode cX11_ith 37 = .ok (.iaload, 1) := by decide +kernel
theorem dX11_ith_38 : decode cX11_ith 38 = .ok (.goto 5, 3) := by decide +kernel
theorem dX11_ith_41 : decode cX11_ith 41 = .ok (.bipush (-3), 2) := by decide +kernel
theorem dX11_ith_43 : decode cX11_ith 43 = .ok (.ireturn, 1) := by decide +kernel
theorem dX11_ways_0 : decode cX11_ways 0 = .ok (.iload_n 1, 1) := by decide +kernel
theorem dX11_ways_1 : decode cX11_ways 1 = .ok (.iconst 0, 1) := by decide +kernel
theorem dX11_ways_2 : decode cX11_ways 2 = .ok (.bipush 6, 2) := by decide +kernel
theorem dX11_ways_4 : decode cX11_ways 4 = .ok (.invokestatic 72, 3) := by decide +kernel
theorem dX11_ways_7 : decode cX11_ways 7 = .ok (.ifCond .eq 19, 3) := by decide +kernel
theorem dX11_ways_10 : decode cX11_ways 10 = .ok (.aload_n 0, 1) := by decide +kernel
theorem dX11_ways_11 : decode cX11_ways 11 = .ok (.getfield 56, 3) := by decide +kernel
theorem dX11_ways_14 : decode cX11_ways 14 = .ok (.aload_n 0, 1) := by decide +kernel
theorem dX11_ways_15 : decode cX11_ways 15 = .ok (.getfield 41, 3) := by decide +kernel
theorem dX11_ways_18 : decode cX11_ways 18 = .ok (.iconst 1, 1) := by decide +kernel
theorem dX11_ways_19 : decode cX11_ways 19 = .ok (.iload_n 1, 1) := by decide +kernel
theorem dX11_ways_20 : decode cX11_ways 20 = .ok (.invokevirtual 178, 3) := by decide +kernel
theorem dX11_ways_23 : decode cX11_ways 23 = .ok (.goto 4, 3) := by decide +kernel
theorem dX11_ways_26 : decode cX11_ways 26 = .ok (.iconst (-1), 1) := by decide +kernel
theorem dX11_ways_27 : decode cX11_ways 27 = .ok (.ireturn, 1) := by decide +kernel
theorem dX11_most_0 : decode cX11_most 0 = .ok (.iload_n 1, 1) := by decide +kernel
theorem dX11_most_1 : decode cX11_most 1 = .ok (.iconst 0, 1) := by decide +kernel
theorem dX11_most_2 : decode cX11_most 2 = .ok (.bipush 6, 2) := by decide +kernel
theorem dX11_most_4 : decode cX11_most 4 = .ok (.invokestatic 72, 3) := by decide +kernel
theorem dX11_most_7 : decode cX11_most 7 = .ok (.ifCond .eq 19, 3) := by decide +kernel
theorem dX11_most_10 : decode cX11_most 10 = .ok (.aload_n 0, 1) := by decide +kernel
theorem dX11_most_11 : decode cX11_most 11 = .ok (.getfield 56, 3) := by decide +kernel
theorem dX11_most_14 : decode cX11_most 14 = .ok (.aload_n 0, 1) := by decide +kernel
theorem dX11_most_15 : decode cX11_most 15 = .ok (.getfield 41, 3) := by decide +kernel
theorem dX11_most_18 : decode cX11_most 18 = .ok (.iconst 2, 1) := by decide +kernel
theorem dX11_most_19 : decode cX11_most 19 = .ok (.iload_n 1, 1) := by decide +kernel
theorem dX11_most_20 : decode cX11_most 20 = .ok (.invokevirtual 178, 3) := by decide +kernel
theorem dX11_most_23 : decode cX11_most 23 = .ok (.goto 4, 3) := by decide +kernel
theorem dX11_most_26 : decode cX11_most 26 = .ok (.iconst (-1), 1) := by decide +kernel
theorem dX11_most_27 : decode cX11_most 27 = .ok (.ireturn, 1) := by decide +kernel
theorem dX11_cheapest_0 : decode cX11_cheapest 0 = .ok (.iload_n 1, 1) := by decide +kernel
theorem dX11_cheapest_1 : decode cX11_cheapest 1 = .ok (.iconst 0, 1) := by decide +kernel
theorem dX11_cheapest_2 : decode cX11_cheapest 2 = .ok (.bipush 6, 2) := by decide +kernel
theorem dX11_cheapest_4 : decode cX11_cheapest 4 = .ok (.invokestatic 72, 3) := by decide +kernel
theorem dX11_cheapest_7 : decode cX11_cheapest 7 = .ok (.ifCond .ne 5, 3) := by decide +kernel
theorem dX11_cheapest_10 : decode cX11_cheapest 10 = .ok (.iconst (-1), 1) := by decide +kernel
theorem dX11_cheapest_11 : decode cX11_cheapest 11 = .ok (.ireturn, 1) := by decide +kernel
theorem dX11_cheapest_12 : decode cX11_cheapest 12 = .ok (.aload_n 0, 1) := by decide +kernel
theorem dX11_cheapest_13 : decode cX11_cheapest 13 = .ok (.getfield 56, 3) := by decide +kernel
theorem dX11_cheapest_16 : decode cX11_cheapest 16 = .ok (.aload_n 0, 1) := by decide +kernel
theorem dX11_cheapest_17 : decode cX11_cheapest 17 = .ok (.getfield 41, 3) := by decide +kernel
theorem dX11_cheapest_20 : decode cX11_cheapest 20 = .ok (.iconst 3, 1) := by decide +kernel
theorem dX11_cheapest_21 : decode cX11_cheapest 21 = .ok (.iload_n 1, 1) := by decide +kernel
theorem dX11_cheapest_22 : decode cX11_cheapest 22 = .ok (.invokevirtual 178, 3) := by decide +kernel
theorem dX11_cheapest_25 : decode cX11_cheapest 25 = .ok (.istore_n 2, 1) := by decide +kernel
theorem dX11_cheapest_26 : decode cX11_cheapest 26 = .ok (.iload_n 2, 1) := by decide +kernel
theorem dX11_cheapest_27 : decode cX11_cheapest 27 = .ok (.ldc 180, 2) := by decide +kernel
theorem dX11_cheapest_29 : decode cX11_cheapest 29 = .ok (.if_icmp .ge 7, 3) := by decide +kernel
theorem dX11_cheapest_32 : decode cX11_cheapest 32 = .ok (.iload_n 2, 1) := by decide +kernel
theorem dX11_cheapest_33 : decode cX11_cheapest 33 = .ok (.goto 5, 3) := by decide +kernel
theorem dX11_cheapest_36 : decode cX11_cheapest 36 = .ok (.bipush (-3), 2) := by decide +kernel
theorem dX11_cheapest_38 : decode cX11_cheapest 38 = .ok (.ireturn, 1) := by decide +kernel
theorem dX11_cheaply_0 : decode cX11_cheaply 0 = .ok (.iload_n 1, 1) := by decide +kernel
theorem dX11_cheaply_1 : decode cX11_cheaply 1 = .ok (.iconst 0, 1) := by decide +kernel
theorem dX11_cheaply_2 : decode cX11_cheaply 2 = .ok (.bipush 6, 2) := by decide +kernel
theorem dX11_cheaply_4 : decode cX11_cheaply 4 = .ok (.invokestatic 72, 3) := by decide +kernel
theorem dX11_cheaply_7 : decode cX11_cheaply 7 = .ok (.ifCond .eq 12, 3) := by decide +kernel
theorem dX11_cheaply_10 : decode cX11_cheaply 10 = .ok (.iload_n 2, 1) := by decide +kernel
theorem dX11_cheaply_11 : decode cX11_cheaply 11 = .ok (.iconst 0, 1) := by decide +kernel
theorem dX11_cheaply_12 : decode cX11_cheaply 12 = .ok (.iconst 5, 1) := by decide +kernel
theorem dX11_cheaply_13 : decode cX11_cheaply 13 = .ok (.invokestatic 72, 3) := by decide +kernel
theorem dX11_cheaply_16 : decode cX11_cheaply 16 = .ok (.ifCond .ne 5, 3) := by decide +kernel
theorem dX11_cheaply_19 : decode cX11_cheaply 19 = .ok (.iconst (-1), 1) := by decide +kernel
theorem dX11_cheaply_20 : decode cX11_cheaply 20 = .ok (.ireturn, 1) := by decide +kernel
theorem dX11_cheaply_21 : decode cX11_cheaply 21 = .ok (.iload_n 2, 1) := by decide +kernel
theorem dX11_cheaply_22 : decode cX11_cheaply 22 = .ok (.aload_n 0, 1) := by decide +kernel
theorem dX11_cheaply_23 : decode cX11_cheaply 23 = .ok (.getfield 56, 3) := by decide +kernel
theorem dX11_cheaply_26 : decode cX11_cheaply 26 = .ok (.aload_n 0, 1) := by decide +kernel
theorem dX11_cheaply_27 : decode cX11_cheaply 27 = .ok (.getfield 41, 3) := by decide +kernel
theorem dX11_cheaply_30 : decode cX11_cheaply 30 = .ok (.iconst 3, 1) := by decide +kernel
theorem dX11_cheaply_31 : decode cX11_cheaply 31 = .ok (.iload_n 1, 1) := by decide +kernel
theorem dX11_cheaply_32 : decode cX11_cheaply 32 = .ok (.invokevirtual 171, 3) := by decide +kernel
theorem dX11_cheaply_35 : decode cX11_cheaply 35 = .ok (.if_icmp .ge 15, 3) := by decide +kernel
theorem dX11_cheaply_38 : decode cX11_cheaply 38 = .ok (.aload_n 0, 1) := by decide +kernel
theorem dX11_cheaply_39 : decode cX11_cheaply 39 = .ok (.getfield 56, 3) := by decide +kernel
theorem dX11_cheaply_42 : decode cX11_cheaply 42 = .ok (.getfield 175, 3) := by decide +kernel
theorem dX11_cheaply_45 : decode cX11_cheaply 45 = .ok (.iload_n 2, 1) := by decide +kernel
theorem dX11_cheaply_46 : decode cX11_cheaply 46 = .ok (.iaload, 1) := by decide +kernel
theorem dX11_cheaply_47 : decode cX11_cheaply 47 = .ok (.goto 5, 3) := by decide +kernel
theorem dX11_cheaply_50 : decode cX11_cheaply 50 = .ok (.bipush (-3), 2) := by decide +kernel
theorem dX11_cheaply_52 : decode cX11_cheaply 52 = .ok (.ireturn, 1) := by decide +kernel
theorem dX11_bars_0 : decode cX11_bars 0 = .ok (.aload_n 0, 1) := by decide +kernel
theorem dX11_bars_1 : decode cX11_bars 1 = .ok (.getfield 56, 3) := by decide +kernel
theorem dX11_bars_4 : decode cX11_bars 4 = .ok (.aload_n 0, 1) := by decide +kernel
theorem dX11_bars_5 : decode cX11_bars 5 = .ok (.getfield 41, 3) := by decide +kernel
theorem dX11_bars_8 : decode cX11_bars 8 = .ok (.invokevirtual 181, 3) := by decide +kernel
theorem dX11_bars_11 : decode cX11_bars 11 = .ok (.ireturn, 1) := by decide +kernel
theorem dX11_jars_0 : decode cX11_jars 0 = .ok (.aload_n 0, 1) := by decide +kernel
theorem dX11_jars_1 : decode cX11_jars 1 = .ok (.getfield 56, 3) := by decide +kernel
theorem dX11_jars_4 : decode cX11_jars 4 = .ok (.aload_n 0, 1) := by decide +kernel
theorem dX11_jars_5 : decode cX11_jars 5 = .ok (.getfield 41, 3) := by decide +kernel
theorem dX11_jars_8 : decode cX11_jars 8 = .ok (.invokevirtual 185, 3) := by decide +kernel
theorem dX11_jars_11 : decode cX11_jars 11 = .ok (.ireturn, 1) := by decide +kernel
theorem dX11_feeFor_0 : decode cX11_feeFor 0 = .ok (.iload_n 1, 1) := by decide +kernel
theorem dX11_feeFor_1 : decode cX11_feeFor 1 = .ok (.iconst 1, 1) := by decide +kernel
theorem dX11_feeFor_2 : decode cX11_feeFor 2 = .ok (.bipush 6, 2) := by decide +kernel
theorem dX11_feeFor_4 : decode cX11_feeFor 4 = .ok (.invokestatic 72, 3) := by decide +kernel
theorem dX11_feeFor_7 : decode cX11_feeFor 7 = .ok (.ifCond .eq 18, 3) := by decide +kernel
theorem dX11_feeFor_10 : decode cX11_feeFor 10 = .ok (.aload_n 0, 1) := by decide +kernel
theorem dX11_feeFor_11 : decode cX11_feeFor 11 = .ok (.getfield 56, 3) := by decide +kernel
theorem dX11_feeFor_14 : decode cX11_feeFor 14 = .ok (.aload_n 0, 1) := by decide +kernel
theorem dX11_feeFor_15 : decode cX11_feeFor 15 = .ok (.getfield 41, 3) := by decide +kernel
theorem dX11_feeFor_18 : decode cX11_feeFor 18 = .ok (.iload_n 1, 1) := by decide +kernel
theorem dX11_feeFor_19 : decode cX11_feeFor 19 = .ok (.invokevirtual 188, 3) := by decide +kernel
theorem dX11_feeFor_22 : decode cX11_feeFor 22 = .ok (.goto 4, 3) := by decide +kernel
theorem dX11_feeFor_25 : decode cX11_feeFor 25 = .ok (.iconst (-1), 1) := by decide +kernel
theorem dX11_feeFor_26 : decode cX11_feeFor 26 = .ok (.ireturn, 1) := by decide +kernel
theorem dX11_rings_0 : decode cX11_rings 0 = .ok (.iload_n 1, 1) := by decide +kernel
theorem dX11_rings_1 : decode cX11_rings 1 = .ok (.iconst 2, 1) := by decide +kernel
theorem dX11_rings_2 : decode cX11_rings 2 = .ok (.bipush 6, 2) := by decide +kernel
theorem dX11_rings_4 : decode cX11_rings 4 = .ok (.invokestatic 72, 3) := by decide +kernel
theorem dX11_rings_7 : decode cX11_rings 7 = .ok (.ifCond .eq 18, 3) := by decide +kernel
theorem dX11_rings_10 : decode cX11_rings 10 = .ok (.aload_n 0, 1) := by decide +kernel
theorem dX11_rings_11 : decode cX11_rings 11 = .ok (.getfield 56, 3) := by decide +kernel
theorem dX11_rings_14 : decode cX11_rings 14 = .ok (.aload_n 0, 1) := by decide +kernel
theorem dX11_rings_15 : decode cX11_rings 15 = .ok (.getfield 41, 3) := by decide +kernel
theorem dX11_rings_18 : decode cX11_rings 18 = .ok (.iload_n 1, 1) := by decide +kernel
theorem dX11_rings_19 : decode cX11_rings 19 = .ok (.invokevirtual 192, 3) := by decide +kernel
theorem dX11_rings_22 : decode cX11_rings 22 = .ok (.goto 4, 3) := by decide +kernel
theorem dX11_rings_25 : decode cX11_rings 25 = .ok (.iconst (-1), 1) := by decide +kernel
theorem dX11_rings_26 : decode cX11_rings 26 = .ok (.ireturn, 1) := by decide +kernel
theorem dX11_ring_0 : decode cX11_ring 0 = .ok (.iload_n 1, 1) := by decide +kernel
theorem dX11_ring_1 : decode cX11_ring 1 = .ok (.iconst 2, 1) := by decide +kernel
theorem dX11_ring_2 : decode cX11_ring 2 = .ok (.bipush 6, 2) := by decide +kernel
theorem dX11_ring_4 : decode cX11_ring 4 = .ok (.invokestatic 72, 3) := by decide +kernel
theorem dX11_ring_7 : decode cX11_ring 7 = .ok (.ifCond .eq 14, 3) := by decide +kernel
theorem dX11_ring_10 : decode cX11_ring 10 = .ok (.iload_n 2, 1) := by decide +kernel
theorem dX11_ring_11 : decode cX11_ring 11 = .ok (.iconst 0, 1) := by decide +kernel
theorem dX11_ring_12 : decode cX11_ring 12 = .ok (.iload_n 1, 1) := by decide +kernel
theorem dX11_ring_13 : decode cX11_ring 13 = .ok (.iconst 1, 1) := by decide +kernel
theorem dX11_ring_14 : decode cX11_ring 14 = .ok (.isub, 1) := by decide +kernel
theorem dX11_ring_15 : decode cX11_ring 15 = .ok (.invokestatic 72, 3) := by decide +kernel
theorem dX11_ring_18 : decode cX11_ring 18 = .ok (.ifCond .ne 5, 3) := by decide +kernel
theorem dX11_ring_21 : decode cX11_ring 21 = .ok (.iconst (-1), 1) := by decide +kernel
theorem dX11_ring_22 : decode cX11_ring 22 = .ok (.ireturn, 1) := by decide +kernel
theorem dX11_ring_23 : decode cX11_ring 23 = .ok (.aload_n 0, 1) := by decide +kernel
theorem dX11_ring_24 : decode cX11_ring 24 = .ok (.getfield 56, 3) := by decide +kernel
theorem dX11_ring_27 : decode cX11_ring 27 = .ok (.aload_n 0, 1) := by decide +kernel
theorem dX11_ring_28 : decode cX11_ring 28 = .ok (.getfield 41, 3) := by decide +kernel
theorem dX11_ring_31 : decode cX11_ring 31 = .ok (.iload_n 1, 1) := by decide +kernel
theorem dX11_ring_32 : decode cX11_ring 32 = .ok (.invokevirtual 192, 3) := by decide +kernel
theorem dX11_ring_35 : decode cX11_ring 35 = .ok (.ifCond .le 15, 3) := by decide +kernel
theorem dX11_ring_38 : decode cX11_ring 38 = .ok (.aload_n 0, 1) := by decide +kernel
theorem dX11_ring_39 : decode cX11_ring 39 = .ok (.getfield 56, 3) := by decide +kernel
theorem dX11_ring_42 : decode cX11_ring 42 = .ok (.getfield 175, 3) := by decide +kernel
theorem dX11_ring_45 : decode cX11_ring 45 = .ok (.iload_n 2, 1) := by decide +kernel
theorem dX11_ring_46 : decode cX11_ring 46 = .ok (.iaload, 1) := by decide +kernel
theorem dX11_ring_47 : decode cX11_ring 47 = .ok (.goto 5, 3) := by decide +kernel
theorem dX11_ring_50 : decode cX11_ring 50 = .ok (.bipush (-3), 2) := by decide +kernel
theorem dX11_ring_52 : decode cX11_ring 52 = .ok (.ireturn, 1) := by decide +kernel
theorem dX11_comes_0 : decode cX11_comes 0 = .ok (.aload_n 0, 1) := by decide +kernel
theorem dX11_comes_1 : decode cX11_comes 1 = .ok (.getfield 41, 3) := by decide +kernel
theorem dX11_comes_4 : decode cX11_comes 4 = .ok (.iload_n 1, 1) := by decide +kernel
theorem dX11_comes_5 : decode cX11_comes 5 = .ok (.invokevirtual 104, 3) := by decide +kernel
theorem dX11_comes_8 : decode cX11_comes 8 = .ok (.ifCond .eq 28, 3) := by decide +kernel
theorem dX11_comes_11 : decode cX11_comes 11 = .ok (.iload_n 2, 1) := by decide +kernel
theorem dX11_comes_12 : decode cX11_comes 12 = .ok (.iconst 0, 1) := by decide +kernel
theorem dX11_comes_13 : decode cX11_comes 13 = .ok (.iconst 4, 1) := by decide +kernel
theorem dX11_comes_14 : decode cX11_comes 14 = .ok (.invokestatic 72, 3) := by decide +kernel
theorem dX11_comes_17 : decode cX11_comes 17 = .ok (.ifCond .eq 19, 3) := by decide +kernel
theorem dX11_comes_20 : decode cX11_comes 20 = .ok (.aload_n 0, 1) := by decide +kernel
theorem dX11_comes_21 : decode cX11_comes 21 = .ok (.getfield 56, 3) := by decide +kernel
theorem dX11_comes_24 : decode cX11_comes 24 = .ok (.aload_n 0, 1) := by decide +kernel
theorem dX11_comes_25 : decode cX11_comes 25 = .ok (.getfield 41, 3) := by decide +kernel
theorem dX11_comes_28 : decode cX11_comes 28 = .ok (.iload_n 1, 1) := by decide +kernel
theorem dX11_comes_29 : decode cX11_comes 29 = .ok (.iload_n 2, 1) := by decide +kernel
theorem dX11_comes_30 : decode cX11_comes 30 = .ok (.invokevirtual 195, 3) := by decide +kernel
theorem dX11_comes_33 : decode cX11_comes 33 = .ok (.goto 4, 3) := by decide +kernel
theorem dX11_comes_36 : decode cX11_comes 36 = .ok (.iconst (-1), 1) := by decide +kernel
theorem dX11_comes_37 : decode cX11_comes 37 = .ok (.ireturn, 1) := by decide +kernel
theorem dX11_dearest_0 : decode cX11_dearest 0 = .ok (.aload_n 0, 1) := by decide +kernel
theorem dX11_dearest_1 : decode cX11_dearest 1 = .ok (.getfield 41, 3) := by decide +kernel
theorem dX11_dearest_4 : decode cX11_dearest 4 = .ok (.iload_n 1, 1) := by decide +kernel
theorem dX11_dearest_5 : decode cX11_dearest 5 = .ok (.invokevirtual 104, 3) := by decide +kernel
theorem dX11_dearest_8 : decode cX11_dearest 8 = .ok (.ifCond .eq 12, 3) := by decide +kernel
theorem dX11_dearest_11 : decode cX11_dearest 11 = .ok (.iload_n 2, 1) := by decide +kernel
theorem dX11_dearest_12 : decode cX11_dearest 12 = .ok (.iconst 0, 1) := by decide +kernel
theorem dX11_dearest_13 : decode cX11_dearest 13 = .ok (.iconst 4, 1) := by decide +kernel
theorem dX11_dearest_14 : decode cX11_dearest 14 = .ok (.invokestatic 72, 3) := by decide +kernel
theorem dX11_dearest_17 : decode cX11_dearest 17 = .ok (.ifCond .ne 5, 3) := by decide +kernel
theorem dX11_dearest_20 : decode cX11_dearest 20 = .ok (.iconst (-1), 1) := by decide +kernel
theorem dX11_dearest_21 : decode cX11_dearest 21 = .ok (.ireturn, 1) := by decide +kernel
theorem dX11_dearest_22 : decode cX11_dearest 22 = .ok (.aload_n 0, 1) := by decide +kernel
theorem dX11_dearest_23 : decode cX11_dearest 23 = .ok (.getfield 56, 3) := by decide +kernel
theorem dX11_dearest_26 : decode cX11_dearest 26 = .ok (.aload_n 0, 1) := by decide +kernel
theorem dX11_dearest_27 : decode cX11_dearest 27 = .ok (.getfield 41, 3) := by decide +kernel
theorem dX11_dearest_30 : decode cX11_dearest 30 = .ok (.iload_n 1, 1) := by decide +kernel
theorem dX11_dearest_31 : decode cX11_dearest 31 = .ok (.iload_n 2, 1) := by decide +kernel
theorem dX11_dearest_32 : decode cX11_dearest 32 = .ok (.invokevirtual 195, 3) := by decide +kernel
theorem dX11_dearest_35 : decode cX11_dearest 35 = .ok (.istore_n 3, 1) := by decide +kernel
theorem dX11_dearest_36 : decode cX11_dearest 36 = .ok (.aload_n 0, 1) := by decide +kernel
theorem dX11_dearest_37 : decode cX11_dearest 37 = .ok (.getfield 41, 3) := by decide +kernel
theorem dX11_dearest_40 : decode cX11_dearest 40 = .ok (.getfield 88, 3) := by decide +kernel
theorem dX11_dearest_43 : decode cX11_dearest 43 = .ok (.iload_n 1, 1) := by decide +kernel
theorem dX11_dearest_44 : decode cX11_dearest 44 = .ok (.iaload, 1) := by decide +kernel
theorem dX11_dearest_45 : decode cX11_dearest 45 = .ok (.istore 4, 2) := by decide +kernel
theorem dX11_dearest_47 : decode cX11_dearest 47 = .ok (.bipush 7, 2) := by decide +kernel
theorem dX11_dearest_49 : decode cX11_dearest 49 = .ok (.istore 5, 2) := by decide +kernel
theorem dX11_dearest_51 : decode cX11_dearest 51 = .ok (.iload 5, 2) := by decide +kernel
theorem dX11_dearest_53 : decode cX11_dearest 53 = .ok (.ifCond .lt 46, 3) := by decide +kernel
theorem dX11_dearest_56 : decode cX11_dearest 56 = .ok (.iload_n 3, 1) := by decide +kernel
theorem dX11_dearest_57 : decode cX11_dearest 57 = .ok (.iload 5, 2) := by decide +kernel
theorem dX11_dearest_59 : decode cX11_dearest 59 = .ok (.ishr, 1) := by decide +kernel
theorem dX11_dearest_60 : decode cX11_dearest 60 = .ok (.iconst 1, 1) := by decide +kernel
theorem dX11_dearest_61 : decode cX11_dearest 61 = .ok (.iand, 1) := by decide +kernel
theorem dX11_dearest_62 : decode cX11_dearest 62 = .ok (.iconst 1, 1) := by decide +kernel
theorem dX11_dearest_63 : decode cX11_dearest 63 = .ok (.if_icmp .ne 30, 3) := by decide +kernel
theorem dX11_dearest_66 : decode cX11_dearest 66 = .ok (.aload_n 0, 1) := by decide +kernel
theorem dX11_dearest_67 : decode cX11_dearest 67 = .ok (.getfield 41, 3) := by decide +kernel
theorem dX11_dearest_70 : decode cX11_dearest 70 = .ok (.getfield 114, 3) := by decide +kernel
theorem dX11_dearest_73 : decode cX11_dearest 73 = .ok (.iload 5, 2) := by decide +kernel
theorem dX11_dearest_75 : decode cX11_dearest 75 = .ok (.iaload, 1) := by decide +kernel
theorem dX11_dearest_76 : decode cX11_dearest 76 = .ok (.aload_n 0, 1) := by decide +kernel
theorem dX11_dearest_77 : decode cX11_dearest 77 = .ok (.getfield 41, 3) := by decide +kernel
theorem dX11_dearest_80 : decode cX11_dearest 80 = .ok (.getfield 114, 3) := by decide +kernel
theorem dX11_dearest_83 : decode cX11_dearest 83 = .ok (.iload 4, 2) := by decide +kernel
theorem dX11_dearest_85 : decode cX11_dearest 85 = .ok (.iaload, 1) := by decide +kernel
theorem dX11_dearest_86 : decode cX11_dearest 86 = .ok (.if_icmp .lt 7, 3) := by decide +kernel
theorem dX11_dearest_89 : decode cX11_dearest 89 = .ok (.iload 5, 2) := by decide +kernel
theorem dX11_dearest_91 : decode cX11_dearest 91 = .ok (.istore 4, 2) := by decide +kernel
theorem dX11_dearest_93 : decode cX11_dearest 93 = .ok (.iinc 5 (-1), 3) := by decide +kernel
theorem dX11_dearest_96 : decode cX11_dearest 96 = .ok (.goto (-45), 3) := by decide +kernel
theorem dX11_dearest_99 : decode cX11_dearest 99 = .ok (.iload 4, 2) := by decide +kernel
theorem dX11_dearest_101 : decode cX11_dearest 101 = .ok (.ireturn, 1) := by decide +kernel
theorem dX11_game_0 : decode cX11_game 0 = .ok (.iload_n 1, 1) := by decide +kernel
theorem dX11_game_1 : decode cX11_game 1 = .ok (.iconst 1, 1) := by decide +kernel
theorem dX11_game_2 : decode cX11_game 2 = .ok (.bipush 6, 2) := by decide +kernel
theorem dX11_game_4 : decode cX11_game 4 = .ok (.invokestatic 72, 3) := by decide +kernel
theorem dX11_game_7 : decode cX11_game 7 = .ok (.ifCond .ne 5, 3) := by decide +kernel
theorem dX11_game_10 : decode cX11_game 10 = .ok (.iconst (-1), 1) := by decide +kernel
theorem dX11_game_11 : decode cX11_game 11 = .ok (.ireturn, 1) := by decide +kernel
theorem dX11_game_12 : decode cX11_game 12 = .ok (.aload_n 0, 1) := by decide +kernel
theorem dX11_game_13 : decode cX11_game 13 = .ok (.getfield 56, 3) := by decide +kernel
theorem dX11_game_16 : decode cX11_game 16 = .ok (.aload_n 0, 1) := by decide +kernel
theorem dX11_game_17 : decode cX11_game 17 = .ok (.getfield 41, 3) := by decide +kernel
theorem dX11_game_20 : decode cX11_game 20 = .ok (.iconst 4, 1) := by decide +kernel
theorem dX11_game_21 : decode cX11_game 21 = .ok (.iload_n 1, 1) := by decide +kernel
theorem dX11_game_22 : decode cX11_game 22 = .ok (.invokevirtual 178, 3) := by decide +kernel
theorem dX11_game_25 : decode cX11_game 25 = .ok (.istore_n 2, 1) := by decide +kernel
theorem dX11_game_26 : decode cX11_game 26 = .ok (.iload_n 2, 1) := by decide +kernel
theorem dX11_game_27 : decode cX11_game 27 = .ok (.ifCond .le 7, 3) := by decide +kernel
theorem dX11_game_30 : decode cX11_game 30 = .ok (.iconst 0, 1) := by decide +kernel
theorem dX11_game_31 : decode cX11_game 31 = .ok (.goto 12, 3) := by decide +kernel
theorem dX11_game_34 : decode cX11_game 34 = .ok (.iload_n 2, 1) := by decide +kernel
theorem dX11_game_35 : decode cX11_game 35 = .ok (.ifCond .ge 7, 3) := by decide +kernel
theorem dX11_game_38 : decode cX11_game 38 = .ok (.iconst 1, 1) := by decide +kernel
theorem dX11_game_39 : decode cX11_game 39 = .ok (.goto 4, 3) := by decide +kernel
theorem dX11_game_42 : decode cX11_game 42 = .ok (.iconst 2, 1) := by decide +kernel
theorem dX11_game_43 : decode cX11_game 43 = .ok (.ireturn, 1) := by decide +kernel
theorem dX11_play_0 : decode cX11_play 0 = .ok (.iload_n 1, 1) := by decide +kernel
theorem dX11_play_1 : decode cX11_play 1 = .ok (.iconst 1, 1) := by decide +kernel
theorem dX11_play_2 : decode cX11_play 2 = .ok (.bipush 6, 2) := by decide +kernel
theorem dX11_play_4 : decode cX11_play 4 = .ok (.invokestatic 72, 3) := by decide +kernel
theorem dX11_play_7 : decode cX11_play 7 = .ok (.ifCond .ne 5, 3) := by decide +kernel
theorem dX11_play_10 : decode cX11_play 10 = .ok (.iconst (-1), 1) := by decide +kernel
theorem dX11_play_11 : decode cX11_play 11 = .ok (.ireturn, 1) := by decide +kernel
theorem dX11_play_12 : decode cX11_play 12 = .ok (.aload_n 0, 1) := by decide +kernel
theorem dX11_play_13 : decode cX11_play 13 = .ok (.getfield 56, 3) := by decide +kernel
theorem dX11_play_16 : decode cX11_play 16 = .ok (.aload_n 0, 1) := by decide +kernel
theorem dX11_play_17 : decode cX11_play 17 = .ok (.getfield 41, 3) := by decide +kernel
theorem dX11_play_20 : decode cX11_play 20 = .ok (.iconst 4, 1) := by decide +kernel
theorem dX11_play_21 : decode cX11_play 21 = .ok (.iload_n 1, 1) := by decide +kernel
theorem dX11_play_22 : decode cX11_play 22 = .ok (.invokevirtual 171, 3) := by decide +kernel
theorem dX11_play_25 : decode cX11_play 25 = .ok (.ifCond .le 15, 3) := by decide +kernel
theorem dX11_play_28 : decode cX11_play 28 = .ok (.aload_n 0, 1) := by decide +kernel
theorem dX11_play_29 : decode cX11_play 29 = .ok (.getfield 56, 3) := by decide +kernel
theorem dX11_play_32 : decode cX11_play 32 = .ok (.getfield 175, 3) := by decide +kernel
theorem dX11_play_35 : decode cX11_play 35 = .ok (.iconst 0, 1) := by decide +kernel
theorem dX11_play_36 : decode cX11_play 36 = .ok (.iaload, 1) := by decide +kernel
theorem dX11_play_37 : decode cX11_play 37 = .ok (.goto 5, 3) := by decide +kernel
theorem dX11_play_40 : decode cX11_play 40 = .ok (.bipush (-3), 2) := by decide +kernel
theorem dX11_play_42 : decode cX11_play 42 = .ok (.ireturn, 1) := by decide +kernel
theorem dX11_report_0 : decode cX11_report 0 = .ok (.iload_n 1, 1) := by decide +kernel
theorem dX11_report_1 : decode cX11_report 1 = .ok (.iconst 0, 1) := by decide +kernel
theorem dX11_report_2 : decode cX11_report 2 = .ok (.bipush 99, 2) := by decide +kernel
theorem dX11_report_4 : decode cX11_report 4 = .ok (.invokestatic 72, 3) := by decide +kernel
theorem dX11_report_7 : decode cX11_report 7 = .ok (.ifCond .eq 24, 3) := by decide +kernel
theorem dX11_report_10 : decode cX11_report 10 = .ok (.iload_n 2, 1) := by decide +kernel
theorem dX11_report_11 : decode cX11_report 11 = .ok (.iconst 0, 1) := by decide +kernel
theorem dX11_report_12 : decode cX11_report 12 = .ok (.bipush 99, 2) := by decide +kernel
theorem dX11_report_14 : decode cX11_report 14 = .ok (.invokestatic 72, 3) := by decide +kernel
theorem dX11_report_17 : decode cX11_report 17 = .ok (.ifCond .eq 14, 3) := by decide +kernel
theorem dX11_report_20 : decode cX11_report 20 = .ok (.iload_n 3, 1) := by decide +kernel
theorem dX11_report_21 : decode cX11_report 21 = .ok (.iconst 0, 1) := by decide +kernel
theorem dX11_report_22 : decode cX11_report 22 = .ok (.sipush 999, 3) := by decide +kernel
theorem dX11_report_25 : decode cX11_report 25 = .ok (.invokestatic 72, 3) := by decide +kernel
theorem dX11_report_28 : decode cX11_report 28 = .ok (.ifCond .ne 5, 3) := by decide +kernel
theorem dX11_report_31 : decode cX11_report 31 = .ok (.iconst (-1), 1) := by decide +kernel
theorem dX11_report_32 : decode cX11_report 32 = .ok (.ireturn, 1) := by decide +kernel
theorem dX11_report_33 : decode cX11_report 33 = .ok (.aload_n 0, 1) := by decide +kernel
theorem dX11_report_34 : decode cX11_report 34 = .ok (.getfield 41, 3) := by decide +kernel
theorem dX11_report_37 : decode cX11_report 37 = .ok (.getfield 198, 3) := by decide +kernel
theorem dX11_report_40 : decode cX11_report 40 = .ok (.bipush 6, 2) := by decide +kernel
theorem dX11_report_42 : decode cX11_report 42 = .ok (.if_icmp .lt 6, 3) := by decide +kernel
theorem dX11_report_45 : decode cX11_report 45 = .ok (.bipush (-2), 2) := by decide +kernel
theorem dX11_report_47 : decode cX11_report 47 = .ok (.ireturn, 1) := by decide +kernel
theorem dX11_report_48 : decode cX11_report 48 = .ok (.aload_n 0, 1) := by decide +kernel
theorem dX11_report_49 : decode cX11_report 49 = .ok (.getfield 41, 3) := by decide +kernel
theorem dX11_report_52 : decode cX11_report 52 = .ok (.getfield 201, 3) := by decide +kernel
theorem dX11_report_55 : decode cX11_report 55 = .ok (.aload_n 0, 1) := by decide +kernel
theorem dX11_report_56 : decode cX11_report 56 = .ok (.getfield 41, 3) := by decide +kernel
theorem dX11_report_59 : decode cX11_report 59 = .ok (.getfield 198, 3) := by decide +kernel
theorem dX11_report_62 : decode cX11_report 62 = .ok (.aaload, 1) := by decide +kernel
theorem dX11_report_63 : decode cX11_report 63 = .ok (.astore 4, 2) := by decide +kernel
theorem dX11_report_65 : decode cX11_report 65 = .ok (.aload 4, 2) := by decide +kernel
theorem dX11_report_67 : decode cX11_report 67 = .ok (.iconst 0, 1) := by decide +kernel
theorem dX11_report_68 : decode cX11_report 68 = .ok (.iload_n 1, 1) := by decide +kernel
theorem dX11_report_69 : decode cX11_report 69 = .ok (.iastore, 1) := by decide +kernel
theorem dX11_report_70 : decode cX11_report 70 = .ok (.aload 4, 2) := by decide +kernel
theorem dX11_report_72 : decode cX11_report 72 = .ok (.iconst 1, 1) := by decide +kernel
theorem dX11_report_73 : decode cX11_report 73 = .ok (.iload_n 2, 1) := by decide +kernel
theorem dX11_report_74 : decode cX11_report 74 = .ok (.iastore, 1) := by decide +kernel
theorem dX11_report_75 : decode cX11_report 75 = .ok (.aload 4, 2) := by decide +kernel
theorem dX11_report_77 : decode cX11_report 77 = .ok (.iconst 2, 1) := by decide +kernel
theorem dX11_report_78 : decode cX11_report 78 = .ok (.iload_n 3, 1) := by decide +kernel
theorem dX11_report_79 : decode cX11_report 79 = .ok (.iastore, 1) := by decide +kernel
theorem dX11_report_80 : decode cX11_report 80 = .ok (.aload_n 0, 1) := by decide +kernel
theorem dX11_report_81 : decode cX11_report 81 = .ok (.getfield 41, 3) := by decide +kernel
theorem dX11_report_84 : decode cX11_report 84 = .ok (.dup, 1) := by decide +kernel
theorem dX11_report_85 : decode cX11_report 85 = .ok (.getfield 198, 3) := by decide +kernel
theorem dX11_report_88 : decode cX11_report 88 = .ok (.iconst 1, 1) := by decide +kernel
theorem dX11_report_89 : decode cX11_report 89 = .ok (.iadd, 1) := by decide +kernel
theorem dX11_report_90 : decode cX11_report 90 = .ok (.putfield 198, 3) := by decide +kernel
theorem dX11_report_93 : decode cX11_report 93 = .ok (.aload_n 0, 1) := by decide +kernel
theorem dX11_report_94 : decode cX11_report 94 = .ok (.getfield 41, 3) := by decide +kernel
theorem dX11_report_97 : decode cX11_report 97 = .ok (.getfield 198, 3) := by decide +kernel
theorem dX11_report_100 : decode cX11_report 100 = .ok (.iconst 1, 1) := by decide +kernel
theorem dX11_report_101 : decode cX11_report 101 = .ok (.isub, 1) := by decide +kernel
theorem dX11_report_102 : decode cX11_report 102 = .ok (.ireturn, 1) := by decide +kernel
theorem dX11_forget_0 : decode cX11_forget 0 = .ok (.aload_n 0, 1) := by decide +kernel
theorem dX11_forget_1 : decode cX11_forget 1 = .ok (.getfield 41, 3) := by decide +kernel
theorem dX11_forget_4 : decode cX11_forget 4 = .ok (.getfield 198, 3) := by decide +kernel
theorem dX11_forget_7 : decode cX11_forget 7 = .ok (.istore_n 1, 1) := by decide +kernel
theorem dX11_forget_8 : decode cX11_forget 8 = .ok (.aload_n 0, 1) := by decide +kernel
theorem dX11_forget_9 : decode cX11_forget 9 = .ok (.getfield 41, 3) := by decide +kernel
theorem dX11_forget_12 : decode cX11_forget 12 = .ok (.iconst 0, 1) := by decide +kernel
theorem dX11_forget_13 : decode cX11_forget 13 = .ok (.putfield 198, 3) := by decide +kernel
theorem dX11_forget_16 : decode cX11_forget 16 = .ok (.iload_n 1, 1) := by decide +kernel
theorem dX11_forget_17 : decode cX11_forget 17 = .ok (.ireturn, 1) := by decide +kernel
theorem dX11_span_0 : decode cX11_span 0 = .ok (.iload_n 1, 1) := by decide +kernel
theorem dX11_span_1 : decode cX11_span 1 = .ok (.iconst 0, 1) := by decide +kernel
theorem dX11_span_2 : decode cX11_span 2 = .ok (.iconst 2, 1) := by decide +kernel
theorem dX11_span_3 : decode cX11_span 3 = .ok (.invokestatic 72, 3) := by decide +kernel
theorem dX11_span_6 : decode cX11_span 6 = .ok (.ifCond .ne 5, 3) := by decide +kernel
theorem dX11_span_9 : decode cX11_span 9 = .ok (.iconst (-1), 1) := by decide +kernel
theorem dX11_span_10 : decode cX11_span 10 = .ok (.ireturn, 1) := by decide +kernel
theorem dX11_span_11 : decode cX11_span 11 = .ok (.iload_n 1, 1) := by decide +kernel
theorem dX11_span_12 : decode cX11_span 12 = .ok (.ifCond .ne 11, 3) := by decide +kernel
theorem dX11_span_15 : decode cX11_span 15 = .ok (.aload_n 0, 1) := by decide +kernel
theorem dX11_span_16 : decode cX11_span 16 = .ok (.getfield 41, 3) := by decide +kernel
theorem dX11_span_19 : decode cX11_span 19 = .ok (.invokevirtual 204, 3) := by decide +kernel
theorem dX11_span_22 : decode cX11_span 22 = .ok (.ireturn, 1) := by decide +kernel
theorem dX11_span_23 : decode cX11_span 23 = .ok (.aload_n 0, 1) := by decide +kernel
theorem dX11_span_24 : decode cX11_span 24 = .ok (.getfield 41, 3) := by decide +kernel
theorem dX11_span_27 : decode cX11_span 27 = .ok (.bipush (-3), 2) := by decide +kernel
theorem dX11_span_29 : decode cX11_span 29 = .ok (.invokevirtual 207, 3) := by decide +kernel
theorem dX11_span_32 : decode cX11_span 32 = .ok (.istore_n 2, 1) := by decide +kernel
theorem dX11_span_33 : decode cX11_span 33 = .ok (.iload_n 2, 1) := by decide +kernel
theorem dX11_span_34 : decode cX11_span 34 = .ok (.ifCond .ge 6, 3) := by decide +kernel
theorem dX11_span_37 : decode cX11_span 37 = .ok (.bipush (-3), 2) := by decide +kernel
theorem dX11_span_39 : decode cX11_span 39 = .ok (.ireturn, 1) := by decide +kernel
theorem dX11_span_40 : decode cX11_span 40 = .ok (.iload_n 1, 1) := by decide +kernel
theorem dX11_span_41 : decode cX11_span 41 = .ok (.iconst 1, 1) := by decide +kernel
theorem dX11_span_42 : decode cX11_span 42 = .ok (.if_icmp .ne 10, 3) := by decide +kernel
theorem dX11_span_45 : decode cX11_span 45 = .ok (.iload_n 2, 1) := by decide +kernel
theorem dX11_span_46 : decode cX11_span 46 = .ok (.bipush 51, 2) := by decide +kernel
theorem dX11_span_48 : decode cX11_span 48 = .ok (.idiv, 1) := by decide +kernel
theorem dX11_span_49 : decode cX11_span 49 = .ok (.goto 7, 3) := by decide +kernel
theorem dX11_span_52 : decode cX11_span 52 = .ok (.iload_n 2, 1) := by decide +kernel
theorem dX11_span_53 : decode cX11_span 53 = .ok (.bipush 51, 2) := by decide +kernel
theorem dX11_span_55 : decode cX11_span 55 = .ok (.irem, 1) := by decide +kernel
theorem dX11_span_56 : decode cX11_span 56 = .ok (.ireturn, 1) := by decide +kernel
theorem dX11_liar_0 : decode cX11_liar 0 = .ok (.aload_n 0, 1) := by decide +kernel
theorem dX11_liar_1 : decode cX11_liar 1 = .ok (.getfield 41, 3) := by decide +kernel
theorem dX11_liar_4 : decode cX11_liar 4 = .ok (.bipush (-3), 2) := by decide +kernel
theorem dX11_liar_6 : decode cX11_liar 6 = .ok (.invokevirtual 207, 3) := by decide +kernel
theorem dX11_liar_9 : decode cX11_liar 9 = .ok (.ifCond .lt 6, 3) := by decide +kernel
theorem dX11_liar_12 : decode cX11_liar 12 = .ok (.bipush (-3), 2) := by decide +kernel
theorem dX11_liar_14 : decode cX11_liar 14 = .ok (.ireturn, 1) := by decide +kernel
theorem dX11_liar_15 : decode cX11_liar 15 = .ok (.iconst 0, 1) := by decide +kernel
theorem dX11_liar_16 : decode cX11_liar 16 = .ok (.istore_n 1, 1) := by decide +kernel
theorem dX11_liar_17 : decode cX11_liar 17 = .ok (.iload_n 1, 1) := by decide +kernel
theorem dX11_liar_18 : decode cX11_liar 18 = .ok (.aload_n 0, 1) := by decide +kernel
theorem dX11_liar_19 : decode cX11_liar 19 = .ok (.getfield 41, 3) := by decide +kernel
theorem dX11_liar_22 : decode cX11_liar 22 = .ok (.getfield 198, 3) := by decide +kernel
theorem dX11_liar_25 : decode cX11_liar 25 = .ok (.if_icmp .ge 22, 3) := by decide +kernel
theorem dX11_liar_28 : decode cX11_liar 28 = .ok (.aload_n 0, 1) := by decide +kernel
theorem dX11_liar_29 : decode cX11_liar 29 = .ok (.getfield 41, 3) := by decide +kernel
theorem dX11_liar_32 : decode cX11_liar 32 = .ok (.iload_n 1, 1) := by decide +kernel
theorem dX11_liar_33 : decode cX11_liar 33 = .ok (.invokevirtual 207, 3) := by decide +kernel
theorem dX11_liar_36 : decode cX11_liar 36 = .ok (.ifCond .lt 5, 3) := by decide +kernel
theorem dX11_liar_39 : decode cX11_liar 39 = .ok (.iload_n 1, 1) := by decide +kernel
theorem dX11_liar_40 : decode cX11_liar 40 = .ok (.ireturn, 1) := by decide +kernel
theorem dX11_liar_41 : decode cX11_liar 41 = .ok (.iinc 1 1, 3) := by decide +kernel
theorem dX11_liar_44 : decode cX11_liar 44 = .ok (.goto (-27), 3) := by decide +kernel
theorem dX11_liar_47 : decode cX11_liar 47 = .ok (.bipush (-3), 2) := by decide +kernel
theorem dX11_liar_49 : decode cX11_liar 49 = .ok (.ireturn, 1) := by decide +kernel
theorem dX11_seed_0 : decode cX11_seed 0 = .ok (.aload_n 0, 1) := by decide +kernel
theorem dX11_seed_1 : decode cX11_seed 1 = .ok (.getfield 41, 3) := by decide +kernel
theorem dX11_seed_4 : decode cX11_seed 4 = .ok (.getfield 210, 3) := by decide +kernel
theorem dX11_seed_7 : decode cX11_seed 7 = .ok (.istore_n 2, 1) := by decide +kernel
theorem dX11_seed_8 : decode cX11_seed 8 = .ok (.aload_n 0, 1) := by decide +kernel
theorem dX11_seed_9 : decode cX11_seed 9 = .ok (.getfield 41, 3) := by decide +kernel
theorem dX11_seed_12 : decode cX11_seed 12 = .ok (.iload_n 1, 1) := by decide +kernel
theorem dX11_seed_13 : decode cX11_seed 13 = .ok (.putfield 210, 3) := by decide +kernel
theorem dX11_seed_16 : decode cX11_seed 16 = .ok (.iload_n 2, 1) := by decide +kernel
theorem dX11_seed_17 : decode cX11_seed 17 = .ok (.ireturn, 1) := by decide +kernel
theorem dX11_draw_0 : decode cX11_draw 0 = .ok (.aload_n 0, 1) := by decide +kernel
theorem dX11_draw_1 : decode cX11_draw 1 = .ok (.getfield 41, 3) := by decide +kernel
theorem dX11_draw_4 : decode cX11_draw 4 = .ok (.invokevirtual 213, 3) := by decide +kernel
theorem dX11_draw_7 : decode cX11_draw 7 = .ok (.ireturn, 1) := by decide +kernel
theorem dX11_often_0 : decode cX11_often 0 = .ok (.iload_n 1, 1) := by decide +kernel
theorem dX11_often_1 : decode cX11_often 1 = .ok (.iconst 1, 1) := by decide +kernel
theorem dX11_often_2 : decode cX11_often 2 = .ok (.bipush 60, 2) := by decide +kernel
theorem dX11_often_4 : decode cX11_often 4 = .ok (.invokestatic 72, 3) := by decide +kernel
theorem dX11_often_7 : decode cX11_often 7 = .ok (.ifCond .ne 5, 3) := by decide +kernel
theorem dX11_often_10 : decode cX11_often 10 = .ok (.iconst (-1), 1) := by decide +kernel
theorem dX11_often_11 : decode cX11_often 11 = .ok (.ireturn, 1) := by decide +kernel
theorem dX11_often_12 : decode cX11_often 12 = .ok (.aload_n 0, 1) := by decide +kernel
theorem dX11_often_13 : decode cX11_often 13 = .ok (.getfield 48, 3) := by decide +kernel
theorem dX11_often_16 : decode cX11_often 16 = .ok (.aload_n 0, 1) := by decide +kernel
theorem dX11_often_17 : decode cX11_often 17 = .ok (.getfield 41, 3) := by decide +kernel
theorem dX11_often_20 : decode cX11_often 20 = .ok (.invokevirtual 216, 3) := by decide +kernel
theorem dX11_often_23 : decode cX11_often 23 = .ok (.iconst 0, 1) := by decide +kernel
theorem dX11_often_24 : decode cX11_often 24 = .ok (.istore_n 2, 1) := by decide +kernel
theorem dX11_often_25 : decode cX11_often 25 = .ok (.iconst 0, 1) := by decide +kernel
theorem dX11_often_26 : decode cX11_often 26 = .ok (.istore_n 3, 1) := by decide +kernel
theorem dX11_often_27 : decode cX11_often 27 = .ok (.iload_n 3, 1) := by decide +kernel
theorem dX11_often_28 : decode cX11_often 28 = .ok (.iload_n 1, 1) := by decide +kernel
theorem dX11_often_29 : decode cX11_often 29 = .ok (.if_icmp .ge 40, 3) := by decide +kernel
theorem dX11_often_32 : decode cX11_often 32 = .ok (.aload_n 0, 1) := by decide +kernel
theorem dX11_often_33 : decode cX11_often 33 = .ok (.getfield 48, 3) := by decide +kernel
theorem dX11_often_36 : decode cX11_often 36 = .ok (.aload_n 0, 1) := by decide +kernel
theorem dX11_often_37 : decode cX11_often 37 = .ok (.getfield 41, 3) := by decide +kernel
theorem dX11_often_40 : decode cX11_often 40 = .ok (.invokevirtual 218, 3) := by decide +kernel
theorem dX11_often_43 : decode cX11_often 43 = .ok (.aload_n 0, 1) := by decide +kernel
theorem dX11_often_44 : decode cX11_often 44 = .ok (.getfield 48, 3) := by decide +kernel
theorem dX11_often_47 : decode cX11_often 47 = .ok (.invokevirtual 221, 3) := by decide +kernel
theorem dX11_often_50 : decode cX11_often 50 = .ok (.aload_n 0, 1) := by decide +kernel
theorem dX11_often_51 : decode cX11_often 51 = .ok (.getfield 48, 3) := by decide +kernel
theorem dX11_often_54 : decode cX11_often 54 = .ok (.invokevirtual 224, 3) := by decide +kernel
theorem dX11_often_57 : decode cX11_often 57 = .ok (.ifCond .eq 6, 3) := by decide +kernel
theorem dX11_often_60 : decode cX11_often 60 = .ok (.iinc 2 1, 3) := by decide +kernel
theorem dX11_often_63 : decode cX11_often 63 = .ok (.iinc 3 1, 3) := by decide +kernel
theorem dX11_often_66 : decode cX11_often 66 = .ok (.goto (-39), 3) := by decide +kernel
theorem dX11_often_69 : decode cX11_often 69 = .ok (.iload_n 2, 1) := by decide +kernel
theorem dX11_often_70 : decode cX11_often 70 = .ok (.ireturn, 1) := by decide +kernel
theorem dX11_prove_0 : decode cX11_prove 0 = .ok (.aload_n 0, 1) := by decide +kernel
theorem dX11_prove_1 : decode cX11_prove 1 = .ok (.getfield 56, 3) := by decide +kernel
theorem dX11_prove_4 : decode cX11_prove 4 = .ok (.aload_n 0, 1) := by decide +kernel
theorem dX11_prove_5 : decode cX11_prove 5 = .ok (.getfield 41, 3) := by decide +kernel
theorem dX11_prove_8 : decode cX11_prove 8 = .ok (.iconst 0, 1) := by decide +kernel
theorem dX11_prove_9 : decode cX11_prove 9 = .ok (.bipush 6, 2) := by decide +kernel
theorem dX11_prove_11 : decode cX11_prove 11 = .ok (.invokevirtual 171, 3) := by decide +kernel
theorem dX11_prove_14 : decode cX11_prove 14 = .ok (.istore_n 1, 1) := by decide +kernel
theorem dX11_prove_15 : decode cX11_prove 15 = .ok (.iload_n 1, 1) := by decide +kernel
theorem dX11_prove_16 : decode cX11_prove 16 = .ok (.ifCond .ge 6, 3) := by decide +kernel
theorem dX11_prove_19 : decode cX11_prove 19 = .ok (.bipush (-3), 2) := by decide +kernel
theorem dX11_prove_21 : decode cX11_prove 21 = .ok (.ireturn, 1) := by decide +kernel
theorem dX11_prove_22 : decode cX11_prove 22 = .ok (.aload_n 0, 1) := by decide +kernel
theorem dX11_prove_23 : decode cX11_prove 23 = .ok (.getfield 48, 3) := by decide +kernel
theorem dX11_prove_26 : decode cX11_prove 26 = .ok (.aload_n 0, 1) := by decide +kernel
theorem dX11_prove_27 : decode cX11_prove 27 = .ok (.getfield 41, 3) := by decide +kernel
theorem dX11_prove_30 : decode cX11_prove 30 = .ok (.invokevirtual 218, 3) := by decide +kernel
theorem dX11_prove_33 : decode cX11_prove 33 = .ok (.aload_n 0, 1) := by decide +kernel
theorem dX11_prove_34 : decode cX11_prove 34 = .ok (.iload_n 1, 1) := by decide +kernel
theorem dX11_prove_35 : decode cX11_prove 35 = .ok (.putfield 228, 3) := by decide +kernel
theorem dX11_prove_38 : decode cX11_prove 38 = .ok (.iconst 0, 1) := by decide +kernel
theorem dX11_prove_39 : decode cX11_prove 39 = .ok (.istore_n 2, 1) := by decide +kernel
theorem dX11_prove_40 : decode cX11_prove 40 = .ok (.iload_n 2, 1) := by decide +kernel
theorem dX11_prove_41 : decode cX11_prove 41 = .ok (.iload_n 1, 1) := by decide +kernel
theorem dX11_prove_42 : decode cX11_prove 42 = .ok (.if_icmp .ge 73, 3) := by decide +kernel
theorem dX11_prove_45 : decode cX11_prove 45 = .ok (.aload_n 0, 1) := by decide +kernel
theorem dX11_prove_46 : decode cX11_prove 46 = .ok (.getfield 48, 3) := by decide +kernel
theorem dX11_prove_49 : decode cX11_prove 49 = .ok (.aload_n 0, 1) := by decide +kernel
theorem dX11_prove_50 : decode cX11_prove 50 = .ok (.getfield 56, 3) := by decide +kernel
theorem dX11_prove_53 : decode cX11_prove 53 = .ok (.getfield 175, 3) := by decide +kernel
theorem dX11_prove_56 : decode cX11_prove 56 = .ok (.iload_n 2, 1) := by decide +kernel
theorem dX11_prove_57 : decode cX11_prove 57 = .ok (.iaload, 1) := by decide +kernel
theorem dX11_prove_58 : decode cX11_prove 58 = .ok (.invokevirtual 231, 3) := by decide +kernel
theorem dX11_prove_61 : decode cX11_prove 61 = .ok (.pop, 1) := by decide +kernel
theorem dX11_prove_62 : decode cX11_prove 62 = .ok (.aload_n 0, 1) := by decide +kernel
theorem dX11_prove_63 : decode cX11_prove 63 = .ok (.getfield 69, 3) := by decide +kernel
theorem dX11_prove_66 : decode cX11_prove 66 = .ok (.iload_n 2, 1) := by decide +kernel
theorem dX11_prove_67 : decode cX11_prove 67 = .ok (.aaload, 1) := by decide +kernel
theorem dX11_prove_68 : decode cX11_prove 68 = .ok (.iconst 0, 1) := by decide +kernel
theorem dX11_prove_69 : decode cX11_prove 69 = .ok (.aload_n 0, 1) := by decide +kernel
theorem dX11_prove_70 : decode cX11_prove 70 = .ok (.getfield 56, 3) := by decide +kernel
theorem dX11_prove_73 : decode cX11_prove 73 = .ok (.getfield 175, 3) := by decide +kernel
theorem dX11_prove_76 : decode cX11_prove 76 = .ok (.iload_n 2, 1) := by decide +kernel
theorem dX11_prove_77 : decode cX11_prove 77 = .ok (.iaload, 1) := by decide +kernel
theorem dX11_prove_78 : decode cX11_prove 78 = .ok (.iastore, 1) := by decide +kernel
theorem dX11_prove_79 : decode cX11_prove 79 = .ok (.aload_n 0, 1) := by decide +kernel
theorem dX11_prove_80 : decode cX11_prove 80 = .ok (.getfield 69, 3) := by decide +kernel
theorem dX11_prove_83 : decode cX11_prove 83 = .ok (.iload_n 2, 1) := by decide +kernel
theorem dX11_prove_84 : decode cX11_prove 84 = .ok (.aaload, 1) := by decide +kernel
theorem dX11_prove_85 : decode cX11_prove 85 = .ok (.iconst 1, 1) := by decide +kernel
theorem dX11_prove_86 : decode cX11_prove 86 = .ok (.aload_n 0, 1) := by decide +kernel
theorem dX11_prove_87 : decode cX11_prove 87 = .ok (.getfield 48, 3) := by decide +kernel
theorem dX11_prove_90 : decode cX11_prove 90 = .ok (.invokevirtual 127, 3) := by decide +kernel
theorem dX11_prove_93 : decode cX11_prove 93 = .ok (.iastore, 1) := by decide +kernel
theorem dX11_prove_94 : decode cX11_prove 94 = .ok (.aload_n 0, 1) := by decide +kernel
theorem dX11_prove_95 : decode cX11_prove 95 = .ok (.getfield 69, 3) := by decide +kernel
theorem dX11_prove_98 : decode cX11_prove 98 = .ok (.iload_n 2, 1) := by decide +kernel
theorem dX11_prove_99 : decode cX11_prove 99 = .ok (.aaload, 1) := by decide +kernel
theorem dX11_prove_100 : decode cX11_prove 100 = .ok (.iconst 2, 1) := by decide +kernel
theorem dX11_prove_101 : decode cX11_prove 101 = .ok (.aload_n 0, 1) := by decide +kernel
theorem dX11_prove_102 : decode cX11_prove 102 = .ok (.getfield 48, 3) := by decide +kernel
theorem dX11_prove_105 : decode cX11_prove 105 = .ok (.getfield 111, 3) := by decide +kernel
theorem dX11_prove_108 : decode cX11_prove 108 = .ok (.iastore, 1) := by decide +kernel
theorem dX11_prove_109 : decode cX11_prove 109 = .ok (.iinc 2 1, 3) := by decide +kernel
theorem dX11_prove_112 : decode cX11_prove 112 = .ok (.goto (-72), 3) := by decide +kernel
theorem dX11_prove_115 : decode cX11_prove 115 = .ok (.iload_n 1, 1) := by decide +kernel
theorem dX11_prove_116 : decode cX11_prove 116 = .ok (.ireturn, 1) := by decide +kernel
theorem dX11_row_0 : decode cX11_row 0 = .ok (.iload_n 1, 1) := by decide +kernel
theorem dX11_row_1 : decode cX11_row 1 = .ok (.iconst 0, 1) := by decide +kernel
theorem dX11_row_2 : decode cX11_row 2 = .ok (.aload_n 0, 1) := by decide +kernel
theorem dX11_row_3 : decode cX11_row 3 = .ok (.getfield 228, 3) := by decide +kernel
theorem dX11_row_6 : decode cX11_row 6 = .ok (.iconst 1, 1) := by decide +kernel
theorem dX11_row_7 : decode cX11_row 7 = .ok (.isub, 1) := by decide +kernel
theorem dX11_row_8 : decode cX11_row 8 = .ok (.invokestatic 72, 3) := by decide +kernel
theorem dX11_row_11 : decode cX11_row 11 = .ok (.ifCond .eq 23, 3) := by decide +kernel
theorem dX11_row_14 : decode cX11_row 14 = .ok (.iload_n 2, 1) := by decide +kernel
theorem dX11_row_15 : decode cX11_row 15 = .ok (.iconst 0, 1) := by decide +kernel
theorem dX11_row_16 : decode cX11_row 16 = .ok (.iconst 2, 1) := by decide +kernel
theorem dX11_row_17 : decode cX11_row 17 = .ok (.invokestatic 72, 3) := by decide +kernel
theorem dX11_row_20 : decode cX11_row 20 = .ok (.ifCond .eq 14, 3) := by decide +kernel
theorem dX11_row_23 : decode cX11_row 23 = .ok (.aload_n 0, 1) := by decide +kernel
theorem dX11_row_24 : decode cX11_row 24 = .ok (.getfield 69, 3) := by decide +kernel
theorem dX11_row_27 : decode cX11_row 27 = .ok (.iload_n 1, 1) := by decide +kernel
theorem dX11_row_28 : decode cX11_row 28 = .ok (.aaload, 1) := by decide +kernel
theorem dX11_row_29 : decode cX11_row 29 = .ok (.iload_n 2, 1) := by decide +kernel
theorem dX11_row_30 : decode cX11_row 30 = .ok (.iaload, 1) := by decide +kernel
theorem dX11_row_31 : decode cX11_row 31 = .ok (.goto 5, 3) := by decide +kernel
theorem dX11_row_34 : decode cX11_row 34 = .ok (.bipush (-9), 2) := by decide +kernel
theorem dX11_row_36 : decode cX11_row 36 = .ok (.ireturn, 1) := by decide +kernel
theorem dX11_alterRow_0 : decode cX11_alterRow 0 = .ok (.iload_n 1, 1) := by decide +kernel
theorem dX11_alterRow_1 : decode cX11_alterRow 1 = .ok (.iconst 0, 1) := by decide +kernel
theorem dX11_alterRow_2 : decode cX11_alterRow 2 = .ok (.aload_n 0, 1) := by decide +kernel
theorem dX11_alterRow_3 : decode cX11_alterRow 3 = .ok (.getfield 228, 3) := by decide +kernel
theorem dX11_alterRow_6 : decode cX11_alterRow 6 = .ok (.iconst 1, 1) := by decide +kernel
theorem dX11_alterRow_7 : decode cX11_alterRow 7 = .ok (.isub, 1) := by decide +kernel
theorem dX11_alterRow_8 : decode cX11_alterRow 8 = .ok (.invokestatic 72, 3) := by decide +kernel
theorem dX11_alterRow_11 : decode cX11_alterRow 11 = .ok (.ifCond .eq 12, 3) := by decide +kernel
theorem dX11_alterRow_14 : decode cX11_alterRow 14 = .ok (.iload_n 2, 1) := by decide +kernel
theorem dX11_alterRow_15 : decode cX11_alterRow 15 = .ok (.iconst 0, 1) := by decide +kernel
theorem dX11_alterRow_16 : decode cX11_alterRow 16 = .ok (.iconst 2, 1) := by decide +kernel
theorem dX11_alterRow_17 : decode cX11_alterRow 17 = .ok (.invokestatic 72, 3) := by decide +kernel
theorem dX11_alterRow_20 : decode cX11_alterRow 20 = .ok (.ifCond .ne 6, 3) := by decide +kernel
theorem dX11_alterRow_23 : decode cX11_alterRow 23 = .ok (.bipush (-9), 2) := by decide +kernel
theorem dX11_alterRow_25 : decode cX11_alterRow 25 = .ok (.ireturn, 1) := by decide +kernel
theorem dX11_alterRow_26 : decode cX11_alterRow 26 = .ok (.aload_n 0, 1) := by decide +kernel
theorem dX11_alterRow_27 : decode cX11_alterRow 27 = .ok (.getfield 69, 3) := by decide +kernel
theorem dX11_alterRow_30 : decode cX11_alterRow 30 = .ok (.iload_n 1, 1) := by decide +kernel
theorem dX11_alterRow_31 : decode cX11_alterRow 31 = .ok (.aaload, 1) := by decide +kernel
theorem dX11_alterRow_32 : decode cX11_alterRow 32 = .ok (.iload_n 2, 1) := by decide +kernel
theorem dX11_alterRow_33 : decode cX11_alterRow 33 = .ok (.iaload, 1) := by decide +kernel
theorem dX11_alterRow_34 : decode cX11_alterRow 34 = .ok (.istore 4, 2) := by decide +kernel
theorem dX11_alterRow_36 : decode cX11_alterRow 36 = .ok (.aload_n 0, 1) := by decide +kernel
theorem dX11_alterRow_37 : decode cX11_alterRow 37 = .ok (.getfield 69, 3) := by decide +kernel
theorem dX11_alterRow_40 : decode cX11_alterRow 40 = .ok (.iload_n 1, 1) := by decide +kernel
theorem dX11_alterRow_41 : decode cX11_alterRow 41 = .ok (.aaload, 1) := by decide +kernel
theorem dX11_alterRow_42 : decode cX11_alterRow 42 = .ok (.iload_n 2, 1) := by decide +kernel
theorem dX11_alterRow_43 : decode cX11_alterRow 43 = .ok (.iload_n 3, 1) := by decide +kernel
theorem dX11_alterRow_44 : decode cX11_alterRow 44 = .ok (.iastore, 1) := by decide +kernel
theorem dX11_alterRow_45 : decode cX11_alterRow 45 = .ok (.iload 4, 2) := by decide +kernel
theorem dX11_alterRow_47 : decode cX11_alterRow 47 = .ok (.ireturn, 1) := by decide +kernel
theorem dX11_judge_0 : decode cX11_judge 0 = .ok (.aload_n 0, 1) := by decide +kernel
theorem dX11_judge_1 : decode cX11_judge 1 = .ok (.getfield 48, 3) := by decide +kernel
theorem dX11_judge_4 : decode cX11_judge 4 = .ok (.aload_n 0, 1) := by decide +kernel
theorem dX11_judge_5 : decode cX11_judge 5 = .ok (.getfield 41, 3) := by decide +kernel
theorem dX11_judge_8 : decode cX11_judge 8 = .ok (.invokevirtual 218, 3) := by decide +kernel
theorem dX11_judge_11 : decode cX11_judge 11 = .ok (.iconst 0, 1) := by decide +kernel
theorem dX11_judge_12 : decode cX11_judge 12 = .ok (.istore_n 1, 1) := by decide +kernel
theorem dX11_judge_13 : decode cX11_judge 13 = .ok (.iload_n 1, 1) := by decide +kernel
theorem dX11_judge_14 : decode cX11_judge 14 = .ok (.aload_n 0, 1) := by decide +kernel
theorem dX11_judge_15 : decode cX11_judge 15 = .ok (.getfield 228, 3) := by decide +kernel
theorem dX11_judge_18 : decode cX11_judge 18 = .ok (.if_icmp .ge 117, 3) := by decide +kernel
theorem dX11_judge_21 : decode cX11_judge 21 = .ok (.aload_n 0, 1) := by decide +kernel
theorem dX11_judge_22 : decode cX11_judge 22 = .ok (.getfield 48, 3) := by decide +kernel
theorem dX11_judge_25 : decode cX11_judge 25 = .ok (.aload_n 0, 1) := by decide +kernel
theorem dX11_judge_26 : decode cX11_judge 26 = .ok (.getfield 69, 3) := by decide +kernel
theorem dX11_judge_29 : decode cX11_judge 29 = .ok (.iload_n 1, 1) := by decide +kernel
theorem dX11_judge_30 : decode cX11_judge 30 = .ok (.aaload, 1) := by decide +kernel
theorem dX11_judge_31 : decode cX11_judge 31 = .ok (.iconst 0, 1) := by decide +kernel
theorem dX11_judge_32 : decode cX11_judge 32 = .ok (.iaload, 1) := by decide +kernel
theorem dX11_judge_33 : decode cX11_judge 33 = .ok (.invokevirtual 162, 3) := by decide +kernel
theorem dX11_judge_36 : decode cX11_judge 36 = .ok (.ifCond .ne 7, 3) := by decide +kernel
theorem dX11_judge_39 : decode cX11_judge 39 = .ok (.iload_n 1, 1) := by decide +kernel
theorem dX11_judge_40 : decode cX11_judge 40 = .ok (.iconst 1, 1) := by decide +kernel
theorem dX11_judge_41 : decode cX11_judge 41 = .ok (.iadd, 1) := by decide +kernel
theorem dX11_judge_42 : decode cX11_judge 42 = .ok (.ireturn, 1) := by decide +kernel
theorem dX11_judge_43 : decode cX11_judge 43 = .ok (.aload_n 0, 1) := by decide +kernel
theorem dX11_judge_44 : decode cX11_judge 44 = .ok (.getfield 48, 3) := by decide +kernel
theorem dX11_judge_47 : decode cX11_judge 47 = .ok (.aload_n 0, 1) := by decide +kernel
theorem dX11_judge_48 : decode cX11_judge 48 = .ok (.getfield 69, 3) := by decide +kernel
theorem dX11_judge_51 : decode cX11_judge 51 = .ok (.iload_n 1, 1) := by decide +kernel
theorem dX11_judge_52 : decode cX11_judge 52 = .ok (.aaload, 1) := by decide +kernel
theorem dX11_judge_53 : decode cX11_judge 53 = .ok (.iconst 0, 1) := by decide +kernel
theorem dX11_judge_54 : decode cX11_judge 54 = .ok (.iaload, 1) := by decide +kernel
theorem dX11_judge_55 : decode cX11_judge 55 = .ok (.invokevirtual 231, 3) := by decide +kernel
theorem dX11_judge_58 : decode cX11_judge 58 = .ok (.pop, 1) := by decide +kernel
theorem dX11_judge_59 : decode cX11_judge 59 = .ok (.aload_n 0, 1) := by decide +kernel
theorem dX11_judge_60 : decode cX11_judge 60 = .ok (.getfield 69, 3) := by decide +kernel
theorem dX11_judge_63 : decode cX11_judge 63 = .ok (.iload_n 1, 1) := by decide +kernel
theorem dX11_judge_64 : decode cX11_judge 64 = .ok (.aaload, 1) := by decide +kernel
theorem dX11_judge_65 : decode cX11_judge 65 = .ok (.iconst 1, 1) := by decide +kernel
theorem dX11_judge_66 : decode cX11_judge 66 = .ok (.iaload, 1) := by decide +kernel
theorem dX11_judge_67 : decode cX11_judge 67 = .ok (.aload_n 0, 1) := by decide +kernel
theorem dX11_judge_68 : decode cX11_judge 68 = .ok (.getfield 48, 3) := by decide +kernel
theorem dX11_judge_71 : decode cX11_judge 71 = .ok (.invokevirtual 127, 3) := by decide +kernel
theorem dX11_judge_74 : decode cX11_judge 74 = .ok (.if_icmp .ne 25, 3) := by decide +kernel
theorem dX11_judge_77 : decode cX11_judge 77 = .ok (.aload_n 0, 1) := by decide +kernel
theorem dX11_judge_78 : decode cX11_judge 78 = .ok (.getfield 69, 3) := by decide +kernel
theorem dX11_judge_81 : decode cX11_judge 81 = .ok (.iload_n 1, 1) := by decide +kernel
theorem dX11_judge_82 : decode cX11_judge 82 = .ok (.aaload, 1) := by decide +kernel
theorem dX11_judge_83 : decode cX11_judge 83 = .ok (.iconst 2, 1) := by decide +kernel
theorem dX11_judge_84 : decode cX11_judge 84 = .ok (.iaload, 1) := by decide +kernel
theorem dX11_judge_85 : decode cX11_judge 85 = .ok (.aload_n 0, 1) := by decide +kernel
theorem dX11_judge_86 : decode cX11_judge 86 = .ok (.getfield 48, 3) := by decide +kernel
theorem dX11_judge_89 : decode cX11_judge 89 = .ok (.getfield 111, 3) := by decide +kernel
theorem dX11_judge_92 : decode cX11_judge 92 = .ok (.if_icmp .ne 7, 3) := by decide +kernel
theorem dX11_judge_95 : decode cX11_judge 95 = .ok (.iconst 1, 1) := by decide +kernel
theorem dX11_judge_96 : decode cX11_judge 96 = .ok (.goto 4, 3) := by decide +kernel
theorem dX11_judge_99 : decode cX11_judge 99 = .ok (.iconst 0, 1) := by decide +kernel
theorem dX11_judge_100 : decode cX11_judge 100 = .ok (.istore_n 2, 1) := by decide +kernel
theorem dX11_judge_101 : decode cX11_judge 101 = .ok (.iload_n 2, 1) := by decide +kernel
theorem dX11_judge_102 : decode cX11_judge 102 = .ok (.ifCond .eq 23, 3) := by decide +kernel
theorem dX11_judge_105 : decode cX11_judge 105 = .ok (.iload_n 1, 1) := by decide +kernel
theorem dX11_judge_106 : decode cX11_judge 106 = .ok (.aload_n 0, 1) := by decide +kernel
theorem dX11_judge_107 : decode cX11_judge 107 = .ok (.getfield 228, 3) := by decide +kernel
theorem dX11_judge_110 : decode cX11_judge 110 = .ok (.iconst 1, 1) := by decide +kernel
theorem dX11_judge_111 : decode cX11_judge 111 = .ok (.isub, 1) := by decide +kernel
theorem dX11_judge_112 : decode cX11_judge 112 = .ok (.if_icmp .ne 17, 3) := by decide +kernel
theorem dX11_judge_115 : decode cX11_judge 115 = .ok (.aload_n 0, 1) := by decide +kernel
theorem dX11_judge_116 : decode cX11_judge 116 = .ok (.getfield 48, 3) := by decide +kernel
theorem dX11_judge_119 : decode cX11_judge 119 = .ok (.invokevirtual 224, 3) := by decide +kernel
theorem dX11_judge_122 : decode cX11_judge 122 = .ok (.ifCond .ne 7, 3) := by decide +kernel
theorem dX11_judge_125 : decode cX11_judge 125 = .ok (.iload_n 1, 1) := by decide +kernel
theorem dX11_judge_126 : decode cX11_judge 126 = .ok (.iconst 1, 1) := by decide +kernel
theorem dX11_judge_127 : decode cX11_judge 127 = .ok (.iadd, 1) := by decide +kernel
theorem dX11_judge_128 : decode cX11_judge 128 = .ok (.ireturn, 1) := by decide +kernel
theorem dX11_judge_129 : decode cX11_judge 129 = .ok (.iinc 1 1, 3) := by decide +kernel
theorem dX11_judge_132 : decode cX11_judge 132 = .ok (.goto (-119), 3) := by decide +kernel
theorem dX11_judge_135 : decode cX11_judge 135 = .ok (.iconst 0, 1) := by decide +kernel
theorem dX11_judge_136 : decode cX11_judge 136 = .ok (.ireturn, 1) := by decide +kernel
theorem dX11_sheet_0 : decode cX11_sheet 0 = .ok (.iload_n 1, 1) := by decide +kernel
theorem dX11_sheet_1 : decode cX11_sheet 1 = .ok (.invokestatic 234, 3) := by decide +kernel
theorem dX11_sheet_4 : decode cX11_sheet 4 = .ok (.ifCond .eq 12, 3) := by decide +kernel
theorem dX11_sheet_7 : decode cX11_sheet 7 = .ok (.iload_n 2, 1) := by decide +kernel
theorem dX11_sheet_8 : decode cX11_sheet 8 = .ok (.iconst (-1), 1) := by decide +kernel
theorem dX11_sheet_9 : decode cX11_sheet 9 = .ok (.iconst 4, 1) := by decide +kernel
theorem dX11_sheet_10 : decode cX11_sheet 10 = .ok (.invokestatic 72, 3) := by decide +kernel
theorem dX11_sheet_13 : decode cX11_sheet 13 = .ok (.ifCond .ne 5, 3) := by decide +kernel
theorem dX11_sheet_16 : decode cX11_sheet 16 = .ok (.iconst (-1), 1) := by decide +kernel
theorem dX11_sheet_17 : decode cX11_sheet 17 = .ok (.ireturn, 1) := by decide +kernel
theorem dX11_sheet_18 : decode cX11_sheet 18 = .ok (.iload_n 2, 1) := by decide +kernel
theorem dX11_sheet_19 : decode cX11_sheet 19 = .ok (.iconst (-1), 1) := by decide +kernel
theorem dX11_sheet_20 : decode cX11_sheet 20 = .ok (.if_icmp .ne 7, 3) := by decide +kernel
theorem dX11_sheet_23 : decode cX11_sheet 23 = .ok (.iconst 0, 1) := by decide +kernel
theorem dX11_sheet_24 : decode cX11_sheet 24 = .ok (.goto 4, 3) := by decide +kernel
theorem dX11_sheet_27 : decode cX11_sheet 27 = .ok (.iload_n 3, 1) := by decide +kernel
theorem dX11_sheet_28 : decode cX11_sheet 28 = .ok (.istore 4, 2) := by decide +kernel
theorem dX11_sheet_30 : decode cX11_sheet 30 = .ok (.iload 4, 2) := by decide +kernel
theorem dX11_sheet_32 : decode cX11_sheet 32 = .ok (.bipush 40, 2) := by decide +kernel
theorem dX11_sheet_34 : decode cX11_sheet 34 = .ok (.if_icmp .le 5, 3) := by decide +kernel
theorem dX11_sheet_37 : decode cX11_sheet 37 = .ok (.iconst (-1), 1) := by decide +kernel
theorem dX11_sheet_38 : decode cX11_sheet 38 = .ok (.ireturn, 1) := by decide +kernel
theorem dX11_sheet_39 : decode cX11_sheet 39 = .ok (.iload 4, 2) := by decide +kernel
theorem dX11_sheet_41 : decode cX11_sheet 41 = .ok (.ifCond .ge 6, 3) := by decide +kernel
theorem dX11_sheet_44 : decode cX11_sheet 44 = .ok (.bipush (-14), 2) := by decide +kernel
theorem dX11_sheet_46 : decode cX11_sheet 46 = .ok (.ireturn, 1) := by decide +kernel
theorem dX11_sheet_47 : decode cX11_sheet 47 = .ok (.aload_n 0, 1) := by decide +kernel
theorem dX11_sheet_48 : decode cX11_sheet 48 = .ok (.getfield 10, 3) := by decide +kernel
theorem dX11_sheet_51 : decode cX11_sheet 51 = .ok (.getfield 237, 3) := by decide +kernel
theorem dX11_sheet_54 : decode cX11_sheet 54 = .ok (.iload_n 1, 1) := by decide +kernel
theorem dX11_sheet_55 : decode cX11_sheet 55 = .ok (.iload_n 2, 1) := by decide +kernel
theorem dX11_sheet_56 : decode cX11_sheet 56 = .ok (.iastore, 1) := by decide +kernel
theorem dX11_sheet_57 : decode cX11_sheet 57 = .ok (.aload_n 0, 1) := by decide +kernel
theorem dX11_sheet_58 : decode cX11_sheet 58 = .ok (.getfield 10, 3) := by decide +kernel
theorem dX11_sheet_61 : decode cX11_sheet 61 = .ok (.getfield 240, 3) := by decide +kernel
theorem dX11_sheet_64 : decode cX11_sheet 64 = .ok (.iload_n 1, 1) := by decide +kernel
theorem dX11_sheet_65 : decode cX11_sheet 65 = .ok (.iload 4, 2) := by decide +kernel
theorem dX11_sheet_67 : decode cX11_sheet 67 = .ok (.iastore, 1) := by decide +kernel
theorem dX11_sheet_68 : decode cX11_sheet 68 = .ok (.aload_n 0, 1) := by decide +kernel
theorem dX11_sheet_69 : decode cX11_sheet 69 = .ok (.getfield 10, 3) := by decide +kernel
theorem dX11_sheet_72 : decode cX11_sheet 72 = .ok (.getfield 242, 3) := by decide +kernel
theorem dX11_sheet_75 : decode cX11_sheet 75 = .ok (.iload_n 1, 1) := by decide +kernel
theorem dX11_sheet_76 : decode cX11_sheet 76 = .ok (.aaload, 1) := by decide +kernel
theorem dX11_sheet_77 : decode cX11_sheet 77 = .ok (.iconst 0, 1) := by decide +kernel
theorem dX11_sheet_78 : decode cX11_sheet 78 = .ok (.invokestatic 245, 3) := by decide +kernel
theorem dX11_sheet_81 : decode cX11_sheet 81 = .ok (.iconst 1, 1) := by decide +kernel
theorem dX11_sheet_82 : decode cX11_sheet 82 = .ok (.ireturn, 1) := by decide +kernel
theorem dX11_write_0 : decode cX11_write 0 = .ok (.iload_n 1, 1) := by decide +kernel
theorem dX11_write_1 : decode cX11_write 1 = .ok (.invokestatic 234, 3) := by decide +kernel
theorem dX11_write_4 : decode cX11_write 4 = .ok (.ifCond .ne 5, 3) := by decide +kernel
theorem dX11_write_7 : decode cX11_write 7 = .ok (.iconst (-1), 1) := by decide +kernel
theorem dX11_write_8 : decode cX11_write 8 = .ok (.ireturn, 1) := by decide +kernel
theorem dX11_write_9 : decode cX11_write 9 = .ok (.aload_n 0, 1) := by decide +kernel
theorem dX11_write_10 : decode cX11_write 10 = .ok (.getfield 10, 3) := by decide +kernel
theorem dX11_write_13 : decode cX11_write 13 = .ok (.getfield 237, 3) := by decide +kernel
theorem dX11_write_16 : decode cX11_write 16 = .ok (.iload_n 1, 1) := by decide +kernel
theorem dX11_write_17 : decode cX11_write 17 = .ok (.iaload, 1) := by decide +kernel
theorem dX11_write_18 : decode cX11_write 18 = .ok (.iconst (-1), 1) := by decide +kernel
theorem dX11_write_19 : decode cX11_write 19 = .ok (.if_icmp .ne 6, 3) := by decide +kernel
theorem dX11_write_22 : decode cX11_write 22 = .ok (.bipush (-11), 2) := by decide +kernel
theorem dX11_write_24 : decode cX11_write 24 = .ok (.ireturn, 1) := by decide +kernel
theorem dX11_write_25 : decode cX11_write 25 = .ok (.aload_n 0, 1) := by decide +kernel
theorem dX11_write_26 : decode cX11_write 26 = .ok (.getfield 10, 3) := by decide +kernel
theorem dX11_write_29 : decode cX11_write 29 = .ok (.iload_n 1, 1) := by decide +kernel
theorem dX11_write_30 : decode cX11_write 30 = .ok (.iload_n 2, 1) := by decide +kernel
theorem dX11_write_31 : decode cX11_write 31 = .ok (.invokevirtual 251, 3) := by decide +kernel
theorem dX11_write_34 : decode cX11_write 34 = .ok (.ifCond .ne 6, 3) := by decide +kernel
theorem dX11_write_37 : decode cX11_write 37 = .ok (.bipush (-12), 2) := by decide +kernel
theorem dX11_write_39 : decode cX11_write 39 = .ok (.ireturn, 1) := by decide +kernel
theorem dX11_write_40 : decode cX11_write 40 = .ok (.aload_n 0, 1) := by decide +kernel
theorem dX11_write_41 : decode cX11_write 41 = .ok (.getfield 10, 3) := by decide +kernel
theorem dX11_write_44 : decode cX11_write 44 = .ok (.getfield 242, 3) := by decide +kernel
theorem dX11_write_47 : decode cX11_write 47 = .ok (.iload_n 1, 1) := by decide +kernel
theorem dX11_write_48 : decode cX11_write 48 = .ok (.aaload, 1) := by decide +kernel
theorem dX11_write_49 : decode cX11_write 49 = .ok (.iload_n 2, 1) := by decide +kernel
theorem dX11_write_50 : decode cX11_write 50 = .ok (.aload_n 0, 1) := by decide +kernel
theorem dX11_write_51 : decode cX11_write 51 = .ok (.getfield 10, 3) := by decide +kernel
theorem dX11_write_54 : decode cX11_write 54 = .ok (.aload_n 0, 1) := by decide +kernel
theorem dX11_write_55 : decode cX11_write 55 = .ok (.getfield 10, 3) := by decide +kernel
theorem dX11_write_58 : decode cX11_write 58 = .ok (.getfield 237, 3) := by decide +kernel
theorem dX11_write_61 : decode cX11_write 61 = .ok (.iload_n 1, 1) := by decide +kernel
theorem dX11_write_62 : decode cX11_write 62 = .ok (.iaload, 1) := by decide +kernel
theorem dX11_write_63 : decode cX11_write 63 = .ok (.iload_n 3, 1) := by decide +kernel
theorem dX11_write_64 : decode cX11_write 64 = .ok (.invokevirtual 255, 3) := by decide +kernel
theorem dX11_write_67 : decode cX11_write 67 = .ok (.iastore, 1) := by decide +kernel
theorem dX11_write_68 : decode cX11_write 68 = .ok (.iconst 1, 1) := by decide +kernel
theorem dX11_write_69 : decode cX11_write 69 = .ok (.ireturn, 1) := by decide +kernel
theorem dX11_item_0 : decode cX11_item 0 = .ok (.iload_n 1, 1) := by decide +kernel
theorem dX11_item_1 : decode cX11_item 1 = .ok (.invokestatic 234, 3) := by decide +kernel
theorem dX11_item_4 : decode cX11_item 4 = .ok (.ifCond .eq 12, 3) := by decide +kernel
theorem dX11_item_7 : decode cX11_item 7 = .ok (.iload_n 2, 1) := by decide +kernel
theorem dX11_item_8 : decode cX11_item 8 = .ok (.iconst 0, 1) := by decide +kernel
theorem dX11_item_9 : decode cX11_item 9 = .ok (.iconst 4, 1) := by decide +kernel
theorem dX11_item_10 : decode cX11_item 10 = .ok (.invokestatic 72, 3) := by decide +kernel
theorem dX11_item_13 : decode cX11_item 13 = .ok (.ifCond .ne 5, 3) := by decide +kernel
theorem dX11_item_16 : decode cX11_item 16 = .ok (.iconst (-1), 1) := by decide +kernel
theorem dX11_item_17 : decode cX11_item 17 = .ok (.ireturn, 1) := by decide +kernel
theorem dX11_item_18 : decode cX11_item 18 = .ok (.aload_n 0, 1) := by decide +kernel
theorem dX11_item_19 : decode cX11_item 19 = .ok (.getfield 10, 3) := by decide +kernel
theorem dX11_item_22 : decode cX11_item 22 = .ok (.iload_n 1, 1) := by decide +kernel
theorem dX11_item_23 : decode cX11_item 23 = .ok (.iload_n 2, 1) := by decide +kernel
theorem dX11_item_24 : decode cX11_item 24 = .ok (.invokevirtual 259, 3) := by decide +kernel
theorem dX11_item_27 : decode cX11_item 27 = .ok (.istore 4, 2) := by decide +kernel
theorem dX11_item_29 : decode cX11_item 29 = .ok (.iload 4, 2) := by decide +kernel
theorem dX11_item_31 : decode cX11_item 31 = .ok (.ifCond .eq 6, 3) := by decide +kernel
theorem dX11_item_34 : decode cX11_item 34 = .ok (.iload 4, 2) := by decide +kernel
theorem dX11_item_36 : decode cX11_item 36 = .ok (.ireturn, 1) := by decide +kernel
theorem dX11_item_37 : decode cX11_item 37 = .ok (.aload_n 0, 1) := by decide +kernel
theorem dX11_item_38 : decode cX11_item 38 = .ok (.getfield 10, 3) := by decide +kernel
theorem dX11_item_41 : decode cX11_item 41 = .ok (.iload_n 1, 1) := by decide +kernel
theorem dX11_item_42 : decode cX11_item 42 = .ok (.iload_n 3, 1) := by decide +kernel
theorem dX11_item_43 : decode cX11_item 43 = .ok (.invokevirtual 251, 3) := by decide +kernel
theorem dX11_item_46 : decode cX11_item 46 = .ok (.ifCond .eq 17, 3) := by decide +kernel
theorem dX11_item_49 : decode cX11_item 49 = .ok (.aload_n 0, 1) := by decide +kernel
theorem dX11_item_50 : decode cX11_item 50 = .ok (.getfield 10, 3) := by decide +kernel
theorem dX11_item_53 : decode cX11_item 53 = .ok (.getfield 242, 3) := by decide +kernel
theorem dX11_item_56 : decode cX11_item 56 = .ok (.iload_n 1, 1) := by decide +kernel
theorem dX11_item_57 : decode cX11_item 57 = .ok (.aaload, 1) := by decide +kernel
theorem dX11_item_58 : decode cX11_item 58 = .ok (.iload_n 3, 1) := by decide +kernel
theorem dX11_item_59 : decode cX11_item 59 = .ok (.iaload, 1) := by decide +kernel
theorem dX11_item_60 : decode cX11_item 60 = .ok (.goto 5, 3) := by decide +kernel
theorem dX11_item_63 : decode cX11_item 63 = .ok (.bipush (-12), 2) := by decide +kernel
theorem dX11_item_65 : decode cX11_item 65 = .ok (.ireturn, 1) := by decide +kernel
theorem dX11_makeAll_0 : decode cX11_makeAll 0 = .ok (.iload_n 1, 1) := by decide +kernel
theorem dX11_makeAll_1 : decode cX11_makeAll 1 = .ok (.invokestatic 234, 3) := by decide +kernel
theorem dX11_makeAll_4 : decode cX11_makeAll 4 = .ok (.ifCond .eq 13, 3) := by decide +kernel
theorem dX11_makeAll_7 : decode cX11_makeAll 7 = .ok (.iload_n 3, 1) := by decide +kernel
theorem dX11_makeAll_8 : decode cX11_makeAll 8 = .ok (.iconst 0, 1) := by decide +kernel
theorem dX11_makeAll_9 : decode cX11_makeAll 9 = .ok (.bipush 20, 2) := by decide +kernel
theorem dX11_makeAll_11 : decode cX11_makeAll 11 = .ok (.invokestatic 72, 3) := by decide +kernel
theorem dX11_makeAll_14 : decode cX11_makeAll 14 = .ok (.ifCond .ne 5, 3) := by decide +kernel
theorem dX11_makeAll_17 : decode cX11_makeAll 17 = .ok (.iconst (-1), 1) := by decide +kernel
theorem dX11_makeAll_18 : decode cX11_makeAll 18 = .ok (.ireturn, 1) := by decide +kernel
theorem dX11_makeAll_19 : decode cX11_makeAll 19 = .ok (.aload_n 0, 1) := by decide +kernel
theorem dX11_makeAll_20 : decode cX11_makeAll 20 = .ok (.getfield 10, 3) := by decide +kernel
theorem dX11_makeAll_23 : decode cX11_makeAll 23 = .ok (.iload_n 1, 1) := by decide +kernel
theorem dX11_makeAll_24 : decode cX11_makeAll 24 = .ok (.iconst 0, 1) := by decide +kernel
theorem dX11_makeAll_25 : decode cX11_makeAll 25 = .ok (.invokevirtual 259, 3) := by decide +kernel
theorem dX11_makeAll_28 : decode cX11_makeAll 28 = .ok (.istore 4, 2) := by decide +kernel
theorem dX11_makeAll_30 : decode cX11_makeAll 30 = .ok (.iload 4, 2) := by decide +kernel
theorem dX11_makeAll_32 : decode cX11_makeAll 32 = .ok (.ifCond .eq 6, 3) := by decide +kernel
theorem dX11_makeAll_35 : decode cX11_makeAll 35 = .ok (.iload 4, 2) := by decide +kernel
theorem dX11_makeAll_37 : decode cX11_makeAll 37 = .ok (.ireturn, 1) := by decide +kernel
theorem dX11_makeAll_38 : decode cX11_makeAll 38 = .ok (.iconst 0, 1) := by decide +kernel
theorem dX11_makeAll_39 : decode cX11_makeAll 39 = .ok (.istore 5, 2) := by decide +kernel
theorem dX11_makeAll_41 : decode cX11_makeAll 41 = .ok (.iconst 0, 1) := by decide +kernel
theorem dX11_makeAll_42 : decode cX11_makeAll 42 = .ok (.istore 6, 2) := by decide +kernel
theorem dX11_makeAll_44 : decode cX11_makeAll 44 = .ok (.iload 6, 2) := by decide +kernel
theorem dX11_makeAll_46 : decode cX11_makeAll 46 = .ok (.iload_n 3, 1) := by decide +kernel
theorem dX11_makeAll_47 : decode cX11_makeAll 47 = .ok (.if_icmp .ge 68, 3) := by decide +kernel
theorem dX11_makeAll_50 : decode cX11_makeAll 50 = .ok (.aload_n 0, 1) := by decide +kernel
theorem dX11_makeAll_51 : decode cX11_makeAll 51 = .ok (.getfield 10, 3) := by decide +kernel
theorem dX11_makeAll_54 : decode cX11_makeAll 54 = .ok (.iload_n 1, 1) := by decide +kernel
theorem dX11_makeAll_55 : decode cX11_makeAll 55 = .ok (.iload_n 2, 1) := by decide +kernel
theorem dX11_makeAll_56 : decode cX11_makeAll 56 = .ok (.iload 6, 2) := by decide +kernel
theorem dX11_makeAll_58 : decode cX11_makeAll 58 = .ok (.iadd, 1) := by decide +kernel
theorem dX11_makeAll_59 : decode cX11_makeAll 59 = .ok (.invokevirtual 251, 3) := by decide +kernel
theorem dX11_makeAll_62 : decode cX11_makeAll 62 = .ok (.ifCond .ne 6, 3) := by decide +kernel
theorem dX11_makeAll_65 : decode cX11_makeAll 65 = .ok (.bipush (-12), 2) := by decide +kernel
theorem dX11_makeAll_67 : decode cX11_makeAll 67 = .ok (.ireturn, 1) := by decide +kernel
theorem dX11_makeAll_68 : decode cX11_makeAll 68 = .ok (.aload_n 0, 1) := by decide +kernel
theorem dX11_makeAll_69 : decode cX11_makeAll 69 = .ok (.getfield 10, 3) := by decide +kernel
theorem dX11_makeAll_72 : decode cX11_makeAll 72 = .ok (.getfield 242, 3) := by decide +kernel
theorem dX11_makeAll_75 : decode cX11_makeAll 75 = .ok (.iload_n 1, 1) := by decide +kernel
theorem dX11_makeAll_76 : decode cX11_makeAll 76 = .ok (.aaload, 1) := by decide +kernel
theorem dX11_makeAll_77 : decode cX11_makeAll 77 = .ok (.iload_n 2, 1) := by decide +kernel
theorem dX11_makeAll_78 : decode cX11_makeAll 78 = .ok (.iload 6, 2) := by decide +kernel
theorem dX11_makeAll_80 : decode cX11_makeAll 80 = .ok (.iadd, 1) := by decide +kernel
theorem dX11_makeAll_81 : decode cX11_makeAll 81 = .ok (.iaload, 1) := by decide +kernel
theorem dX11_makeAll_82 : decode cX11_makeAll 82 = .ok (.istore 7, 2) := by decide +kernel
theorem dX11_makeAll_84 : decode cX11_makeAll 84 = .ok (.aload_n 0, 1) := by decide +kernel
theorem dX11_makeAll_85 : decode cX11_makeAll 85 = .ok (.getfield 41, 3) := by decide +kernel
theorem dX11_makeAll_88 : decode cX11_makeAll 88 = .ok (.iload 7, 2) := by decide +kernel
theorem dX11_makeAll_90 : decode cX11_makeAll 90 = .ok (.invokevirtual 162, 3) := by decide +kernel
theorem dX11_makeAll_93 : decode cX11_makeAll 93 = .ok (.ifCond .eq 16, 3) := by decide +kernel
theorem dX11_makeAll_96 : decode cX11_makeAll 96 = .ok (.aload_n 0, 1) := by decide +kernel
theorem dX11_makeAll_97 : decode cX11_makeAll 97 = .ok (.getfield 41, 3) := by decide +kernel
theorem dX11_makeAll_100 : decode cX11_makeAll 100 = .ok (.iload 7, 2) := by decide +kernel
theorem dX11_makeAll_102 : decode cX11_makeAll 102 = .ok (.invokevirtual 165, 3) := by decide +kernel
theorem dX11_makeAll_105 : decode cX11_makeAll 105 = .ok (.pop, 1) := by decide +kernel
theorem dX11_makeAll_106 : decode cX11_makeAll 106 = .ok (.iinc 5 1, 3) := by decide +kernel
theorem dX11_makeAll_109 : decode cX11_makeAll 109 = .ok (.iinc 6 1, 3) := by decide +kernel
theorem dX11_makeAll_112 : decode cX11_makeAll 112 = .ok (.goto (-68), 3) := by decide +kernel
theorem dX11_makeAll_115 : decode cX11_makeAll 115 = .ok (.iload 5, 2) := by decide +kernel
theorem dX11_makeAll_117 : decode cX11_makeAll 117 = .ok (.ireturn, 1) := by decide +kernel
theorem dX11_wouldCost_0 : decode cX11_wouldCost 0 = .ok (.iload_n 1, 1) := by decide +kernel
theorem dX11_wouldCost_1 : decode cX11_wouldCost 1 = .ok (.invokestatic 234, 3) := by decide +kernel
theorem dX11_wouldCost_4 : decode cX11_wouldCost 4 = .ok (.ifCond .eq 13, 3) := by decide +kernel
theorem dX11_wouldCost_7 : decode cX11_wouldCost 7 = .ok (.iload_n 3, 1) := by decide +kernel
theorem dX11_wouldCost_8 : decode cX11_wouldCost 8 = .ok (.iconst 0, 1) := by decide +kernel
theorem dX11_wouldCost_9 : decode cX11_wouldCost 9 = .ok (.bipush 20, 2) := by decide +kernel
theorem dX11_wouldCost_11 : decode cX11_wouldCost 11 = .ok (.invokestatic 72, 3) := by decide +kernel
theorem dX11_wouldCost_14 : decode cX11_wouldCost 14 = .ok (.ifCond .ne 5, 3) := by decide +kernel
theorem dX11_wouldCost_17 : decode cX11_wouldCost 17 = .ok (.iconst (-1), 1) := by decide +kernel
theorem dX11_wouldCost_18 : decode cX11_wouldCost 18 = .ok (.ireturn, 1) := by decide +kernel
theorem dX11_wouldCost_19 : decode cX11_wouldCost 19 = .ok (.aload_n 0, 1) := by decide +kernel
theorem dX11_wouldCost_20 : decode cX11_wouldCost 20 = .ok (.getfield 10, 3) := by decide +kernel
theorem dX11_wouldCost_23 : decode cX11_wouldCost 23 = .ok (.iload_n 1, 1) := by decide +kernel
theorem dX11_wouldCost_24 : decode cX11_wouldCost 24 = .ok (.iconst 0, 1) := by decide +kernel
theorem dX11_wouldCost_25 : decode cX11_wouldCost 25 = .ok (.invokevirtual 259, 3) := by decide +kernel
theorem dX11_wouldCost_28 : decode cX11_wouldCost 28 = .ok (.istore 4, 2) := by decide +kernel
theorem dX11_wouldCost_30 : decode cX11_wouldCost 30 = .ok (.iload 4, 2) := by decide +kernel
theorem dX11_wouldCost_32 : decode cX11_wouldCost 32 = .ok (.ifCond .eq 6, 3) := by decide +kernel
theorem dX11_wouldCost_35 : decode cX11_wouldCost 35 = .ok (.iload 4, 2) := by decide +kernel
theorem dX11_wouldCost_37 : decode cX11_wouldCost 37 = .ok (.ireturn, 1) := by decide +kernel
theorem dX11_wouldCost_38 : decode cX11_wouldCost 38 = .ok (.aload_n 0, 1) := by decide +kernel
theorem dX11_wouldCost_39 : decode cX11_wouldCost 39 = .ok (.getfield 48, 3) := by decide +kernel
theorem dX11_wouldCost_42 : decode cX11_wouldCost 42 = .ok (.aload_n 0, 1) := by decide +kernel
theorem dX11_wouldCost_43 : decode cX11_wouldCost 43 = .ok (.getfield 41, 3) := by decide +kernel
theorem dX11_wouldCost_46 : decode cX11_wouldCost 46 = .ok (.invokevirtual 218, 3) := by decide +kernel
theorem dX11_wouldCost_49 : decode cX11_wouldCost 49 = .ok (.iconst 0, 1) := by decide +kernel
theorem dX11_wouldCost_50 : decode cX11_wouldCost 50 = .ok (.istore 5, 2) := by decide +kernel
theorem dX11_wouldCost_52 : decode cX11_wouldCost 52 = .ok (.iconst 0, 1) := by decide +kernel
theorem dX11_wouldCost_53 : decode cX11_wouldCost 53 = .ok (.istore 6, 2) := by decide +kernel
theorem dX11_wouldCost_55 : decode cX11_wouldCost 55 = .ok (.iload 6, 2) := by decide +kernel
theorem dX11_wouldCost_57 : decode cX11_wouldCost 57 = .ok (.iload_n 3, 1) := by decide +kernel
theorem dX11_wouldCost_58 : decode cX11_wouldCost 58 = .ok (.if_icmp .ge 72, 3) := by decide +kernel
theorem dX11_wouldCost_61 : decode cX11_wouldCost 61 = .ok (.aload_n 0, 1) := by decide +kernel
theorem dX11_wouldCost_62 : decode cX11_wouldCost 62 = .ok (.getfield 10, 3) := by decide +kernel
theorem dX11_wouldCost_65 : decode cX11_wouldCost 65 = .ok (.iload_n 1, 1) := by decide +kernel
theorem dX11_wouldCost_66 : decode cX11_wouldCost 66 = .ok (.iload_n 2, 1) := by decide +kernel
theorem dX11_wouldCost_67 : decode cX11_wouldCost 67 = .ok (.iload 6, 2) := by decide +kernel
theorem dX11_wouldCost_69 : decode cX11_wouldCost 69 = .ok (.iadd, 1) := by decide +kernel
theorem dX11_wouldCost_70 : decode cX11_wouldCost 70 = .ok (.invokevirtual 251, 3) := by decide +kernel
theorem dX11_wouldCost_73 : decode cX11_wouldCost 73 = .ok (.ifCond .ne 6, 3) := by decide +kernel
theorem dX11_wouldCost_76 : decode cX11_wouldCost 76 = .ok (.bipush (-12), 2) := by decide +kernel
theorem dX11_wouldCost_78 : decode cX11_wouldCost 78 = .ok (.ireturn, 1) := by decide +kernel
theorem dX11_wouldCost_79 : decode cX11_wouldCost 79 = .ok (.aload_n 0, 1) := by decide +kernel
theorem dX11_wouldCost_80 : decode cX11_wouldCost 80 = .ok (.getfield 10, 3) := by decide +kernel
theorem dX11_wouldCost_83 : decode cX11_wouldCost 83 = .ok (.getfield 242, 3) := by decide +kernel
theorem dX11_wouldCost_86 : decode cX11_wouldCost 86 = .ok (.iload_n 1, 1) := by decide +kernel
theorem dX11_wouldCost_87 : decode cX11_wouldCost 87 = .ok (.aaload, 1) := by decide +kernel
theorem dX11_wouldCost_88 : decode cX11_wouldCost 88 = .ok (.iload_n 2, 1) := by decide +kernel
theorem dX11_wouldCost_89 : decode cX11_wouldCost 89 = .ok (.iload 6, 2) := by decide +kernel
theorem dX11_wouldCost_91 : decode cX11_wouldCost 91 = .ok (.iadd, 1) := by decide +kernel
theorem dX11_wouldCost_92 : decode cX11_wouldCost 92 = .ok (.iaload, 1) := by decide +kernel
theorem dX11_wouldCost_93 : decode cX11_wouldCost 93 = .ok (.istore 7, 2) := by decide +kernel
theorem dX11_wouldCost_95 : decode cX11_wouldCost 95 = .ok (.aload_n 0, 1) := by decide +kernel
theorem dX11_wouldCost_96 : decode cX11_wouldCost 96 = .ok (.getfield 48, 3) := by decide +kernel
theorem dX11_wouldCost_99 : decode cX11_wouldCost 99 = .ok (.iload 7, 2) := by decide +kernel
theorem dX11_wouldCost_101 : decode cX11_wouldCost 101 = .ok (.invokevirtual 162, 3) := by decide +kernel
theorem dX11_wouldCost_104 : decode cX11_wouldCost 104 = .ok (.ifCond .ne 6, 3) := by decide +kernel
theorem dX11_wouldCost_107 : decode cX11_wouldCost 107 = .ok (.bipush (-4), 2) := by decide +kernel
theorem dX11_wouldCost_109 : decode cX11_wouldCost 109 = .ok (.ireturn, 1) := by decide +kernel
theorem dX11_wouldCost_110 : decode cX11_wouldCost 110 = .ok (.iload 5, 2) := by decide +kernel
theorem dX11_wouldCost_112 : decode cX11_wouldCost 112 = .ok (.aload_n 0, 1) := by decide +kernel
theorem dX11_wouldCost_113 : decode cX11_wouldCost 113 = .ok (.getfield 48, 3) := by decide +kernel
theorem dX11_wouldCost_116 : decode cX11_wouldCost 116 = .ok (.iload 7, 2) := by decide +kernel
theorem dX11_wouldCost_118 : decode cX11_wouldCost 118 = .ok (.invokevirtual 231, 3) := by decide +kernel
theorem dX11_wouldCost_121 : decode cX11_wouldCost 121 = .ok (.iadd, 1) := by decide +kernel
theorem dX11_wouldCost_122 : decode cX11_wouldCost 122 = .ok (.istore 5, 2) := by decide +kernel
theorem dX11_wouldCost_124 : decode cX11_wouldCost 124 = .ok (.iinc 6 1, 3) := by decide +kernel
theorem dX11_wouldCost_127 : decode cX11_wouldCost 127 = .ok (.goto (-72), 3) := by decide +kernel
theorem dX11_wouldCost_130 : decode cX11_wouldCost 130 = .ok (.iload 5, 2) := by decide +kernel
theorem dX11_wouldCost_132 : decode cX11_wouldCost 132 = .ok (.ireturn, 1) := by decide +kernel
theorem dX11_shelf_0 : decode cX11_shelf 0 = .ok (.iload_n 1, 1) := by decide +kernel
theorem dX11_shelf_1 : decode cX11_shelf 1 = .ok (.invokestatic 234, 3) := by decide +kernel
theorem dX11_shelf_4 : decode cX11_shelf 4 = .ok (.ifCond .ne 5, 3) := by decide +kernel
theorem dX11_shelf_7 : decode cX11_shelf 7 = .ok (.iconst (-1), 1) := by decide +kernel
theorem dX11_shelf_8 : decode cX11_shelf 8 = .ok (.ireturn, 1) := by decide +kernel
theorem dX11_shelf_9 : decode cX11_shelf 9 = .ok (.iload_n 2, 1) := by decide +kernel
theorem dX11_shelf_10 : decode cX11_shelf 10 = .ok (.tableswitch 86 0 2 #[26, 53, 74], 26) := by decide +kernel
theorem dX11_shelf_36 : decode cX11_shelf 36 = .ok (.aload_n 0, 1) := by decide +kernel
theorem dX11_shelf_37 : decode cX11_shelf 37 = .ok (.getfield 41, 3) := by decide +kernel
theorem dX11_shelf_40 : decode cX11_shelf 40 = .ok (.iload_n 3, 1) := by decide +kernel
theorem dX11_shelf_41 : decode cX11_shelf 41 = .ok (.invokevirtual 104, 3) := by decide +kernel
theorem dX11_shelf_44 : decode cX11_shelf 44 = .ok (.ifCond .eq 17, 3) := by decide +kernel
theorem dX11_shelf_47 : decode cX11_shelf 47 = .ok (.aload_n 0, 1) := by decide +kernel
theorem dX11_shelf_48 : decode cX11_shelf 48 = .ok (.getfield 10, 3) := by decide +kernel
theorem dX11_shelf_51 : decode cX11_shelf 51 = .ok (.iload_n 1, 1) := by decide +kernel
theorem dX11_shelf_52 : decode cX11_shelf 52 = .ok (.iconst 1, 1) := by decide +kernel
theorem dX11_shelf_53 : decode cX11_shelf 53 = .ok (.iload_n 3, 1) := by decide +kernel
theorem dX11_shelf_54 : decode cX11_shelf 54 = .ok (.iconst 0, 1) := by decide +kernel
theorem dX11_shelf_55 : decode cX11_shelf 55 = .ok (.invokevirtual 262, 3) := by decide +kernel
theorem dX11_shelf_58 : decode cX11_shelf 58 = .ok (.goto 4, 3) := by decide +kernel
theorem dX11_shelf_61 : decode cX11_shelf 61 = .ok (.iconst (-1), 1) := by decide +kernel
theorem dX11_shelf_62 : decode cX11_shelf 62 = .ok (.ireturn, 1) := by decide +kernel
theorem dX11_shelf_63 : decode cX11_shelf 63 = .ok (.iload_n 3, 1) := by decide +kernel
theorem dX11_shelf_64 : decode cX11_shelf 64 = .ok (.invokestatic 234, 3) := by decide +kernel
theorem dX11_shelf_67 : decode cX11_shelf 67 = .ok (.ifCond .eq 15, 3) := by decide +kernel
theorem dX11_shelf_70 : decode cX11_shelf 70 = .ok (.aload_n 0, 1) := by decide +kernel
theorem dX11_shelf_71 : decode cX11_shelf 71 = .ok (.getfield 10, 3) := by decide +kernel
theorem dX11_shelf_74 : decode cX11_shelf 74 = .ok (.iload_n 1, 1) := by decide +kernel
theorem dX11_shelf_75 : decode cX11_shelf 75 = .ok (.iload_n 3, 1) := by decide +kernel
theorem dX11_shelf_76 : decode cX11_shelf 76 = .ok (.invokevirtual 266, 3) := by decide +kernel
theorem dX11_shelf_79 : decode cX11_shelf 79 = .ok (.goto 4, 3) := by decide +kernel
theorem dX11_shelf_82 : decode cX11_shelf 82 = .ok (.iconst (-1), 1) := by decide +kernel
theorem dX11_shelf_83 : decode cX11_shelf 83 = .ok (.ireturn, 1) := by decide +kernel
theorem dX11_shelf_84 : decode cX11_shelf 84 = .ok (.aload_n 0, 1) := by decide +kernel
theorem dX11_shelf_85 : decode cX11_shelf 85 = .ok (.getfield 10, 3) := by decide +kernel
theorem dX11_shelf_88 : decode cX11_shelf 88 = .ok (.iload_n 1, 1) := by decide +kernel
theorem dX11_shelf_89 : decode cX11_shelf 89 = .ok (.iconst 0, 1) := by decide +kernel
theorem dX11_shelf_90 : decode cX11_shelf 90 = .ok (.iconst 0, 1) := by decide +kernel
theorem dX11_shelf_91 : decode cX11_shelf 91 = .ok (.iconst 0, 1) := by decide +kernel
theorem dX11_shelf_92 : decode cX11_shelf 92 = .ok (.invokevirtual 262, 3) := by decide +kernel
theorem dX11_shelf_95 : decode cX11_shelf 95 = .ok (.ireturn, 1) := by decide +kernel
theorem dX11_shelf_96 : decode cX11_shelf 96 = .ok (.iconst (-1), 1) := by decide +kernel
theorem dX11_shelf_97 : decode cX11_shelf 97 = .ok (.ireturn, 1) := by decide +kernel
theorem dX11_taken_0 : decode cX11_taken 0 = .ok (.iload_n 2, 1) := by decide +kernel
theorem dX11_taken_1 : decode cX11_taken 1 = .ok (.bipush 10, 2) := by decide +kernel
theorem dX11_taken_3 : decode cX11_taken 3 = .ok (.bipush 14, 2) := by decide +kernel
theorem dX11_taken_5 : decode cX11_taken 5 = .ok (.invokestatic 72, 3) := by decide +kernel
theorem dX11_taken_8 : decode cX11_taken 8 = .ok (.istore_n 3, 1) := by decide +kernel
theorem dX11_taken_9 : decode cX11_taken 9 = .ok (.iload_n 1, 1) := by decide +kernel
theorem dX11_taken_10 : decode cX11_taken 10 = .ok (.invokestatic 234, 3) := by decide +kernel
theorem dX11_taken_13 : decode cX11_taken 13 = .ok (.ifCond .eq 16, 3) := by decide +kernel
theorem dX11_taken_16 : decode cX11_taken 16 = .ok (.iload_n 3, 1) := by decide +kernel
theorem dX11_taken_17 : decode cX11_taken 17 = .ok (.ifCond .ne 14, 3) := by decide +kernel
theorem dX11_taken_20 : decode cX11_taken 20 = .ok (.iload_n 2, 1) := by decide +kernel
theorem dX11_taken_21 : decode cX11_taken 21 = .ok (.iconst 0, 1) := by decide +kernel
theorem dX11_taken_22 : decode cX11_taken 22 = .ok (.iconst 5, 1) := by decide +kernel
theorem dX11_taken_23 : decode cX11_taken 23 = .ok (.invokestatic 72, 3) := by decide +kernel
theorem dX11_taken_26 : decode cX11_taken 26 = .ok (.ifCond .ne 5, 3) := by decide +kernel
theorem dX11_taken_29 : decode cX11_taken 29 = .ok (.iconst (-1), 1) := by decide +kernel
theorem dX11_taken_30 : decode cX11_taken 30 = .ok (.ireturn, 1) := by decide +kernel
theorem dX11_taken_31 : decode cX11_taken 31 = .ok (.aload_n 0, 1) := by decide +kernel
theorem dX11_taken_32 : decode cX11_taken 32 = .ok (.getfield 10, 3) := by decide +kernel
theorem dX11_taken_35 : decode cX11_taken 35 = .ok (.getfield 269, 3) := by decide +kernel
theorem dX11_taken_38 : decode cX11_taken 38 = .ok (.iload_n 1, 1) := by decide +kernel
theorem dX11_taken_39 : decode cX11_taken 39 = .ok (.iaload, 1) := by decide +kernel
theorem dX11_taken_40 : decode cX11_taken 40 = .ok (.iconst 2, 1) := by decide +kernel
theorem dX11_taken_41 : decode cX11_taken 41 = .ok (.if_icmp .ne 38, 3) := by decide +kernel
theorem dX11_taken_44 : decode cX11_taken 44 = .ok (.iload_n 3, 1) := by decide +kernel
theorem dX11_taken_45 : decode cX11_taken 45 = .ok (.ifCond .eq 31, 3) := by decide +kernel
theorem dX11_taken_48 : decode cX11_taken 48 = .ok (.aload_n 0, 1) := by decide +kernel
theorem dX11_taken_49 : decode cX11_taken 49 = .ok (.getfield 10, 3) := by decide +kernel
theorem dX11_taken_52 : decode cX11_taken 52 = .ok (.getfield 272, 3) := by decide +kernel
theorem dX11_taken_55 : decode cX11_taken 55 = .ok (.iload_n 1, 1) := by decide +kernel
theorem dX11_taken_56 : decode cX11_taken 56 = .ok (.iaload, 1) := by decide +kernel
theorem dX11_taken_57 : decode cX11_taken 57 = .ok (.iload_n 2, 1) := by decide +kernel
theorem dX11_taken_58 : decode cX11_taken 58 = .ok (.bipush 10, 2) := by decide +kernel
theorem dX11_taken_60 : decode cX11_taken 60 = .ok (.isub, 1) := by decide +kernel
theorem dX11_taken_61 : decode cX11_taken 61 = .ok (.if_icmp .ne 15, 3) := by decide +kernel
theorem dX11_taken_64 : decode cX11_taken 64 = .ok (.aload_n 0, 1) := by decide +kernel
theorem dX11_taken_65 : decode cX11_taken 65 = .ok (.getfield 10, 3) := by decide +kernel
theorem dX11_taken_68 : decode cX11_taken 68 = .ok (.getfield 275, 3) := by decide +kernel
theorem dX11_taken_71 : decode cX11_taken 71 = .ok (.iload_n 1, 1) := by decide +kernel
theorem dX11_taken_72 : decode cX11_taken 72 = .ok (.iaload, 1) := by decide +kernel
theorem dX11_taken_73 : decode cX11_taken 73 = .ok (.goto 5, 3) := by decide +kernel
theorem dX11_taken_76 : decode cX11_taken 76 = .ok (.bipush (-13), 2) := by decide +kernel
theorem dX11_taken_78 : decode cX11_taken 78 = .ok (.ireturn, 1) := by decide +kernel
theorem dX11_taken_79 : decode cX11_taken 79 = .ok (.aload_n 0, 1) := by decide +kernel
theorem dX11_taken_80 : decode cX11_taken 80 = .ok (.iload_n 1, 1) := by decide +kernel
theorem dX11_taken_81 : decode cX11_taken 81 = .ok (.invokevirtual 278, 3) := by decide +kernel
theorem dX11_taken_84 : decode cX11_taken 84 = .ok (.istore 4, 2) := by decide +kernel
theorem dX11_taken_86 : decode cX11_taken 86 = .ok (.iload 4, 2) := by decide +kernel
theorem dX11_taken_88 : decode cX11_taken 88 = .ok (.ifCond .ge 6, 3) := by decide +kernel
theorem dX11_taken_91 : decode cX11_taken 91 = .ok (.bipush (-11), 2) := by decide +kernel
theorem dX11_taken_93 : decode cX11_taken 93 = .ok (.ireturn, 1) := by decide +kernel
theorem dX11_taken_94 : decode cX11_taken 94 = .ok (.iload_n 3, 1) := by decide +kernel
theorem dX11_taken_95 : decode cX11_taken 95 = .ok (.ifCond .ne 25, 3) := by decide +kernel
theorem dX11_taken_98 : decode cX11_taken 98 = .ok (.aload_n 0, 1) := by decide +kernel
theorem dX11_taken_99 : decode cX11_taken 99 = .ok (.getfield 41, 3) := by decide +kernel
theorem dX11_taken_102 : decode cX11_taken 102 = .ok (.getfield 84, 3) := by decide +kernel
theorem dX11_taken_105 : decode cX11_taken 105 = .ok (.iload 4, 2) := by decide +kernel
theorem dX11_taken_107 : decode cX11_taken 107 = .ok (.iaload, 1) := by decide +kernel
theorem dX11_taken_108 : decode cX11_taken 108 = .ok (.iload_n 2, 1) := by decide +kernel
theorem dX11_taken_109 : decode cX11_taken 109 = .ok (.invokestatic 281, 3) := by decide +kernel
theorem dX11_taken_112 : decode cX11_taken 112 = .ok (.ifCond .eq 8, 3) := by decide +kernel
theorem dX11_taken_115 : decode cX11_taken 115 = .ok (.iload 4, 2) := by decide +kernel
theorem dX11_taken_117 : decode cX11_taken 117 = .ok (.goto 5, 3) := by decide +kernel
theorem dX11_taken_120 : decode cX11_taken 120 = .ok (.bipush (-13), 2) := by decide +kernel
theorem dX11_taken_122 : decode cX11_taken 122 = .ok (.ireturn, 1) := by decide +kernel
theorem dX11_act_0 : decode cX11_act 0 = .ok (.aload_n 0, 1) := by decide +kernel
theorem dX11_act_1 : decode cX11_act 1 = .ok (.getfield 10, 3) := by decide +kernel
theorem dX11_act_4 : decode cX11_act 4 = .ok (.invokevirtual 284, 3) := by decide +kernel
theorem dX11_act_7 : decode cX11_act 7 = .ok (.aload_n 0, 1) := by decide +kernel
theorem dX11_act_8 : decode cX11_act 8 = .ok (.iload_n 1, 1) := by decide +kernel
theorem dX11_act_9 : decode cX11_act 9 = .ok (.invokevirtual 278, 3) := by decide +kernel
theorem dX11_act_12 : decode cX11_act 12 = .ok (.istore 4, 2) := by decide +kernel
theorem dX11_act_14 : decode cX11_act 14 = .ok (.iload 4, 2) := by decide +kernel
theorem dX11_act_16 : decode cX11_act 16 = .ok (.ifCond .lt 12, 3) := by decide +kernel
theorem dX11_act_19 : decode cX11_act 19 = .ok (.iload_n 2, 1) := by decide +kernel
theorem dX11_act_20 : decode cX11_act 20 = .ok (.iconst 0, 1) := by decide +kernel
theorem dX11_act_21 : decode cX11_act 21 = .ok (.iconst 3, 1) := by decide +kernel
theorem dX11_act_22 : decode cX11_act 22 = .ok (.invokestatic 72, 3) := by decide +kernel
theorem dX11_act_25 : decode cX11_act 25 = .ok (.ifCond .ne 5, 3) := by decide +kernel
theorem dX11_act_28 : decode cX11_act 28 = .ok (.iconst 0, 1) := by decide +kernel
theorem dX11_act_29 : decode cX11_act 29 = .ok (.ireturn, 1) := by decide +kernel
theorem dX11_act_30 : decode cX11_act 30 = .ok (.aload_n 0, 1) := by decide +kernel
theorem dX11_act_31 : decode cX11_act 31 = .ok (.getfield 41, 3) := by decide +kernel
theorem dX11_act_34 : decode cX11_act 34 = .ok (.getfield 287, 3) := by decide +kernel
theorem dX11_act_37 : decode cX11_act 37 = .ok (.aload_n 0, 1) := by decide +kernel
theorem dX11_act_38 : decode cX11_act 38 = .ok (.getfield 41, 3) := by decide +kernel
theorem dX11_act_41 : decode cX11_act 41 = .ok (.getfield 84, 3) := by decide +kernel
theorem dX11_act_44 : decode cX11_act 44 = .ok (.iload 4, 2) := by decide +kernel
theorem dX11_act_46 : decode cX11_act 46 = .ok (.iaload, 1) := by decide +kernel
theorem dX11_act_47 : decode cX11_act 47 = .ok (.aaload, 1) := by decide +kernel
theorem dX11_act_48 : decode cX11_act 48 = .ok (.astore 5, 2) := by decide +kernel
theorem dX11_act_50 : decode cX11_act 50 = .ok (.aload 5, 2) := by decide +kernel
theorem dX11_act_52 : decode cX11_act 52 = .ok (.iload 4, 2) := by decide +kernel
theorem dX11_act_54 : decode cX11_act 54 = .ok (.putfield 291, 3) := by decide +kernel
theorem dX11_act_57 : decode cX11_act 57 = .ok (.aload 5, 2) := by decide +kernel
theorem dX11_act_59 : decode cX11_act 59 = .ok (.aload_n 0, 1) := by decide +kernel
theorem dX11_act_60 : decode cX11_act 60 = .ok (.getfield 41, 3) := by decide +kernel
theorem dX11_act_63 : decode cX11_act 63 = .ok (.getfield 91, 3) := by decide +kernel
theorem dX11_act_66 : decode cX11_act 66 = .ok (.iload 4, 2) := by decide +kernel
theorem dX11_act_68 : decode cX11_act 68 = .ok (.iaload, 1) := by decide +kernel
theorem dX11_act_69 : decode cX11_act 69 = .ok (.putfield 294, 3) := by decide +kernel
theorem dX11_act_72 : decode cX11_act 72 = .ok (.iload_n 2, 1) := by decide +kernel
theorem dX11_act_73 : decode cX11_act 73 = .ok (.tableswitch 60 0 2 #[27, 38, 49], 27) := by decide +kernel
theorem dX11_act_100 : decode cX11_act 100 = .ok (.aload 5, 2) := by decide +kernel
theorem dX11_act_102 : decode cX11_act 102 = .ok (.iload_n 3, 1) := by decide +kernel
theorem dX11_act_103 : decode cX11_act 103 = .ok (.invokevirtual 297, 3) := by decide +kernel
theorem dX11_act_106 : decode cX11_act 106 = .ok (.istore 6, 2) := by decide +kernel
theorem dX11_act_108 : decode cX11_act 108 = .ok (.goto 33, 3) := by decide +kernel
theorem dX11_act_111 : decode cX11_act 111 = .ok (.aload 5, 2) := by decide +kernel
theorem dX11_act_113 : decode cX11_act 113 = .ok (.iload_n 3, 1) := by decide +kernel
theorem dX11_act_114 : decode cX11_act 114 = .ok (.invokevirtual 300, 3) := by decide +kernel
theorem dX11_act_117 : decode cX11_act 117 = .ok (.istore 6, 2) := by decide +kernel
theorem dX11_act_119 : decode cX11_act 119 = .ok (.goto 22, 3) := by decide +kernel
theorem dX11_act_122 : decode cX11_act 122 = .ok (.aload 5, 2) := by decide +kernel
theorem dX11_act_124 : decode cX11_act 124 = .ok (.iload_n 3, 1) := by decide +kernel
theorem dX11_act_125 : decode cX11_act 125 = .ok (.invokevirtual 303, 3) := by decide +kernel
theorem dX11_act_128 : decode cX11_act 128 = .ok (.istore 6, 2) := by decide +kernel
theorem dX11_act_130 : decode cX11_act 130 = .ok (.goto 11, 3) := by decide +kernel
theorem dX11_act_133 : decode cX11_act 133 = .ok (.aload 5, 2) := by decide +kernel
theorem dX11_act_135 : decode cX11_act 135 = .ok (.iload_n 3, 1) := by decide +kernel
theorem dX11_act_136 : decode cX11_act 136 = .ok (.invokevirtual 306, 3) := by decide +kernel
theorem dX11_act_139 : decode cX11_act 139 = .ok (.istore 6, 2) := by decide +kernel
theorem dX11_act_141 : decode cX11_act 141 = .ok (.aload_n 0, 1) := by decide +kernel
theorem dX11_act_142 : decode cX11_act 142 = .ok (.getfield 10, 3) := by decide +kernel
theorem dX11_act_145 : decode cX11_act 145 = .ok (.getfield 309, 3) := by decide +kernel
theorem dX11_act_148 : decode cX11_act 148 = .ok (.ifCond .eq 8, 3) := by decide +kernel
theorem dX11_act_151 : decode cX11_act 151 = .ok (.bipush (-15), 2) := by decide +kernel
theorem dX11_act_153 : decode cX11_act 153 = .ok (.goto 5, 3) := by decide +kernel
theorem dX11_act_156 : decode cX11_act 156 = .ok (.iload 6, 2) := by decide +kernel
theorem dX11_act_158 : decode cX11_act 158 = .ok (.ireturn, 1) := by decide +kernel
theorem dX11_personOn_0 : decode cX11_personOn 0 = .ok (.iload_n 1, 1) := by decide +kernel
theorem dX11_personOn_1 : decode cX11_personOn 1 = .ok (.invokestatic 234, 3) := by decide +kernel
theorem dX11_personOn_4 : decode cX11_personOn 4 = .ok (.ifCond .eq 35, 3) := by decide +kernel
theorem dX11_personOn_7 : decode cX11_personOn 7 = .ok (.aload_n 0, 1) := by decide +kernel
theorem dX11_personOn_8 : decode cX11_personOn 8 = .ok (.getfield 10, 3) := by decide +kernel
theorem dX11_personOn_11 : decode cX11_personOn 11 = .ok (.getfield 269, 3) := by decide +kernel
theorem dX11_personOn_14 : decode cX11_personOn 14 = .ok (.iload_n 1, 1) := by decide +kernel
theorem dX11_personOn_15 : decode cX11_personOn 15 = .ok (.iaload, 1) := by decide +kernel
theorem dX11_personOn_16 : decode cX11_personOn 16 = .ok (.iconst 1, 1) := by decide +kernel
theorem dX11_personOn_17 : decode cX11_personOn 17 = .ok (.if_icmp .ne 22, 3) := by decide +kernel
theorem dX11_personOn_20 : decode cX11_personOn 20 = .ok (.aload_n 0, 1) := by decide +kernel
theorem dX11_personOn_21 : decode cX11_personOn 21 = .ok (.getfield 41, 3) := by decide +kernel
theorem dX11_personOn_24 : decode cX11_personOn 24 = .ok (.aload_n 0, 1) := by decide +kernel
theorem dX11_personOn_25 : decode cX11_personOn 25 = .ok (.getfield 10, 3) := by decide +kernel
theorem dX11_personOn_28 : decode cX11_personOn 28 = .ok (.getfield 272, 3) := by decide +kernel
theorem dX11_personOn_31 : decode cX11_personOn 31 = .ok (.iload_n 1, 1) := by decide +kernel
theorem dX11_personOn_32 : decode cX11_personOn 32 = .ok (.iaload, 1) := by decide +kernel
theorem dX11_personOn_33 : decode cX11_personOn 33 = .ok (.invokevirtual 104, 3) := by decide +kernel
theorem dX11_personOn_36 : decode cX11_personOn 36 = .ok (.ifCond .ne 6, 3) := by decide +kernel
theorem dX11_personOn_39 : decode cX11_personOn 39 = .ok (.bipush (-3), 2) := by decide +kernel
theorem dX11_personOn_41 : decode cX11_personOn 41 = .ok (.ireturn, 1) := by decide +kernel
theorem dX11_personOn_42 : decode cX11_personOn 42 = .ok (.aload_n 0, 1) := by decide +kernel
theorem dX11_personOn_43 : decode cX11_personOn 43 = .ok (.getfield 10, 3) := by decide +kernel
theorem dX11_personOn_46 : decode cX11_personOn 46 = .ok (.getfield 272, 3) := by decide +kernel
theorem dX11_personOn_49 : decode cX11_personOn 49 = .ok (.iload_n 1, 1) := by decide +kernel
theorem dX11_personOn_50 : decode cX11_personOn 50 = .ok (.iaload, 1) := by decide +kernel
theorem dX11_personOn_51 : decode cX11_personOn 51 = .ok (.ireturn, 1) := by decide +kernel
theorem dX11_trace_0 : decode cX11_trace 0 = .ok (.iload_n 1, 1) := by decide +kernel
theorem dX11_trace_1 : decode cX11_trace 1 = .ok (.iconst 0, 1) := by decide +kernel
theorem dX11_trace_2 : decode cX11_trace 2 = .ok (.aload_n 0, 1) := by decide +kernel
theorem dX11_trace_3 : decode cX11_trace 3 = .ok (.getfield 10, 3) := by decide +kernel
theorem dX11_trace_6 : decode cX11_trace 6 = .ok (.getfield 313, 3) := by decide +kernel
theorem dX11_trace_9 : decode cX11_trace 9 = .ok (.iconst 1, 1) := by decide +kernel
theorem dX11_trace_10 : decode cX11_trace 10 = .ok (.isub, 1) := by decide +kernel
theorem dX11_trace_11 : decode cX11_trace 11 = .ok (.invokestatic 72, 3) := by decide +kernel
theorem dX11_trace_14 : decode cX11_trace 14 = .ok (.ifCond .eq 15, 3) := by decide +kernel
theorem dX11_trace_17 : decode cX11_trace 17 = .ok (.aload_n 0, 1) := by decide +kernel
theorem dX11_trace_18 : decode cX11_trace 18 = .ok (.getfield 10, 3) := by decide +kernel
theorem dX11_trace_21 : decode cX11_trace 21 = .ok (.getfield 316, 3) := by decide +kernel
theorem dX11_trace_24 : decode cX11_trace 24 = .ok (.iload_n 1, 1) := by decide +kernel
theorem dX11_trace_25 : decode cX11_trace 25 = .ok (.iaload, 1) := by decide +kernel
theorem dX11_trace_26 : decode cX11_trace 26 = .ok (.goto 5, 3) := by decide +kernel
theorem dX11_trace_29 : decode cX11_trace 29 = .ok (.bipush (-3), 2) := by decide +kernel
theorem dX11_trace_31 : decode cX11_trace 31 = .ok (.ireturn, 1) := by decide +kernel
theorem dX11_many_0 : decode cX11_many 0 = .ok (.iload_n 1, 1) := by decide +kernel
theorem dX11_many_1 : decode cX11_many 1 = .ok (.tableswitch 99 0 6 #[43, 51, 62, 70, 78, 83, 91], 43) := by decide +kernel
theorem dX11_many_44 : decode cX11_many 44 = .ok (.aload_n 0, 1) := by decide +kernel
theorem dX11_many_45 : decode cX11_many 45 = .ok (.getfield 41, 3) := by decide +kernel
theorem dX11_many_48 : decode cX11_many 48 = .ok (.getfield 80, 3) := by decide +kernel
theorem dX11_many_51 : decode cX11_many 51 = .ok (.ireturn, 1) := by decide +kernel
theorem dX11_many_52 : decode cX11_many 52 = .ok (.aload_n 0, 1) := by decide +kernel
theorem dX11_many_53 : decode cX11_many 53 = .ok (.getfield 41, 3) := by decide +kernel
theorem dX11_many_56 : decode cX11_many 56 = .ok (.getfield 143, 3) := by decide +kernel
theorem dX11_many_59 : decode cX11_many 59 = .ok (.getfield 156, 3) := by decide +kernel
theorem dX11_many_62 : decode cX11_many 62 = .ok (.ireturn, 1) := by decide +kernel
theorem dX11_many_63 : decode cX11_many 63 = .ok (.aload_n 0, 1) := by decide +kernel
theorem dX11_many_64 : decode cX11_many 64 = .ok (.getfield 41, 3) := by decide +kernel
theorem dX11_many_67 : decode cX11_many 67 = .ok (.getfield 131, 3) := by decide +kernel
theorem dX11_many_70 : decode cX11_many 70 = .ok (.ireturn, 1) := by decide +kernel
theorem dX11_many_71 : decode cX11_many 71 = .ok (.aload_n 0, 1) := by decide +kernel
theorem dX11_many_72 : decode cX11_many 72 = .ok (.getfield 41, 3) := by decide +kernel
theorem dX11_many_75 : decode cX11_many 75 = .ok (.getfield 198, 3) := by decide +kernel
theorem dX11_many_78 : decode cX11_many 78 = .ok (.ireturn, 1) := by decide +kernel
theorem dX11_many_79 : decode cX11_many 79 = .ok (.aload_n 0, 1) := by decide +kernel
theorem dX11_many_80 : decode cX11_many 80 = .ok (.getfield 228, 3) := by decide +kernel
theorem dX11_many_83 : decode cX11_many 83 = .ok (.ireturn, 1) := by decide +kernel
theorem dX11_many_84 : decode cX11_many 84 = .ok (.aload_n 0, 1) := by decide +kernel
theorem dX11_many_85 : decode cX11_many 85 = .ok (.getfield 63, 3) := by decide +kernel
theorem dX11_many_88 : decode cX11_many 88 = .ok (.getfield 134, 3) := by decide +kernel
theorem dX11_many_91 : decode cX11_many 91 = .ok (.ireturn, 1) := by decide +kernel
theorem dX11_many_92 : decode cX11_many 92 = .ok (.aload_n 0, 1) := by decide +kernel
theorem dX11_many_93 : decode cX11_many 93 = .ok (.getfield 10, 3) := by decide +kernel
theorem dX11_many_96 : decode cX11_many 96 = .ok (.getfield 313, 3) := by decide +kernel
theorem dX11_many_99 : decode cX11_many 99 = .ok (.ireturn, 1) := by decide +kernel
theorem dX11_many_100 : decode cX11_many 100 = .ok (.iconst (-1), 1) := by decide +kernel
theorem dX11_many_101 : decode cX11_many 101 = .ok (.ireturn, 1) := by decide +kernel
theorem dX11_keep_0 : decode cX11_keep 0 = .ok (.aload_n 0, 1) := by decide +kernel
theorem dX11_keep_1 : decode cX11_keep 1 = .ok (.getfield 45, 3) := by decide +kernel
theorem dX11_keep_4 : decode cX11_keep 4 = .ok (.aload_n 0, 1) := by decide +kernel
theorem dX11_keep_5 : decode cX11_keep 5 = .ok (.getfield 41, 3) := by decide +kernel
theorem dX11_keep_8 : decode cX11_keep 8 = .ok (.invokevirtual 216, 3) := by decide +kernel
theorem dX11_keep_11 : decode cX11_keep 11 = .ok (.aload_n 0, 1) := by decide +kernel
theorem dX11_keep_12 : decode cX11_keep 12 = .ok (.iconst 1, 1) := by decide +kernel
theorem dX11_keep_13 : decode cX11_keep 13 = .ok (.putfield 319, 3) := by decide +kernel
theorem dX11_keep_16 : decode cX11_keep 16 = .ok (.iconst 1, 1) := by decide +kernel
theorem dX11_keep_17 : decode cX11_keep 17 = .ok (.ireturn, 1) := by decide +kernel
theorem dX11_again_0 : decode cX11_again 0 = .ok (.aload_n 0, 1) := by decide +kernel
theorem dX11_again_1 : decode cX11_again 1 = .ok (.getfield 319, 3) := by decide +kernel
theorem dX11_again_4 : decode cX11_again 4 = .ok (.ifCond .ne 6, 3) := by decide +kernel
theorem dX11_again_7 : decode cX11_again 7 = .ok (.bipush (-3), 2) := by decide +kernel
theorem dX11_again_9 : decode cX11_again 9 = .ok (.ireturn, 1) := by decide +kernel
theorem dX11_again_10 : decode cX11_again 10 = .ok (.aload_n 0, 1) := by decide +kernel
theorem dX11_again_11 : decode cX11_again 11 = .ok (.getfield 41, 3) := by decide +kernel
theorem dX11_again_14 : decode cX11_again 14 = .ok (.aload_n 0, 1) := by decide +kernel
theorem dX11_again_15 : decode cX11_again 15 = .ok (.getfield 45, 3) := by decide +kernel
theorem dX11_again_18 : decode cX11_again 18 = .ok (.invokevirtual 216, 3) := by decide +kernel
theorem dX11_again_21 : decode cX11_again 21 = .ok (.aload_n 0, 1) := by decide +kernel
theorem dX11_again_22 : decode cX11_again 22 = .ok (.getfield 41, 3) := by decide +kernel
theorem dX11_again_25 : decode cX11_again 25 = .ok (.getfield 80, 3) := by decide +kernel
theorem dX11_again_28 : decode cX11_again 28 = .ok (.ireturn, 1) := by decide +kernel
theorem dX11_isIn_0 : decode cX11_isIn 0 = .ok (.iload_n 0, 1) := by decide +kernel
theorem dX11_isIn_1 : decode cX11_isIn 1 = .ok (.iload_n 1, 1) := by decide +kernel
theorem dX11_isIn_2 : decode cX11_isIn 2 = .ok (.if_icmp .lt 12, 3) := by decide +kernel
theorem dX11_isIn_5 : decode cX11_isIn 5 = .ok (.iload_n 0, 1) := by decide +kernel
theorem dX11_isIn_6 : decode cX11_isIn 6 = .ok (.iload_n 2, 1) := by decide +kernel
theorem dX11_isIn_7 : decode cX11_isIn 7 = .ok (.if_icmp .gt 7, 3) := by decide +kernel
theorem dX11_isIn_10 : decode cX11_isIn 10 = .ok (.iconst 1, 1) := by decide +kernel
theorem dX11_isIn_11 : decode cX11_isIn 11 = .ok (.goto 4, 3) := by decide +kernel
theorem dX11_isIn_14 : decode cX11_isIn 14 = .ok (.iconst 0, 1) := by decide +kernel
theorem dX11_isIn_15 : decode cX11_isIn 15 = .ok (.ireturn, 1) := by decide +kernel
theorem dX11_isThing_0 : decode cX11_isThing 0 = .ok (.iload_n 0, 1) := by decide +kernel
theorem dX11_isThing_1 : decode cX11_isThing 1 = .ok (.iconst 0, 1) := by decide +kernel
theorem dX11_isThing_2 : decode cX11_isThing 2 = .ok (.bipush 7, 2) := by decide +kernel
theorem dX11_isThing_4 : decode cX11_isThing 4 = .ok (.invokestatic 72, 3) := by decide +kernel
theorem dX11_isThing_7 : decode cX11_isThing 7 = .ok (.ireturn, 1) := by decide +kernel
theorem dX11_isSheet_0 : decode cX11_isSheet 0 = .ok (.iload_n 0, 1) := by decide +kernel
theorem dX11_isSheet_1 : decode cX11_isSheet 1 = .ok (.iconst 0, 1) := by decide +kernel
theorem dX11_isSheet_2 : decode cX11_isSheet 2 = .ok (.iconst 3, 1) := by decide +kernel
theorem dX11_isSheet_3 : decode cX11_isSheet 3 = .ok (.invokestatic 72, 3) := by decide +kernel
theorem dX11_isSheet_6 : decode cX11_isSheet 6 = .ok (.ireturn, 1) := by decide +kernel
theorem dX11_isUnder_0 : decode cX11_isUnder 0 = .ok (.iload_n 1, 1) := by decide +kernel
theorem dX11_isUnder_1 : decode cX11_isUnder 1 = .ok (.ifCond .eq 17, 3) := by decide +kernel
theorem dX11_isUnder_4 : decode cX11_isUnder 4 = .ok (.iload_n 0, 1) := by decide +kernel
theorem dX11_isUnder_5 : decode cX11_isUnder 5 = .ok (.iload_n 1, 1) := by decide +kernel
theorem dX11_isUnder_6 : decode cX11_isUnder 6 = .ok (.if_icmp .eq 12, 3) := by decide +kernel
theorem dX11_isUnder_9 : decode cX11_isUnder 9 = .ok (.getstatic 322, 3) := by decide +kernel
theorem dX11_isUnder_12 : decode cX11_isUnder 12 = .ok (.iload_n 0, 1) := by decide +kernel
theorem dX11_isUnder_13 : decode cX11_isUnder 13 = .ok (.iaload, 1) := by decide +kernel
theorem dX11_isUnder_14 : decode cX11_isUnder 14 = .ok (.iload_n 1, 1) := by decide +kernel
theorem dX11_isUnder_15 : decode cX11_isUnder 15 = .ok (.if_icmp .ne 7, 3) := by decide +kernel
theorem dX11_isUnder_18 : decode cX11_isUnder 18 = .ok (.iconst 1, 1) := by decide +kernel
theorem dX11_isUnder_19 : decode cX11_isUnder 19 = .ok (.goto 4, 3) := by decide +kernel
theorem dX11_isUnder_22 : decode cX11_isUnder 22 = .ok (.iconst 0, 1) := by decide +kernel
theorem dX11_isUnder_23 : decode cX11_isUnder 23 = .ok (.ireturn, 1) := by decide +kernel
