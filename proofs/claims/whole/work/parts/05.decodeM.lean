theorem dX7_init_0 : decode cX7_init 0 = .ok (.aload_n 0, 1) := by decide +kernel
theorem dX7_init_1 : decode cX7_init 1 = .ok (.invokespecial 1, 3) := by decide +kernel
theorem dX7_init_4 : decode cX7_init 4 = .ok (.aload_n 0, 1) := by decide +kernel
theorem dX7_init_5 : decode cX7_init 5 = .ok (.sipush 480, 3) := by decide +kernel
theorem dX7_init_8 : decode cX7_init 8 = .ok (.newarray .int, 2) := by decide +kernel
theorem dX7_init_10 : decode cX7_init 10 = .ok (.putfield 7, 3) := by decide +kernel
theorem dX7_init_13 : decode cX7_init 13 = .ok (.aload_n 0, 1) := by decide +kernel
theorem dX7_init_14 : decode cX7_init 14 = .ok (.bipush 24, 2) := by decide +kernel
theorem dX7_init_16 : decode cX7_init 16 = .ok (.newarray .boolean, 2) := by decide +kernel
theorem dX7_init_18 : decode cX7_init 18 = .ok (.putfield 13, 3) := by decide +kernel
theorem dX7_init_21 : decode cX7_init 21 = .ok (.aload_n 0, 1) := by decide +kernel
theorem dX7_init_22 : decode cX7_init 22 = .ok (.bipush 24, 2) := by decide +kernel
theorem dX7_init_24 : decode cX7_init 24 = .ok (.newarray .int, 2) := by decide +kernel
theorem dX7_init_26 : decode cX7_init 26 = .ok (.putfield 17, 3) := by decide +kernel
theorem dX7_init_29 : decode cX7_init 29 = .ok (.aload_n 0, 1) := by decide +kernel
theorem dX7_init_30 : decode cX7_init 30 = .ok (.bipush 24, 2) := by decide +kernel
theorem dX7_init_32 : decode cX7_init 32 = .ok (.newarray .int, 2) := by decide +kernel
theorem dX7_init_34 : decode cX7_init 34 = .ok (.putfield 20, 3) := by decide +kernel
theorem dX7_init_37 : decode cX7_init 37 = .ok (.aload_n 0, 1) := by decide +kernel
theorem dX7_init_38 : decode cX7_init 38 = .ok (.bipush 24, 2) := by decide +kernel
theorem dX7_init_40 : decode cX7_init 40 = .ok (.newarray .boolean, 2) := by decide +kernel
theorem dX7_init_42 : decode cX7_init 42 = .ok (.putfield 23, 3) := by decide +kernel
theorem dX7_init_45 : decode cX7_init 45 = .ok (.aload_n 0, 1) := by decide +kernel
theorem dX7_init_46 : decode cX7_init 46 = .ok (.bipush 30, 2) := by decide +kernel
theorem dX7_init_48 : decode cX7_init 48 = .ok (.newarray .int, 2) := by decide +kernel
theorem dX7_init_50 : decode cX7_init 50 = .ok (.putfield 26, 3) := by decide +kernel
theorem dX7_init_53 : decode cX7_init 53 = .ok (.aload_n 0, 1) := by decide +kernel
theorem dX7_init_54 : decode cX7_init 54 = .ok (.bipush 30, 2) := by decide +kernel
theorem dX7_init_56 : decode cX7_init 56 = .ok (.newarray .int, 2) := by decide +kernel
theorem dX7_init_58 : decode cX7_init 58 = .ok (.putfield 29, 3) := by decide +kernel
theorem dX7_init_61 : decode cX7_init 61 = .ok (.aload_n 0, 1) := by decide +kernel
theorem dX7_init_62 : decode cX7_init 62 = .ok (.bipush 30, 2) := by decide +kernel
theorem dX7_init_64 : decode cX7_init 64 = .ok (.newarray .int, 2) := by decide +kernel
theorem dX7_init_66 : decode cX7_init 66 = .ok (.putfield 32, 3) := by decide +kernel
theorem dX7_init_69 : decode cX7_init 69 = .ok (.aload_n 0, 1) := by decide +kernel
theorem dX7_init_70 : decode cX7_init 70 = .ok (.bipush 30, 2) := by decide +kernel
theorem dX7_init_72 : decode cX7_init 72 = .ok (.newarray .int, 2) := by decide +kernel
theorem dX7_init_74 : decode cX7_init 74 = .ok (.putfield 35, 3) := by decide +kernel
theorem dX7_init_77 : decode cX7_init 77 = .ok (.aload_n 0, 1) := by decide +kernel
theorem dX7_init_78 : decode cX7_init 78 = .ok (.bipush 30, 2) := by decide +kernel
theorem dX7_init_80 : decode cX7_init 80 = .ok (.newarray .int, 2) := by decide +kernel
theorem dX7_init_82 : decode cX7_init 82 = .ok (.putfield 38, 3) := by decide +kernel
theorem dX7_init_85 : decode cX7_init 85 = .ok (.aload_n 0, 1) := by decide +kernel
theorem dX7_init_86 : decode cX7_init 86 = .ok (.bipush 30, 2) := by decide +kernel
theorem dX7_init_88 : decode cX7_init 88 = .ok (.newarray .int, 2) := by decide +kernel
theorem dX7_init_90 : decode cX7_init 90 = .ok (.putfield 41, 3) := by decide +kernel
theorem dX7_init_93 : decode cX7_init 93 = .ok (.aload_n 0, 1) := by decide +kernel
theorem dX7_init_94 : decode cX7_init 94 = .ok (.bipush 40, 2) := by decide +kernel
theorem dX7_init_96 : decode cX7_init 96 = .ok (.newarray .int, 2) := by decide +kernel
theorem dX7_init_98 : decode cX7_init 98 = .ok (.putfield 44, 3) := by decide +kernel
theorem dX7_init_101 : decode cX7_init 101 = .ok (.aload_n 0, 1) := by decide +kernel
theorem dX7_init_102 : decode cX7_init 102 = .ok (.bipush 40, 2) := by decide +kernel
theorem dX7_init_104 : decode cX7_init 104 = .ok (.newarray .int, 2) := by decide +kernel
theorem dX7_init_106 : decode cX7_init 106 = .ok (.putfield 47, 3) := by decide +kernel
theorem dX7_init_109 : decode cX7_init 109 = .ok (.aload_n 0, 1) := by decide +kernel
theorem dX7_init_110 : decode cX7_init 110 = .ok (.bipush 24, 2) := by decide +kernel
theorem dX7_init_112 : decode cX7_init 112 = .ok (.newarray .boolean, 2) := by decide +kernel
theorem dX7_init_114 : decode cX7_init 114 = .ok (.putfield 50, 3) := by decide +kernel
theorem dX7_init_117 : decode cX7_init 117 = .ok (.aload_n 0, 1) := by decide +kernel
theorem dX7_init_118 : decode cX7_init 118 = .ok (.bipush 24, 2) := by decide +kernel
theorem dX7_init_120 : decode cX7_init 120 = .ok (.newarray .int, 2) := by decide +kernel
theorem dX7_init_122 : decode cX7_init 122 = .ok (.putfield 53, 3) := by decide +kernel
theorem dX7_init_125 : decode cX7_init 125 = .ok (.aload_n 0, 1) := by decide +kernel
theorem dX7_init_126 : decode cX7_init 126 = .ok (.sipush 150, 3) := by decide +kernel
theorem dX7_init_129 : decode cX7_init 129 = .ok (.newarray .int, 2) := by decide +kernel
theorem dX7_init_131 : decode cX7_init 131 = .ok (.putfield 56, 3) := by decide +kernel
theorem dX7_init_134 : decode cX7_init 134 = .ok (.aload_n 0, 1) := by decide +kernel
theorem dX7_init_135 : decode cX7_init 135 = .ok (.bipush 40, 2) := by decide +kernel
theorem dX7_init_137 : decode cX7_init 137 = .ok (.newarray .int, 2) := by decide +kernel
theorem dX7_init_139 : decode cX7_init 139 = .ok (.putfield 59, 3) := by decide +kernel
theorem dX7_init_142 : decode cX7_init 142 = .ok (.aload_n 0, 1) := by decide +kernel
theorem dX7_init_143 : decode cX7_init 143 = .ok (.bipush 40, 2) := by decide +kernel
theorem dX7_init_145 : decode cX7_init 145 = .ok (.newarray .int, 2) := by decide +kernel
theorem dX7_init_147 : decode cX7_init 147 = .ok (.putfield 62, 3) := by decide +kernel
theorem dX7_init_150 : decode cX7_init 150 = .ok (.aload_n 0, 1) := by decide +kernel
theorem dX7_init_151 : decode cX7_init 151 = .ok (.sipush 240, 3) := by decide +kernel
theorem dX7_init_154 : decode cX7_init 154 = .ok (.newarray .int, 2) := by decide +kernel
theorem dX7_init_156 : decode cX7_init 156 = .ok (.putfield 65, 3) := by decide +kernel
theorem dX7_init_159 : decode cX7_init 159 = .ok (.aload_n 0, 1) := by decide +kernel
theorem dX7_init_160 : decode cX7_init 160 = .ok (.sipush 240, 3) := by decide +kernel
theorem dX7_init_163 : decode cX7_init 163 = .ok (.newarray .int, 2) := by decide +kernel
theorem dX7_init_165 : decode cX7_init 165 = .ok (.putfield 68, 3) := by decide +kernel
theorem dX7_init_168 : decode cX7_init 168 = .ok (.aload_n 0, 1) := by decide +kernel
theorem dX7_init_169 : decode cX7_init 169 = .ok (.bipush 20, 2) := by decide +kernel
theorem dX7_init_171 : decode cX7_init 171 = .ok (.putfield 71, 3) := by decide +kernel
theorem dX7_init_174 : decode cX7_init 174 = .ok (.aload_n 0, 1) := by decide +kernel
theorem dX7_init_175 : decode cX7_init 175 = .ok (.bipush 32, 2) := by decide +kernel
theorem dX7_init_177 : decode cX7_init 177 = .ok (.newarray .int, 2) := by decide +kernel
theorem dX7_init_179 : decode cX7_init 179 = .ok (.putfield 75, 3) := by decide +kernel
theorem dX7_init_182 : decode cX7_init 182 = .ok (.aload_n 0, 1) := by decide +kernel
theorem dX7_init_183 : decode cX7_init 183 = .ok (.bipush 24, 2) := by decide +kernel
theorem dX7_init_185 : decode cX7_init 185 = .ok (.newarray .int, 2) := by decide +kernel
theorem dX7_init_187 : decode cX7_init 187 = .ok (.putfield 78, 3) := by decide +kernel
theorem dX7_init_190 : decode cX7_init 190 = .ok (.aload_n 0, 1) := by decide +kernel
theorem dX7_init_191 : decode cX7_init 191 = .ok (.bipush 24, 2) := by decide +kernel
theorem dX7_init_193 : decode cX7_init 193 = .ok (.newarray .int, 2) := by decide +kernel
theorem dX7_init_195 : decode cX7_init 195 = .ok (.putfield 81, 3) := by decide +kernel
theorem dX7_init_198 : decode cX7_init 198 = .ok (.aload_n 0, 1) := by decide +kernel
theorem dX7_init_199 : decode cX7_init 199 = .ok (.bipush 24, 2) := by decide +kernel
theorem dX7_init_201 : decode cX7_init 201 = .ok (.newarray .int, 2) := by decide +kernel
theorem dX7_init_203 : decode cX7_init 203 = .ok (.putfield 84, 3) := by decide +kernel
theorem dX7_init_206 : decode cX7_init 206 = .ok (.aload_n 0, 1) := by decide +kernel
theorem dX7_init_207 : decode cX7_init 207 = .ok (.bipush 24, 2) := by decide +kernel
theorem dX7_init_209 : decode cX7_init 209 = .ok (.newarray .int, 2) := by decide +kernel
theorem dX7_init_211 : decode cX7_init 211 = .ok (.putfield 87, 3) := by decide +kernel
theorem dX7_init_214 : decode cX7_init 214 = .ok (.aload_n 0, 1) := by decide +kernel
theorem dX7_init_215 : decode cX7_init 215 = .ok (.bipush 24, 2) := by decide +kernel
theorem dX7_init_217 : decode cX7_init 217 = .ok (.newarray .int, 2) := by decide +kernel
theorem dX7_init_219 : decode cX7_init 219 = .ok (.putfield 90, 3) := by decide +kernel
theorem dX7_init_222 : decode cX7_init 222 = .ok (.return_, 1) := by decide +kernel
theorem dX7_byteOf_0 : decode cX7_byteOf 0 = .ok (.lload_n 0, 1) := by decide +kernel
theorem dX7_byteOf_1 : decode cX7_byteOf 1 = .ok (.bipush 8, 2) := by decide +kernel
theorem dX7_byteOf_3 : decode cX7_byteOf 3 = .ok (.iload_n 2, 1) := by decide +kernel
theorem dX7_byteOf_4 : decode cX7_byteOf 4 = .ok (.imul, 1) := by decide +kernel
theorem dX7_byteOf_5 : decode cX7_byteOf 5 = .ok (.lshr, 1) := by decide +kernel
theorem dX7_byteOf_6 : decode cX7_byteOf 6 = .ok (.ldc2_w 93, 3) := by decide +kernel
theorem dX7_byteOf_9 : decode cX7_byteOf 9 = .ok (.land, 1) := by decide +kernel
theorem dX7_byteOf_10 : decode cX7_byteOf 10 = .ok (.l2i, 1) := by decide +kernel
theorem dX7_byteOf_11 : decode cX7_byteOf 11 = .ok (.ireturn, 1) := by decide +kernel
theorem dX7_write_0 : decode cX7_write 0 = .ok (.iconst 0, 1) := by decide +kernel
theorem dX7_write_1 : decode cX7_write 1 = .ok (.istore_n 3, 1) := by decide +kernel
theorem dX7_write_2 : decode cX7_write 2 = .ok (.iconst 0, 1) := by decide +kernel
theorem dX7_write_3 : decode cX7_write 3 = .ok (.istore 4, 2) := by decide +kernel
theorem dX7_write_5 : decode cX7_write 5 = .ok (.iload 4, 2) := by decide +kernel
theorem dX7_write_7 : decode cX7_write 7 = .ok (.bipush 8, 2) := by decide +kernel
theorem dX7_write_9 : decode cX7_write 9 = .ok (.if_icmp .ge 58, 3) := by decide +kernel
theorem dX7_write_12 : decode cX7_write 12 = .ok (.lload_n 1, 1) := by decide +kernel
theorem dX7_write_13 : decode cX7_write 13 = .ok (.iload 4, 2) := by decide +kernel
theorem dX7_write_15 : decode cX7_write 15 = .ok (.invokestatic 95, 3) := by decide +kernel
theorem dX7_write_18 : decode cX7_write 18 = .ok (.istore 5, 2) := by decide +kernel
theorem dX7_write_20 : decode cX7_write 20 = .ok (.iload 5, 2) := by decide +kernel
theorem dX7_write_22 : decode cX7_write 22 = .ok (.ifCond .eq 26, 3) := by decide +kernel
theorem dX7_write_25 : decode cX7_write 25 = .ok (.iload 5, 2) := by decide +kernel
theorem dX7_write_27 : decode cX7_write 27 = .ok (.bipush 10, 2) := by decide +kernel
theorem dX7_write_29 : decode cX7_write 29 = .ok (.if_icmp .eq 19, 3) := by decide +kernel
theorem dX7_write_32 : decode cX7_write 32 = .ok (.iload 5, 2) := by decide +kernel
theorem dX7_write_34 : decode cX7_write 34 = .ok (.bipush 32, 2) := by decide +kernel
theorem dX7_write_36 : decode cX7_write 36 = .ok (.if_icmp .lt 10, 3) := by decide +kernel
theorem dX7_write_39 : decode cX7_write 39 = .ok (.iload 5, 2) := by decide +kernel
theorem dX7_write_41 : decode cX7_write 41 = .ok (.bipush 126, 2) := by decide +kernel
theorem dX7_write_43 : decode cX7_write 43 = .ok (.if_icmp .le 5, 3) := by decide +kernel
theorem dX7_write_46 : decode cX7_write 46 = .ok (.iconst 0, 1) := by decide +kernel
theorem dX7_write_47 : decode cX7_write 47 = .ok (.ireturn, 1) := by decide +kernel
theorem dX7_write_48 : decode cX7_write 48 = .ok (.iload_n 3, 1) := by decide +kernel
theorem dX7_write_49 : decode cX7_write 49 = .ok (.iload 5, 2) := by decide +kernel
theorem dX7_write_51 : decode cX7_write 51 = .ok (.ifCond .ne 7, 3) := by decide +kernel
theorem dX7_write_54 : decode cX7_write 54 = .ok (.iconst 0, 1) := by decide +kernel
theorem dX7_write_55 : decode cX7_write 55 = .ok (.goto 4, 3) := by decide +kernel
theorem dX7_write_58 : decode cX7_write 58 = .ok (.iconst 1, 1) := by decide +kernel
theorem dX7_write_59 : decode cX7_write 59 = .ok (.iadd, 1) := by decide +kernel
theorem dX7_write_60 : decode cX7_write 60 = .ok (.istore_n 3, 1) := by decide +kernel
theorem dX7_write_61 : decode cX7_write 61 = .ok (.iinc 4 1, 3) := by decide +kernel
theorem dX7_write_64 : decode cX7_write 64 = .ok (.goto (-59), 3) := by decide +kernel
theorem dX7_write_67 : decode cX7_write 67 = .ok (.aload_n 0, 1) := by decide +kernel
theorem dX7_write_68 : decode cX7_write 68 = .ok (.getfield 99, 3) := by decide +kernel
theorem dX7_write_71 : decode cX7_write 71 = .ok (.iload_n 3, 1) := by decide +kernel
theorem dX7_write_72 : decode cX7_write 72 = .ok (.iadd, 1) := by decide +kernel
theorem dX7_write_73 : decode cX7_write 73 = .ok (.sipush 480, 3) := by decide +kernel
theorem dX7_write_76 : decode cX7_write 76 = .ok (.if_icmp .le 5, 3) := by decide +kernel
theorem dX7_write_79 : decode cX7_write 79 = .ok (.iconst 0, 1) := by decide +kernel
theorem dX7_write_80 : decode cX7_write 80 = .ok (.ireturn, 1) := by decide +kernel
theorem dX7_write_81 : decode cX7_write 81 = .ok (.iconst 0, 1) := by decide +kernel
theorem dX7_write_82 : decode cX7_write 82 = .ok (.istore 4, 2) := by decide +kernel
theorem dX7_write_84 : decode cX7_write 84 = .ok (.iload 4, 2) := by decide +kernel
theorem dX7_write_86 : decode cX7_write 86 = .ok (.bipush 8, 2) := by decide +kernel
theorem dX7_write_88 : decode cX7_write 88 = .ok (.if_icmp .ge 43, 3) := by decide +kernel
theorem dX7_write_91 : decode cX7_write 91 = .ok (.lload_n 1, 1) := by decide +kernel
theorem dX7_write_92 : decode cX7_write 92 = .ok (.iload 4, 2) := by decide +kernel
theorem dX7_write_94 : decode cX7_write 94 = .ok (.invokestatic 95, 3) := by decide +kernel
theorem dX7_write_97 : decode cX7_write 97 = .ok (.istore 5, 2) := by decide +kernel
theorem dX7_write_99 : decode cX7_write 99 = .ok (.iload 5, 2) := by decide +kernel
theorem dX7_write_101 : decode cX7_write 101 = .ok (.ifCond .eq 24, 3) := by decide +kernel
theorem dX7_write_104 : decode cX7_write 104 = .ok (.aload_n 0, 1) := by decide +kernel
theorem dX7_write_105 : decode cX7_write 105 = .ok (.getfield 7, 3) := by decide +kernel
theorem dX7_write_108 : decode cX7_write 108 = .ok (.aload_n 0, 1) := by decide +kernel
theorem dX7_write_109 : decode cX7_write 109 = .ok (.getfield 99, 3) := by decide +kernel
theorem dX7_write_112 : decode cX7_write 112 = .ok (.iload 5, 2) := by decide +kernel
theorem dX7_write_114 : decode cX7_write 114 = .ok (.iastore, 1) := by decide +kernel
theorem dX7_write_115 : decode cX7_write 115 = .ok (.aload_n 0, 1) := by decide +kernel
theorem dX7_write_116 : decode cX7_write 116 = .ok (.dup, 1) := by decide +kernel
theorem dX7_write_117 : decode cX7_write 117 = .ok (.getfield 99, 3) := by decide +kernel
theorem dX7_write_120 : decode cX7_write 120 = .ok (.iconst 1, 1) := by decide +kernel
theorem dX7_write_121 : decode cX7_write 121 = .ok (.iadd, 1) := by decide +kernel
theorem dX7_write_122 : decode cX7_write 122 = .ok (.putfield 99, 3) := by decide +kernel
theorem dX7_write_125 : decode cX7_write 125 = .ok (.iinc 4 1, 3) := by decide +kernel
theorem dX7_write_128 : decode cX7_write 128 = .ok (.goto (-44), 3) := by decide +kernel
theorem dX7_write_131 : decode cX7_write 131 = .ok (.iconst 1, 1) := by decide +kernel
theorem dX7_write_132 : decode cX7_write 132 = .ok (.ireturn, 1) := by decide +kernel
theorem dX7_wipe_0 : decode cX7_wipe 0 = .ok (.aload_n 0, 1) := by decide +kernel
theorem dX7_wipe_1 : decode cX7_wipe 1 = .ok (.iconst 0, 1) := by decide +kernel
theorem dX7_wipe_2 : decode cX7_wipe 2 = .ok (.putfield 99, 3) := by decide +kernel
theorem dX7_wipe_5 : decode cX7_wipe 5 = .ok (.return_, 1) := by decide +kernel
theorem dX7_split_0 : decode cX7_split 0 = .ok (.aload_n 0, 1) := by decide +kernel
theorem dX7_split_1 : decode cX7_split 1 = .ok (.iconst 0, 1) := by decide +kernel
theorem dX7_split_2 : decode cX7_split 2 = .ok (.putfield 102, 3) := by decide +kernel
theorem dX7_split_5 : decode cX7_split 5 = .ok (.iload_n 1, 1) := by decide +kernel
theorem dX7_split_6 : decode cX7_split 6 = .ok (.istore_n 3, 1) := by decide +kernel
theorem dX7_split_7 : decode cX7_split 7 = .ok (.iload_n 3, 1) := by decide +kernel
theorem dX7_split_8 : decode cX7_split 8 = .ok (.iload_n 2, 1) := by decide +kernel
theorem dX7_split_9 : decode cX7_split 9 = .ok (.if_icmp .ge 85, 3) := by decide +kernel
theorem dX7_split_12 : decode cX7_split 12 = .ok (.iload_n 3, 1) := by decide +kernel
theorem dX7_split_13 : decode cX7_split 13 = .ok (.iload_n 2, 1) := by decide +kernel
theorem dX7_split_14 : decode cX7_split 14 = .ok (.if_icmp .ge 20, 3) := by decide +kernel
theorem dX7_split_17 : decode cX7_split 17 = .ok (.aload_n 0, 1) := by decide +kernel
theorem dX7_split_18 : decode cX7_split 18 = .ok (.getfield 7, 3) := by decide +kernel
theorem dX7_split_21 : decode cX7_split 21 = .ok (.iload_n 3, 1) := by decide +kernel
theorem dX7_split_22 : decode cX7_split 22 = .ok (.iaload, 1) := by decide +kernel
theorem dX7_split_23 : decode cX7_split 23 = .ok (.bipush 32, 2) := by decide +kernel
theorem dX7_split_25 : decode cX7_split 25 = .ok (.if_icmp .ne 9, 3) := by decide +kernel
theorem dX7_split_28 : decode cX7_split 28 = .ok (.iinc 3 1, 3) := by decide +kernel
theorem dX7_split_31 : decode cX7_split 31 = .ok (.goto (-19), 3) := by decide +kernel
theorem dX7_split_34 : decode cX7_split 34 = .ok (.iload_n 3, 1) := by decide +kernel
theorem dX7_split_35 : decode cX7_split 35 = .ok (.iload_n 2, 1) := by decide +kernel
theorem dX7_split_36 : decode cX7_split 36 = .ok (.if_icmp .ge (-29), 3) := by decide +kernel
theorem dX7_split_39 : decode cX7_split 39 = .ok (.aload_n 0, 1) := by decide +kernel
theorem dX7_split_40 : decode cX7_split 40 = .ok (.getfield 65, 3) := by decide +kernel
theorem dX7_split_43 : decode cX7_split 43 = .ok (.aload_n 0, 1) := by decide +kernel
theorem dX7_split_44 : decode cX7_split 44 = .ok (.getfield 102, 3) := by decide +kernel
theorem dX7_split_47 : decode cX7_split 47 = .ok (.iload_n 3, 1) := by decide +kernel
theorem dX7_split_48 : decode cX7_split 48 = .ok (.iastore, 1) := by decide +kernel
theorem dX7_split_49 : decode cX7_split 49 = .ok (.iload_n 3, 1) := by decide +kernel
theorem dX7_split_50 : decode cX7_split 50 = .ok (.iload_n 2, 1) := by decide +kernel
theorem dX7_split_51 : decode cX7_split 51 = .ok (.if_icmp .ge 20, 3) := by decide +kernel
theorem dX7_split_54 : decode cX7_split 54 = .ok (.aload_n 0, 1) := by decide +kernel
theorem dX7_split_55 : decode cX7_split 55 = .ok (.getfield 7, 3) := by decide +kernel
theorem dX7_split_58 : decode cX7_split 58 = .ok (.iload_n 3, 1) := by decide +kernel
theorem dX7_split_59 : decode cX7_split 59 = .ok (.iaload, 1) := by decide +kernel
theorem dX7_split_60 : decode cX7_split 60 = .ok (.bipush 32, 2) := by decide +kernel
theorem dX7_split_62 : decode cX7_split 62 = .ok (.if_icmp .eq 9, 3) := by decide +kernel
theorem dX7_split_65 : decode cX7_split 65 = .ok (.iinc 3 1, 3) := by decide +kernel
theorem dX7_split_68 : decode cX7_split 68 = .ok (.goto (-19), 3) := by decide +kernel
theorem dX7_split_71 : decode cX7_split 71 = .ok (.aload_n 0, 1) := by decide +kernel
theorem dX7_split_72 : decode cX7_split 72 = .ok (.getfield 68, 3) := by decide +kernel
theorem dX7_split_75 : decode cX7_split 75 = .ok (.aload_n 0, 1) := by decide +kernel
theorem dX7_split_76 : decode cX7_split 76 = .ok (.getfield 102, 3) := by decide +kernel
theorem dX7_split_79 : decode cX7_split 79 = .ok (.iload_n 3, 1) := by decide +kernel
theorem dX7_split_80 : decode cX7_split 80 = .ok (.iastore, 1) := by decide +kernel
theorem dX7_split_81 : decode cX7_split 81 = .ok (.aload_n 0, 1) := by decide +kernel
theorem dX7_split_82 : decode cX7_split 82 = .ok (.dup, 1) := by decide +kernel
theorem dX7_split_83 : decode cX7_split 83 = .ok (.getfield 102, 3) := by decide +kernel
theorem dX7_split_86 : decode cX7_split 86 = .ok (.iconst 1, 1) := by decide +kernel
theorem dX7_split_87 : decode cX7_split 87 = .ok (.iadd, 1) := by decide +kernel
theorem dX7_split_88 : decode cX7_split 88 = .ok (.putfield 102, 3) := by decide +kernel
theorem dX7_split_91 : decode cX7_split 91 = .ok (.goto (-84), 3) := by decide +kernel
theorem dX7_split_94 : decode cX7_split 94 = .ok (.return_, 1) := by decide +kernel
theorem dX7_single_0 : decode cX7_single 0 = .ok (.aload_n 0, 1) := by decide +kernel
theorem dX7_single_1 : decode cX7_single 1 = .ok (.getfield 68, 3) := by decide +kernel
theorem dX7_single_4 : decode cX7_single 4 = .ok (.iload_n 1, 1) := by decide +kernel
theorem dX7_single_5 : decode cX7_single 5 = .ok (.iaload, 1) := by decide +kernel
theorem dX7_single_6 : decode cX7_single 6 = .ok (.aload_n 0, 1) := by decide +kernel
theorem dX7_single_7 : decode cX7_single 7 = .ok (.getfield 65, 3) := by decide +kernel
theorem dX7_single_10 : decode cX7_single 10 = .ok (.iload_n 1, 1) := by decide +kernel
theorem dX7_single_11 : decode cX7_single 11 = .ok (.iaload, 1) := by decide +kernel
theorem dX7_single_12 : decode cX7_single 12 = .ok (.isub, 1) := by decide +kernel
theorem dX7_single_13 : decode cX7_single 13 = .ok (.iconst 1, 1) := by decide +kernel
theorem dX7_single_14 : decode cX7_single 14 = .ok (.if_icmp .ne 17, 3) := by decide +kernel
theorem dX7_single_17 : decode cX7_single 17 = .ok (.aload_n 0, 1) := by decide +kernel
theorem dX7_single_18 : decode cX7_single 18 = .ok (.getfield 7, 3) := by decide +kernel
theorem dX7_single_21 : decode cX7_single 21 = .ok (.aload_n 0, 1) := by decide +kernel
theorem dX7_single_22 : decode cX7_single 22 = .ok (.getfield 65, 3) := by decide +kernel
theorem dX7_single_25 : decode cX7_single 25 = .ok (.iload_n 1, 1) := by decide +kernel
theorem dX7_single_26 : decode cX7_single 26 = .ok (.iaload, 1) := by decide +kernel
theorem dX7_single_27 : decode cX7_single 27 = .ok (.iaload, 1) := by decide +kernel
theorem dX7_single_28 : decode cX7_single 28 = .ok (.goto 4, 3) := by decide +kernel
theorem dX7_single_31 : decode cX7_single 31 = .ok (.iconst 0, 1) := by decide +kernel
theorem dX7_single_32 : decode cX7_single 32 = .ok (.ireturn, 1) := by decide +kernel
theorem dX7_figure_0 : decode cX7_figure 0 = .ok (.aload_n 0, 1) := by decide +kernel
theorem dX7_figure_1 : decode cX7_figure 1 = .ok (.iload_n 1, 1) := by decide +kernel
theorem dX7_figure_2 : decode cX7_figure 2 = .ok (.invokevirtual 105, 3) := by decide +kernel
theorem dX7_figure_5 : decode cX7_figure 5 = .ok (.istore_n 2, 1) := by decide +kernel
theorem dX7_figure_6 : decode cX7_figure 6 = .ok (.iload_n 2, 1) := by decide +kernel
theorem dX7_figure_7 : decode cX7_figure 7 = .ok (.bipush 49, 2) := by decide +kernel
theorem dX7_figure_9 : decode cX7_figure 9 = .ok (.if_icmp .lt 16, 3) := by decide +kernel
theorem dX7_figure_12 : decode cX7_figure 12 = .ok (.iload_n 2, 1) := by decide +kernel
theorem dX7_figure_13 : decode cX7_figure 13 = .ok (.bipush 51, 2) := by decide +kernel
theorem dX7_figure_15 : decode cX7_figure 15 = .ok (.if_icmp .gt 10, 3) := by decide +kernel
theorem dX7_figure_18 : decode cX7_figure 18 = .ok (.iload_n 2, 1) := by decide +kernel
theorem dX7_figure_19 : decode cX7_figure 19 = .ok (.bipush 48, 2) := by decide +kernel
theorem dX7_figure_21 : decode cX7_figure 21 = .ok (.isub, 1) := by decide +kernel
theorem dX7_figure_22 : decode cX7_figure 22 = .ok (.goto 4, 3) := by decide +kernel
theorem dX7_figure_25 : decode cX7_figure 25 = .ok (.iconst 0, 1) := by decide +kernel
theorem dX7_figure_26 : decode cX7_figure 26 = .ok (.ireturn, 1) := by decide +kernel
theorem dX7_nameOf_0 : decode cX7_nameOf 0 = .ok (.aload_n 0, 1) := by decide +kernel
theorem dX7_nameOf_1 : decode cX7_nameOf 1 = .ok (.getfield 68, 3) := by decide +kernel
theorem dX7_nameOf_4 : decode cX7_nameOf 4 = .ok (.iload_n 1, 1) := by decide +kernel
theorem dX7_nameOf_5 : decode cX7_nameOf 5 = .ok (.iaload, 1) := by decide +kernel
theorem dX7_nameOf_6 : decode cX7_nameOf 6 = .ok (.aload_n 0, 1) := by decide +kernel
theorem dX7_nameOf_7 : decode cX7_nameOf 7 = .ok (.getfield 65, 3) := by decide +kernel
theorem dX7_nameOf_10 : decode cX7_nameOf 10 = .ok (.iload_n 1, 1) := by decide +kernel
theorem dX7_nameOf_11 : decode cX7_nameOf 11 = .ok (.iaload, 1) := by decide +kernel
theorem dX7_nameOf_12 : decode cX7_nameOf 12 = .ok (.isub, 1) := by decide +kernel
theorem dX7_nameOf_13 : decode cX7_nameOf 13 = .ok (.istore_n 2, 1) := by decide +kernel
theorem dX7_nameOf_14 : decode cX7_nameOf 14 = .ok (.iload_n 2, 1) := by decide +kernel
theorem dX7_nameOf_15 : decode cX7_nameOf 15 = .ok (.iconst 4, 1) := by decide +kernel
theorem dX7_nameOf_16 : decode cX7_nameOf 16 = .ok (.if_icmp .le 5, 3) := by decide +kernel
theorem dX7_nameOf_19 : decode cX7_nameOf 19 = .ok (.iconst 0, 1) := by decide +kernel
theorem dX7_nameOf_20 : decode cX7_nameOf 20 = .ok (.ireturn, 1) := by decide +kernel
theorem dX7_nameOf_21 : decode cX7_nameOf 21 = .ok (.iconst 0, 1) := by decide +kernel
theorem dX7_nameOf_22 : decode cX7_nameOf 22 = .ok (.istore_n 3, 1) := by decide +kernel
theorem dX7_nameOf_23 : decode cX7_nameOf 23 = .ok (.aload_n 0, 1) := by decide +kernel
theorem dX7_nameOf_24 : decode cX7_nameOf 24 = .ok (.getfield 68, 3) := by decide +kernel
theorem dX7_nameOf_27 : decode cX7_nameOf 27 = .ok (.iload_n 1, 1) := by decide +kernel
theorem dX7_nameOf_28 : decode cX7_nameOf 28 = .ok (.iaload, 1) := by decide +kernel
theorem dX7_nameOf_29 : decode cX7_nameOf 29 = .ok (.iconst 1, 1) := by decide +kernel
theorem dX7_nameOf_30 : decode cX7_nameOf 30 = .ok (.isub, 1) := by decide +kernel
theorem dX7_nameOf_31 : decode cX7_nameOf 31 = .ok (.istore 4, 2) := by decide +kernel
theorem dX7_nameOf_33 : decode cX7_nameOf 33 = .ok (.iload 4, 2) := by decide +kernel
theorem dX7_nameOf_35 : decode cX7_nameOf 35 = .ok (.aload_n 0, 1) := by decide +kernel
theorem dX7_nameOf_36 : decode cX7_nameOf 36 = .ok (.getfield 65, 3) := by decide +kernel
theorem dX7_nameOf_39 : decode cX7_nameOf 39 = .ok (.iload_n 1, 1) := by decide +kernel
theorem dX7_nameOf_40 : decode cX7_nameOf 40 = .ok (.iaload, 1) := by decide +kernel
theorem dX7_nameOf_41 : decode cX7_nameOf 41 = .ok (.if_icmp .lt 56, 3) := by decide +kernel
theorem dX7_nameOf_44 : decode cX7_nameOf 44 = .ok (.aload_n 0, 1) := by decide +kernel
theorem dX7_nameOf_45 : decode cX7_nameOf 45 = .ok (.getfield 7, 3) := by decide +kernel
theorem dX7_nameOf_48 : decode cX7_nameOf 48 = .ok (.iload 4, 2) := by decide +kernel
theorem dX7_nameOf_50 : decode cX7_nameOf 50 = .ok (.iaload, 1) := by decide +kernel
theorem dX7_nameOf_51 : decode cX7_nameOf 51 = .ok (.istore 5, 2) := by decide +kernel
theorem dX7_nameOf_53 : decode cX7_nameOf 53 = .ok (.iload 5, 2) := by decide +kernel
theorem dX7_nameOf_55 : decode cX7_nameOf 55 = .ok (.bipush 97, 2) := by decide +kernel
theorem dX7_nameOf_57 : decode cX7_nameOf 57 = .ok (.if_icmp .lt 10, 3) := by decide +kernel
theorem dX7_nameOf_60 : decode cX7_nameOf 60 = .ok (.iload 5, 2) := by decide +kernel
theorem dX7_nameOf_62 : decode cX7_nameOf 62 = .ok (.bipush 122, 2) := by decide +kernel
theorem dX7_nameOf_64 : decode cX7_nameOf 64 = .ok (.if_icmp .le 19, 3) := by decide +kernel
theorem dX7_nameOf_67 : decode cX7_nameOf 67 = .ok (.iload 5, 2) := by decide +kernel
theorem dX7_nameOf_69 : decode cX7_nameOf 69 = .ok (.bipush 48, 2) := by decide +kernel
theorem dX7_nameOf_71 : decode cX7_nameOf 71 = .ok (.if_icmp .lt 10, 3) := by decide +kernel
theorem dX7_nameOf_74 : decode cX7_nameOf 74 = .ok (.iload 5, 2) := by decide +kernel
theorem dX7_nameOf_76 : decode cX7_nameOf 76 = .ok (.bipush 57, 2) := by decide +kernel
theorem dX7_nameOf_78 : decode cX7_nameOf 78 = .ok (.if_icmp .le 5, 3) := by decide +kernel
theorem dX7_nameOf_81 : decode cX7_nameOf 81 = .ok (.iconst 0, 1) := by decide +kernel
theorem dX7_nameOf_82 : decode cX7_nameOf 82 = .ok (.ireturn, 1) := by decide +kernel
theorem dX7_nameOf_83 : decode cX7_nameOf 83 = .ok (.iload_n 3, 1) := by decide +kernel
theorem dX7_nameOf_84 : decode cX7_nameOf 84 = .ok (.bipush 8, 2) := by decide +kernel
theorem dX7_nameOf_86 : decode cX7_nameOf 86 = .ok (.ishl, 1) := by decide +kernel
theorem dX7_nameOf_87 : decode cX7_nameOf 87 = .ok (.iload 5, 2) := by decide +kernel
theorem dX7_nameOf_89 : decode cX7_nameOf 89 = .ok (.ior, 1) := by decide +kernel
theorem dX7_nameOf_90 : decode cX7_nameOf 90 = .ok (.istore_n 3, 1) := by decide +kernel
theorem dX7_nameOf_91 : decode cX7_nameOf 91 = .ok (.iinc 4 (-1), 3) := by decide +kernel
theorem dX7_nameOf_94 : decode cX7_nameOf 94 = .ok (.goto (-61), 3) := by decide +kernel
theorem dX7_nameOf_97 : decode cX7_nameOf 97 = .ok (.iload_n 3, 1) := by decide +kernel
theorem dX7_nameOf_98 : decode cX7_nameOf 98 = .ok (.ireturn, 1) := by decide +kernel
theorem dX7_find_0 : decode cX7_find 0 = .ok (.iconst 0, 1) := by decide +kernel
theorem dX7_find_1 : decode cX7_find 1 = .ok (.istore_n 2, 1) := by decide +kernel
theorem dX7_find_2 : decode cX7_find 2 = .ok (.iload_n 2, 1) := by decide +kernel
theorem dX7_find_3 : decode cX7_find 3 = .ok (.aload_n 0, 1) := by decide +kernel
theorem dX7_find_4 : decode cX7_find 4 = .ok (.getfield 109, 3) := by decide +kernel
theorem dX7_find_7 : decode cX7_find 7 = .ok (.if_icmp .ge 26, 3) := by decide +kernel
theorem dX7_find_10 : decode cX7_find 10 = .ok (.aload_n 0, 1) := by decide +kernel
theorem dX7_find_11 : decode cX7_find 11 = .ok (.getfield 59, 3) := by decide +kernel
theorem dX7_find_14 : decode cX7_find 14 = .ok (.iload_n 2, 1) := by decide +kernel
theorem dX7_find_15 : decode cX7_find 15 = .ok (.iaload, 1) := by decide +kernel
theorem dX7_find_16 : decode cX7_find 16 = .ok (.iload_n 1, 1) := by decide +kernel
theorem dX7_find_17 : decode cX7_find 17 = .ok (.if_icmp .ne 10, 3) := by decide +kernel
theorem dX7_find_20 : decode cX7_find 20 = .ok (.aload_n 0, 1) := by decide +kernel
theorem dX7_find_21 : decode cX7_find 21 = .ok (.getfield 62, 3) := by decide +kernel
theorem dX7_find_24 : decode cX7_find 24 = .ok (.iload_n 2, 1) := by decide +kernel
theorem dX7_find_25 : decode cX7_find 25 = .ok (.iaload, 1) := by decide +kernel
theorem dX7_find_26 : decode cX7_find 26 = .ok (.ireturn, 1) := by decide +kernel
theorem dX7_find_27 : decode cX7_find 27 = .ok (.iinc 2 1, 3) := by decide +kernel
theorem dX7_find_30 : decode cX7_find 30 = .ok (.goto (-28), 3) := by decide +kernel
theorem dX7_find_33 : decode cX7_find 33 = .ok (.iconst (-1), 1) := by decide +kernel
theorem dX7_find_34 : decode cX7_find 34 = .ok (.ireturn, 1) := by decide +kernel
theorem dX7_know_0 : decode cX7_know 0 = .ok (.aload_n 0, 1) := by decide +kernel
theorem dX7_know_1 : decode cX7_know 1 = .ok (.getfield 109, 3) := by decide +kernel
theorem dX7_know_4 : decode cX7_know 4 = .ok (.bipush 40, 2) := by decide +kernel
theorem dX7_know_6 : decode cX7_know 6 = .ok (.if_icmp .ne 9, 3) := by decide +kernel
theorem dX7_know_9 : decode cX7_know 9 = .ok (.aload_n 0, 1) := by decide +kernel
theorem dX7_know_10 : decode cX7_know 10 = .ok (.iconst 1, 1) := by decide +kernel
theorem dX7_know_11 : decode cX7_know 11 = .ok (.putfield 112, 3) := by decide +kernel
theorem dX7_know_14 : decode cX7_know 14 = .ok (.return_, 1) := by decide +kernel
theorem dX7_know_15 : decode cX7_know 15 = .ok (.aload_n 0, 1) := by decide +kernel
theorem dX7_know_16 : decode cX7_know 16 = .ok (.getfield 59, 3) := by decide +kernel
theorem dX7_know_19 : decode cX7_know 19 = .ok (.aload_n 0, 1) := by decide +kernel
theorem dX7_know_20 : decode cX7_know 20 = .ok (.getfield 109, 3) := by decide +kernel
theorem dX7_know_23 : decode cX7_know 23 = .ok (.iload_n 1, 1) := by decide +kernel
theorem dX7_know_24 : decode cX7_know 24 = .ok (.iastore, 1) := by decide +kernel
theorem dX7_know_25 : decode cX7_know 25 = .ok (.aload_n 0, 1) := by decide +kernel
theorem dX7_know_26 : decode cX7_know 26 = .ok (.getfield 62, 3) := by decide +kernel
theorem dX7_know_29 : decode cX7_know 29 = .ok (.aload_n 0, 1) := by decide +kernel
theorem dX7_know_30 : decode cX7_know 30 = .ok (.getfield 109, 3) := by decide +kernel
theorem dX7_know_33 : decode cX7_know 33 = .ok (.iload_n 2, 1) := by decide +kernel
theorem dX7_know_34 : decode cX7_know 34 = .ok (.iastore, 1) := by decide +kernel
theorem dX7_know_35 : decode cX7_know 35 = .ok (.aload_n 0, 1) := by decide +kernel
theorem dX7_know_36 : decode cX7_know 36 = .ok (.dup, 1) := by decide +kernel
theorem dX7_know_37 : decode cX7_know 37 = .ok (.getfield 109, 3) := by decide +kernel
theorem dX7_know_40 : decode cX7_know 40 = .ok (.iconst 1, 1) := by decide +kernel
theorem dX7_know_41 : decode cX7_know 41 = .ok (.iadd, 1) := by decide +kernel
theorem dX7_know_42 : decode cX7_know 42 = .ok (.putfield 109, 3) := by decide +kernel
theorem dX7_know_45 : decode cX7_know 45 = .ok (.return_, 1) := by decide +kernel
theorem dX7_nodeOf_0 : decode cX7_nodeOf 0 = .ok (.aload_n 0, 1) := by decide +kernel
theorem dX7_nodeOf_1 : decode cX7_nodeOf 1 = .ok (.iload_n 1, 1) := by decide +kernel
theorem dX7_nodeOf_2 : decode cX7_nodeOf 2 = .ok (.invokevirtual 116, 3) := by decide +kernel
theorem dX7_nodeOf_5 : decode cX7_nodeOf 5 = .ok (.istore_n 2, 1) := by decide +kernel
theorem dX7_nodeOf_6 : decode cX7_nodeOf 6 = .ok (.aload_n 0, 1) := by decide +kernel
theorem dX7_nodeOf_7 : decode cX7_nodeOf 7 = .ok (.iload_n 2, 1) := by decide +kernel
theorem dX7_nodeOf_8 : decode cX7_nodeOf 8 = .ok (.invokevirtual 119, 3) := by decide +kernel
theorem dX7_nodeOf_11 : decode cX7_nodeOf 11 = .ok (.istore_n 3, 1) := by decide +kernel
theorem dX7_nodeOf_12 : decode cX7_nodeOf 12 = .ok (.iload_n 2, 1) := by decide +kernel
theorem dX7_nodeOf_13 : decode cX7_nodeOf 13 = .ok (.ifCond .eq 10, 3) := by decide +kernel
theorem dX7_nodeOf_16 : decode cX7_nodeOf 16 = .ok (.iload_n 3, 1) := by decide +kernel
theorem dX7_nodeOf_17 : decode cX7_nodeOf 17 = .ok (.iconst (-1), 1) := by decide +kernel
theorem dX7_nodeOf_18 : decode cX7_nodeOf 18 = .ok (.if_icmp .eq 5, 3) := by decide +kernel
theorem dX7_nodeOf_21 : decode cX7_nodeOf 21 = .ok (.iload_n 3, 1) := by decide +kernel
theorem dX7_nodeOf_22 : decode cX7_nodeOf 22 = .ok (.ireturn, 1) := by decide +kernel
theorem dX7_nodeOf_23 : decode cX7_nodeOf 23 = .ok (.iload_n 2, 1) := by decide +kernel
theorem dX7_nodeOf_24 : decode cX7_nodeOf 24 = .ok (.ifCond .eq 12, 3) := by decide +kernel
theorem dX7_nodeOf_27 : decode cX7_nodeOf 27 = .ok (.aload_n 0, 1) := by decide +kernel
theorem dX7_nodeOf_28 : decode cX7_nodeOf 28 = .ok (.getfield 122, 3) := by decide +kernel
theorem dX7_nodeOf_31 : decode cX7_nodeOf 31 = .ok (.bipush 24, 2) := by decide +kernel
theorem dX7_nodeOf_33 : decode cX7_nodeOf 33 = .ok (.if_icmp .ne 10, 3) := by decide +kernel
theorem dX7_nodeOf_36 : decode cX7_nodeOf 36 = .ok (.aload_n 0, 1) := by decide +kernel
theorem dX7_nodeOf_37 : decode cX7_nodeOf 37 = .ok (.iconst 1, 1) := by decide +kernel
theorem dX7_nodeOf_38 : decode cX7_nodeOf 38 = .ok (.putfield 112, 3) := by decide +kernel
theorem dX7_nodeOf_41 : decode cX7_nodeOf 41 = .ok (.iconst 0, 1) := by decide +kernel
theorem dX7_nodeOf_42 : decode cX7_nodeOf 42 = .ok (.ireturn, 1) := by decide +kernel
theorem dX7_nodeOf_43 : decode cX7_nodeOf 43 = .ok (.aload_n 0, 1) := by decide +kernel
theorem dX7_nodeOf_44 : decode cX7_nodeOf 44 = .ok (.iload_n 2, 1) := by decide +kernel
theorem dX7_nodeOf_45 : decode cX7_nodeOf 45 = .ok (.aload_n 0, 1) := by decide +kernel
theorem dX7_nodeOf_46 : decode cX7_nodeOf 46 = .ok (.getfield 122, 3) := by decide +kernel
theorem dX7_nodeOf_49 : decode cX7_nodeOf 49 = .ok (.invokevirtual 125, 3) := by decide +kernel
theorem dX7_nodeOf_52 : decode cX7_nodeOf 52 = .ok (.aload_n 0, 1) := by decide +kernel
theorem dX7_nodeOf_53 : decode cX7_nodeOf 53 = .ok (.getfield 50, 3) := by decide +kernel
theorem dX7_nodeOf_56 : decode cX7_nodeOf 56 = .ok (.aload_n 0, 1) := by decide +kernel
theorem dX7_nodeOf_57 : decode cX7_nodeOf 57 = .ok (.getfield 122, 3) := by decide +kernel
theorem dX7_nodeOf_60 : decode cX7_nodeOf 60 = .ok (.iconst 0, 1) := by decide +kernel
theorem dX7_nodeOf_61 : decode cX7_nodeOf 61 = .ok (.bastore, 1) := by decide +kernel
theorem dX7_nodeOf_62 : decode cX7_nodeOf 62 = .ok (.aload_n 0, 1) := by decide +kernel
theorem dX7_nodeOf_63 : decode cX7_nodeOf 63 = .ok (.getfield 53, 3) := by decide +kernel
theorem dX7_nodeOf_66 : decode cX7_nodeOf 66 = .ok (.aload_n 0, 1) := by decide +kernel
theorem dX7_nodeOf_67 : decode cX7_nodeOf 67 = .ok (.getfield 122, 3) := by decide +kernel
theorem dX7_nodeOf_70 : decode cX7_nodeOf 70 = .ok (.iconst 2, 1) := by decide +kernel
theorem dX7_nodeOf_71 : decode cX7_nodeOf 71 = .ok (.iastore, 1) := by decide +kernel
theorem dX7_nodeOf_72 : decode cX7_nodeOf 72 = .ok (.aload_n 0, 1) := by decide +kernel
theorem dX7_nodeOf_73 : decode cX7_nodeOf 73 = .ok (.dup, 1) := by decide +kernel
theorem dX7_nodeOf_74 : decode cX7_nodeOf 74 = .ok (.getfield 122, 3) := by decide +kernel
theorem dX7_nodeOf_77 : decode cX7_nodeOf 77 = .ok (.iconst 1, 1) := by decide +kernel
theorem dX7_nodeOf_78 : decode cX7_nodeOf 78 = .ok (.iadd, 1) := by decide +kernel
theorem dX7_nodeOf_79 : decode cX7_nodeOf 79 = .ok (.putfield 122, 3) := by decide +kernel
theorem dX7_nodeOf_82 : decode cX7_nodeOf 82 = .ok (.aload_n 0, 1) := by decide +kernel
theorem dX7_nodeOf_83 : decode cX7_nodeOf 83 = .ok (.getfield 122, 3) := by decide +kernel
theorem dX7_nodeOf_86 : decode cX7_nodeOf 86 = .ok (.iconst 1, 1) := by decide +kernel
theorem dX7_nodeOf_87 : decode cX7_nodeOf 87 = .ok (.isub, 1) := by decide +kernel
theorem dX7_nodeOf_88 : decode cX7_nodeOf 88 = .ok (.ireturn, 1) := by decide +kernel
theorem dX7_transistor_0 : decode cX7_transistor 0 = .ok (.aload_n 0, 1) := by decide +kernel
theorem dX7_transistor_1 : decode cX7_transistor 1 = .ok (.getfield 102, 3) := by decide +kernel
theorem dX7_transistor_4 : decode cX7_transistor 4 = .ok (.iconst 5, 1) := by decide +kernel
theorem dX7_transistor_5 : decode cX7_transistor 5 = .ok (.if_icmp .ne 11, 3) := by decide +kernel
theorem dX7_transistor_8 : decode cX7_transistor 8 = .ok (.aload_n 0, 1) := by decide +kernel
theorem dX7_transistor_9 : decode cX7_transistor 9 = .ok (.iconst 4, 1) := by decide +kernel
theorem dX7_transistor_10 : decode cX7_transistor 10 = .ok (.invokevirtual 129, 3) := by decide +kernel
theorem dX7_transistor_13 : decode cX7_transistor 13 = .ok (.goto 4, 3) := by decide +kernel
theorem dX7_transistor_16 : decode cX7_transistor 16 = .ok (.iconst 2, 1) := by decide +kernel
theorem dX7_transistor_17 : decode cX7_transistor 17 = .ok (.istore_n 2, 1) := by decide +kernel
theorem dX7_transistor_18 : decode cX7_transistor 18 = .ok (.aload_n 0, 1) := by decide +kernel
theorem dX7_transistor_19 : decode cX7_transistor 19 = .ok (.aload_n 0, 1) := by decide +kernel
theorem dX7_transistor_20 : decode cX7_transistor 20 = .ok (.getfield 102, 3) := by decide +kernel
theorem dX7_transistor_23 : decode cX7_transistor 23 = .ok (.iconst 4, 1) := by decide +kernel
theorem dX7_transistor_24 : decode cX7_transistor 24 = .ok (.if_icmp .lt 24, 3) := by decide +kernel
theorem dX7_transistor_27 : decode cX7_transistor 27 = .ok (.aload_n 0, 1) := by decide +kernel
theorem dX7_transistor_28 : decode cX7_transistor 28 = .ok (.getfield 102, 3) := by decide +kernel
theorem dX7_transistor_31 : decode cX7_transistor 31 = .ok (.iconst 5, 1) := by decide +kernel
theorem dX7_transistor_32 : decode cX7_transistor 32 = .ok (.if_icmp .gt 16, 3) := by decide +kernel
theorem dX7_transistor_35 : decode cX7_transistor 35 = .ok (.iload_n 2, 1) := by decide +kernel
theorem dX7_transistor_36 : decode cX7_transistor 36 = .ok (.ifCond .eq 12, 3) := by decide +kernel
theorem dX7_transistor_39 : decode cX7_transistor 39 = .ok (.aload_n 0, 1) := by decide +kernel
theorem dX7_transistor_40 : decode cX7_transistor 40 = .ok (.getfield 132, 3) := by decide +kernel
theorem dX7_transistor_43 : decode cX7_transistor 43 = .ok (.bipush 30, 2) := by decide +kernel
theorem dX7_transistor_45 : decode cX7_transistor 45 = .ok (.if_icmp .ne 7, 3) := by decide +kernel
theorem dX7_transistor_48 : decode cX7_transistor 48 = .ok (.iconst 1, 1) := by decide +kernel
theorem dX7_transistor_49 : decode cX7_transistor 49 = .ok (.goto 4, 3) := by decide +kernel
theorem dX7_transistor_52 : decode cX7_transistor 52 = .ok (.iconst 0, 1) := by decide +kernel
theorem dX7_transistor_53 : decode cX7_transistor 53 = .ok (.putfield 112, 3) := by decide +kernel
theorem dX7_transistor_56 : decode cX7_transistor 56 = .ok (.iconst 1, 1) := by decide +kernel
theorem dX7_transistor_57 : decode cX7_transistor 57 = .ok (.istore_n 3, 1) := by decide +kernel
theorem dX7_transistor_58 : decode cX7_transistor 58 = .ok (.iload_n 3, 1) := by decide +kernel
theorem dX7_transistor_59 : decode cX7_transistor 59 = .ok (.iconst 4, 1) := by decide +kernel
theorem dX7_transistor_60 : decode cX7_transistor 60 = .ok (.if_icmp .ge 33, 3) := by decide +kernel
theorem dX7_transistor_63 : decode cX7_transistor 63 = .ok (.aload_n 0, 1) := by decide +kernel
theorem dX7_transistor_64 : decode cX7_transistor 64 = .ok (.getfield 112, 3) := by decide +kernel
theorem dX7_transistor_67 : decode cX7_transistor 67 = .ok (.ifCond .ne 26, 3) := by decide +kernel
theorem dX7_transistor_70 : decode cX7_transistor 70 = .ok (.aload_n 0, 1) := by decide +kernel
theorem dX7_transistor_71 : decode cX7_transistor 71 = .ok (.aload_n 0, 1) := by decide +kernel
theorem dX7_transistor_72 : decode cX7_transistor 72 = .ok (.iload_n 3, 1) := by decide +kernel
theorem dX7_transistor_73 : decode cX7_transistor 73 = .ok (.invokevirtual 116, 3) := by decide +kernel
theorem dX7_transistor_76 : decode cX7_transistor 76 = .ok (.ifCond .ne 7, 3) := by decide +kernel
theorem dX7_transistor_79 : decode cX7_transistor 79 = .ok (.iconst 1, 1) := by decide +kernel
theorem dX7_transistor_80 : decode cX7_transistor 80 = .ok (.goto 4, 3) := by decide +kernel
theorem dX7_transistor_83 : decode cX7_transistor 83 = .ok (.iconst 0, 1) := by decide +kernel
theorem dX7_transistor_84 : decode cX7_transistor 84 = .ok (.putfield 112, 3) := by decide +kernel
theorem dX7_transistor_87 : decode cX7_transistor 87 = .ok (.iinc 3 1, 3) := by decide +kernel
theorem dX7_transistor_90 : decode cX7_transistor 90 = .ok (.goto (-32), 3) := by decide +kernel
theorem dX7_transistor_93 : decode cX7_transistor 93 = .ok (.aload_n 0, 1) := by decide +kernel
theorem dX7_transistor_94 : decode cX7_transistor 94 = .ok (.getfield 112, 3) := by decide +kernel
theorem dX7_transistor_97 : decode cX7_transistor 97 = .ok (.ifCond .eq 4, 3) := by decide +kernel
theorem dX7_transistor_100 : decode cX7_transistor 100 = .ok (.return_, 1) := by decide +kernel
theorem dX7_transistor_101 : decode cX7_transistor 101 = .ok (.iconst 5, 1) := by decide +kernel
theorem dX7_transistor_102 : decode cX7_transistor 102 = .ok (.aload_n 0, 1) := by decide +kernel
theorem dX7_transistor_103 : decode cX7_transistor 103 = .ok (.getfield 132, 3) := by decide +kernel
theorem dX7_transistor_106 : decode cX7_transistor 106 = .ok (.imul, 1) := by decide +kernel
theorem dX7_transistor_107 : decode cX7_transistor 107 = .ok (.istore_n 3, 1) := by decide +kernel
theorem dX7_transistor_108 : decode cX7_transistor 108 = .ok (.aload_n 0, 1) := by decide +kernel
theorem dX7_transistor_109 : decode cX7_transistor 109 = .ok (.getfield 56, 3) := by decide +kernel
theorem dX7_transistor_112 : decode cX7_transistor 112 = .ok (.iload_n 3, 1) := by decide +kernel
theorem dX7_transistor_113 : decode cX7_transistor 113 = .ok (.iload_n 1, 1) := by decide +kernel
theorem dX7_transistor_114 : decode cX7_transistor 114 = .ok (.iastore, 1) := by decide +kernel
theorem dX7_transistor_115 : decode cX7_transistor 115 = .ok (.iconst 1, 1) := by decide +kernel
theorem dX7_transistor_116 : decode cX7_transistor 116 = .ok (.istore 4, 2) := by decide +kernel
theorem dX7_transistor_118 : decode cX7_transistor 118 = .ok (.iload 4, 2) := by decide +kernel
theorem dX7_transistor_120 : decode cX7_transistor 120 = .ok (.iconst 4, 1) := by decide +kernel
theorem dX7_transistor_121 : decode cX7_transistor 121 = .ok (.if_icmp .ge 31, 3) := by decide +kernel
theorem dX7_transistor_124 : decode cX7_transistor 124 = .ok (.aload_n 0, 1) := by decide +kernel
theorem dX7_transistor_125 : decode cX7_transistor 125 = .ok (.getfield 112, 3) := by decide +kernel
theorem dX7_transistor_128 : decode cX7_transistor 128 = .ok (.ifCond .ne 24, 3) := by decide +kernel
theorem dX7_transistor_131 : decode cX7_transistor 131 = .ok (.aload_n 0, 1) := by decide +kernel
theorem dX7_transistor_132 : decode cX7_transistor 132 = .ok (.getfield 56, 3) := by decide +kernel
theorem dX7_transistor_135 : decode cX7_transistor 135 = .ok (.iload_n 3, 1) := by decide +kernel
theorem dX7_transistor_136 : decode cX7_transistor 136 = .ok (.iload 4, 2) := by decide +kernel
theorem dX7_transistor_138 : decode cX7_transistor 138 = .ok (.iadd, 1) := by decide +kernel
theorem dX7_transistor_139 : decode cX7_transistor 139 = .ok (.aload_n 0, 1) := by decide +kernel
theorem dX7_transistor_140 : decode cX7_transistor 140 = .ok (.iload 4, 2) := by decide +kernel
theorem dX7_transistor_142 : decode cX7_transistor 142 = .ok (.invokevirtual 135, 3) := by decide +kernel
theorem dX7_transistor_145 : decode cX7_transistor 145 = .ok (.iastore, 1) := by decide +kernel
theorem dX7_transistor_146 : decode cX7_transistor 146 = .ok (.iinc 4 1, 3) := by decide +kernel
theorem dX7_transistor_149 : decode cX7_transistor 149 = .ok (.goto (-31), 3) := by decide +kernel
theorem dX7_transistor_152 : decode cX7_transistor 152 = .ok (.aload_n 0, 1) := by decide +kernel
theorem dX7_transistor_153 : decode cX7_transistor 153 = .ok (.getfield 56, 3) := by decide +kernel
theorem dX7_transistor_156 : decode cX7_transistor 156 = .ok (.iload_n 3, 1) := by decide +kernel
theorem dX7_transistor_157 : decode cX7_transistor 157 = .ok (.iconst 4, 1) := by decide +kernel
theorem dX7_transistor_158 : decode cX7_transistor 158 = .ok (.iadd, 1) := by decide +kernel
theorem dX7_transistor_159 : decode cX7_transistor 159 = .ok (.iload_n 2, 1) := by decide +kernel
theorem dX7_transistor_160 : decode cX7_transistor 160 = .ok (.iastore, 1) := by decide +kernel
theorem dX7_transistor_161 : decode cX7_transistor 161 = .ok (.aload_n 0, 1) := by decide +kernel
theorem dX7_transistor_162 : decode cX7_transistor 162 = .ok (.dup, 1) := by decide +kernel
theorem dX7_transistor_163 : decode cX7_transistor 163 = .ok (.getfield 132, 3) := by decide +kernel
theorem dX7_transistor_166 : decode cX7_transistor 166 = .ok (.iconst 1, 1) := by decide +kernel
theorem dX7_transistor_167 : decode cX7_transistor 167 = .ok (.iadd, 1) := by decide +kernel
theorem dX7_transistor_168 : decode cX7_transistor 168 = .ok (.putfield 132, 3) := by decide +kernel
theorem dX7_transistor_171 : decode cX7_transistor 171 = .ok (.return_, 1) := by decide +kernel
theorem dX7_alias_0 : decode cX7_alias 0 = .ok (.aload_n 0, 1) := by decide +kernel
theorem dX7_alias_1 : decode cX7_alias 1 = .ok (.iconst 1, 1) := by decide +kernel
theorem dX7_alias_2 : decode cX7_alias 2 = .ok (.invokevirtual 116, 3) := by decide +kernel
theorem dX7_alias_5 : decode cX7_alias 5 = .ok (.istore_n 1, 1) := by decide +kernel
theorem dX7_alias_6 : decode cX7_alias 6 = .ok (.aload_n 0, 1) := by decide +kernel
theorem dX7_alias_7 : decode cX7_alias 7 = .ok (.iload_n 1, 1) := by decide +kernel
theorem dX7_alias_8 : decode cX7_alias 8 = .ok (.ifCond .eq 29, 3) := by decide +kernel
theorem dX7_alias_11 : decode cX7_alias 11 = .ok (.aload_n 0, 1) := by decide +kernel
theorem dX7_alias_12 : decode cX7_alias 12 = .ok (.iconst 2, 1) := by decide +kernel
theorem dX7_alias_13 : decode cX7_alias 13 = .ok (.invokevirtual 116, 3) := by decide +kernel
theorem dX7_alias_16 : decode cX7_alias 16 = .ok (.ifCond .eq 21, 3) := by decide +kernel
theorem dX7_alias_19 : decode cX7_alias 19 = .ok (.iload_n 1, 1) := by decide +kernel
theorem dX7_alias_20 : decode cX7_alias 20 = .ok (.aload_n 0, 1) := by decide +kernel
theorem dX7_alias_21 : decode cX7_alias 21 = .ok (.iconst 2, 1) := by decide +kernel
theorem dX7_alias_22 : decode cX7_alias 22 = .ok (.invokevirtual 116, 3) := by decide +kernel
theorem dX7_alias_25 : decode cX7_alias 25 = .ok (.if_icmp .eq 12, 3) := by decide +kernel
theorem dX7_alias_28 : decode cX7_alias 28 = .ok (.aload_n 0, 1) := by decide +kernel
theorem dX7_alias_29 : decode cX7_alias 29 = .ok (.iload_n 1, 1) := by decide +kernel
theorem dX7_alias_30 : decode cX7_alias 30 = .ok (.invokevirtual 119, 3) := by decide +kernel
theorem dX7_alias_33 : decode cX7_alias 33 = .ok (.iconst (-1), 1) := by decide +kernel
theorem dX7_alias_34 : decode cX7_alias 34 = .ok (.if_icmp .eq 7, 3) := by decide +kernel
theorem dX7_alias_37 : decode cX7_alias 37 = .ok (.iconst 1, 1) := by decide +kernel
theorem dX7_alias_38 : decode cX7_alias 38 = .ok (.goto 4, 3) := by decide +kernel
theorem dX7_alias_41 : decode cX7_alias 41 = .ok (.iconst 0, 1) := by decide +kernel
theorem dX7_alias_42 : decode cX7_alias 42 = .ok (.putfield 112, 3) := by decide +kernel
theorem dX7_alias_45 : decode cX7_alias 45 = .ok (.aload_n 0, 1) := by decide +kernel
theorem dX7_alias_46 : decode cX7_alias 46 = .ok (.getfield 112, 3) := by decide +kernel
theorem dX7_alias_49 : decode cX7_alias 49 = .ok (.ifCond .eq 4, 3) := by decide +kernel
theorem dX7_alias_52 : decode cX7_alias 52 = .ok (.return_, 1) := by decide +kernel
theorem dX7_alias_53 : decode cX7_alias 53 = .ok (.aload_n 0, 1) := by decide +kernel
theorem dX7_alias_54 : decode cX7_alias 54 = .ok (.iconst 2, 1) := by decide +kernel
theorem dX7_alias_55 : decode cX7_alias 55 = .ok (.invokevirtual 135, 3) := by decide +kernel
theorem dX7_alias_58 : decode cX7_alias 58 = .ok (.istore_n 2, 1) := by decide +kernel
theorem dX7_alias_59 : decode cX7_alias 59 = .ok (.aload_n 0, 1) := by decide +kernel
theorem dX7_alias_60 : decode cX7_alias 60 = .ok (.getfield 112, 3) := by decide +kernel
theorem dX7_alias_63 : decode cX7_alias 63 = .ok (.ifCond .ne 9, 3) := by decide +kernel
theorem dX7_alias_66 : decode cX7_alias 66 = .ok (.aload_n 0, 1) := by decide +kernel
theorem dX7_alias_67 : decode cX7_alias 67 = .ok (.iload_n 1, 1) := by decide +kernel
theorem dX7_alias_68 : decode cX7_alias 68 = .ok (.iload_n 2, 1) := by decide +kernel
theorem dX7_alias_69 : decode cX7_alias 69 = .ok (.invokevirtual 125, 3) := by decide +kernel
theorem dX7_alias_72 : decode cX7_alias 72 = .ok (.return_, 1) := by decide +kernel
theorem dX7_line_0 : decode cX7_line 0 = .ok (.aload_n 0, 1) := by decide +kernel
theorem dX7_line_1 : decode cX7_line 1 = .ok (.iload_n 1, 1) := by decide +kernel
theorem dX7_line_2 : decode cX7_line 2 = .ok (.iload_n 2, 1) := by decide +kernel
theorem dX7_line_3 : decode cX7_line 3 = .ok (.invokevirtual 138, 3) := by decide +kernel
theorem dX7_line_6 : decode cX7_line 6 = .ok (.aload_n 0, 1) := by decide +kernel
theorem dX7_line_7 : decode cX7_line 7 = .ok (.getfield 102, 3) := by decide +kernel
theorem dX7_line_10 : decode cX7_line 10 = .ok (.ifCond .eq 14, 3) := by decide +kernel
theorem dX7_line_13 : decode cX7_line 13 = .ok (.aload_n 0, 1) := by decide +kernel
theorem dX7_line_14 : decode cX7_line 14 = .ok (.getfield 7, 3) := by decide +kernel
theorem dX7_line_17 : decode cX7_line 17 = .ok (.iload_n 1, 1) := by decide +kernel
theorem dX7_line_18 : decode cX7_line 18 = .ok (.iaload, 1) := by decide +kernel
theorem dX7_line_19 : decode cX7_line 19 = .ok (.bipush 124, 2) := by decide +kernel
theorem dX7_line_21 : decode cX7_line 21 = .ok (.if_icmp .ne 4, 3) := by decide +kernel
theorem dX7_line_24 : decode cX7_line 24 = .ok (.return_, 1) := by decide +kernel
theorem dX7_line_25 : decode cX7_line 25 = .ok (.aload_n 0, 1) := by decide +kernel
theorem dX7_line_26 : decode cX7_line 26 = .ok (.iconst 0, 1) := by decide +kernel
theorem dX7_line_27 : decode cX7_line 27 = .ok (.invokevirtual 105, 3) := by decide +kernel
theorem dX7_line_30 : decode cX7_line 30 = .ok (.istore_n 3, 1) := by decide +kernel
theorem dX7_line_31 : decode cX7_line 31 = .ok (.iload_n 3, 1) := by decide +kernel
theorem dX7_line_32 : decode cX7_line 32 = .ok (.bipush 110, 2) := by decide +kernel
theorem dX7_line_34 : decode cX7_line 34 = .ok (.if_icmp .eq 15, 3) := by decide +kernel
theorem dX7_line_37 : decode cX7_line 37 = .ok (.iload_n 3, 1) := by decide +kernel
theorem dX7_line_38 : decode cX7_line 38 = .ok (.bipush 112, 2) := by decide +kernel
theorem dX7_line_40 : decode cX7_line 40 = .ok (.if_icmp .eq 9, 3) := by decide +kernel
theorem dX7_line_43 : decode cX7_line 43 = .ok (.iload_n 3, 1) := by decide +kernel
theorem dX7_line_44 : decode cX7_line 44 = .ok (.bipush 100, 2) := by decide +kernel
theorem dX7_line_46 : decode cX7_line 46 = .ok (.if_icmp .ne 11, 3) := by decide +kernel
theorem dX7_line_49 : decode cX7_line 49 = .ok (.aload_n 0, 1) := by decide +kernel
theorem dX7_line_50 : decode cX7_line 50 = .ok (.iload_n 3, 1) := by decide +kernel
theorem dX7_line_51 : decode cX7_line 51 = .ok (.invokevirtual 141, 3) := by decide +kernel
theorem dX7_line_54 : decode cX7_line 54 = .ok (.goto 119, 3) := by decide +kernel
theorem dX7_line_57 : decode cX7_line 57 = .ok (.iload_n 3, 1) := by decide +kernel
theorem dX7_line_58 : decode cX7_line 58 = .ok (.bipush 105, 2) := by decide +kernel
theorem dX7_line_60 : decode cX7_line 60 = .ok (.if_icmp .ne 36, 3) := by decide +kernel
theorem dX7_line_63 : decode cX7_line 63 = .ok (.aload_n 0, 1) := by decide +kernel
theorem dX7_line_64 : decode cX7_line 64 = .ok (.getfield 102, 3) := by decide +kernel
theorem dX7_line_67 : decode cX7_line 67 = .ok (.iconst 2, 1) := by decide +kernel
theorem dX7_line_68 : decode cX7_line 68 = .ok (.if_icmp .ne 28, 3) := by decide +kernel
theorem dX7_line_71 : decode cX7_line 71 = .ok (.aload_n 0, 1) := by decide +kernel
theorem dX7_line_72 : decode cX7_line 72 = .ok (.iconst 1, 1) := by decide +kernel
theorem dX7_line_73 : decode cX7_line 73 = .ok (.invokevirtual 135, 3) := by decide +kernel
theorem dX7_line_76 : decode cX7_line 76 = .ok (.istore 4, 2) := by decide +kernel
theorem dX7_line_78 : decode cX7_line 78 = .ok (.aload_n 0, 1) := by decide +kernel
theorem dX7_line_79 : decode cX7_line 79 = .ok (.getfield 112, 3) := by decide +kernel
theorem dX7_line_82 : decode cX7_line 82 = .ok (.ifCond .ne 11, 3) := by decide +kernel
theorem dX7_line_85 : decode cX7_line 85 = .ok (.aload_n 0, 1) := by decide +kernel
theorem dX7_line_86 : decode cX7_line 86 = .ok (.getfield 50, 3) := by decide +kernel
theorem dX7_line_89 : decode cX7_line 89 = .ok (.iload 4, 2) := by decide +kernel
theorem dX7_line_91 : decode cX7_line 91 = .ok (.iconst 1, 1) := by decide +kernel
theorem dX7_line_92 : decode cX7_line 92 = .ok (.bastore, 1) := by decide +kernel
theorem dX7_line_93 : decode cX7_line 93 = .ok (.goto 80, 3) := by decide +kernel
theorem dX7_line_96 : decode cX7_line 96 = .ok (.iload_n 3, 1) := by decide +kernel
theorem dX7_line_97 : decode cX7_line 97 = .ok (.bipush 115, 2) := by decide +kernel
theorem dX7_line_99 : decode cX7_line 99 = .ok (.if_icmp .ne 48, 3) := by decide +kernel
theorem dX7_line_102 : decode cX7_line 102 = .ok (.aload_n 0, 1) := by decide +kernel
theorem dX7_line_103 : decode cX7_line 103 = .ok (.getfield 102, 3) := by decide +kernel
theorem dX7_line_106 : decode cX7_line 106 = .ok (.iconst 3, 1) := by decide +kernel
theorem dX7_line_107 : decode cX7_line 107 = .ok (.if_icmp .ne 40, 3) := by decide +kernel
theorem dX7_line_110 : decode cX7_line 110 = .ok (.aload_n 0, 1) := by decide +kernel
theorem dX7_line_111 : decode cX7_line 111 = .ok (.iconst 2, 1) := by decide +kernel
theorem dX7_line_112 : decode cX7_line 112 = .ok (.invokevirtual 129, 3) := by decide +kernel
theorem dX7_line_115 : decode cX7_line 115 = .ok (.ifCond .le 32, 3) := by decide +kernel
theorem dX7_line_118 : decode cX7_line 118 = .ok (.aload_n 0, 1) := by decide +kernel
theorem dX7_line_119 : decode cX7_line 119 = .ok (.iconst 1, 1) := by decide +kernel
theorem dX7_line_120 : decode cX7_line 120 = .ok (.invokevirtual 135, 3) := by decide +kernel
theorem dX7_line_123 : decode cX7_line 123 = .ok (.istore 4, 2) := by decide +kernel
theorem dX7_line_125 : decode cX7_line 125 = .ok (.aload_n 0, 1) := by decide +kernel
theorem dX7_line_126 : decode cX7_line 126 = .ok (.getfield 112, 3) := by decide +kernel
theorem dX7_line_129 : decode cX7_line 129 = .ok (.ifCond .ne 15, 3) := by decide +kernel
theorem dX7_line_132 : decode cX7_line 132 = .ok (.aload_n 0, 1) := by decide +kernel
theorem dX7_line_133 : decode cX7_line 133 = .ok (.getfield 53, 3) := by decide +kernel
theorem dX7_line_136 : decode cX7_line 136 = .ok (.iload 4, 2) := by decide +kernel
theorem dX7_line_138 : decode cX7_line 138 = .ok (.aload_n 0, 1) := by decide +kernel
theorem dX7_line_139 : decode cX7_line 139 = .ok (.iconst 2, 1) := by decide +kernel
theorem dX7_line_140 : decode cX7_line 140 = .ok (.invokevirtual 129, 3) := by decide +kernel
theorem dX7_line_143 : decode cX7_line 143 = .ok (.iastore, 1) := by decide +kernel
theorem dX7_line_144 : decode cX7_line 144 = .ok (.goto 29, 3) := by decide +kernel
theorem dX7_line_147 : decode cX7_line 147 = .ok (.iload_n 3, 1) := by decide +kernel
theorem dX7_line_148 : decode cX7_line 148 = .ok (.bipush 61, 2) := by decide +kernel
theorem dX7_line_150 : decode cX7_line 150 = .ok (.if_icmp .ne 18, 3) := by decide +kernel
theorem dX7_line_153 : decode cX7_line 153 = .ok (.aload_n 0, 1) := by decide +kernel
theorem dX7_line_154 : decode cX7_line 154 = .ok (.getfield 102, 3) := by decide +kernel
theorem dX7_line_157 : decode cX7_line 157 = .ok (.iconst 3, 1) := by decide +kernel
theorem dX7_line_158 : decode cX7_line 158 = .ok (.if_icmp .ne 10, 3) := by decide +kernel
theorem dX7_line_161 : decode cX7_line 161 = .ok (.aload_n 0, 1) := by decide +kernel
theorem dX7_line_162 : decode cX7_line 162 = .ok (.invokevirtual 145, 3) := by decide +kernel
theorem dX7_line_165 : decode cX7_line 165 = .ok (.goto 8, 3) := by decide +kernel
theorem dX7_line_168 : decode cX7_line 168 = .ok (.aload_n 0, 1) := by decide +kernel
theorem dX7_line_169 : decode cX7_line 169 = .ok (.iconst 1, 1) := by decide +kernel
theorem dX7_line_170 : decode cX7_line 170 = .ok (.putfield 112, 3) := by decide +kernel
theorem dX7_line_173 : decode cX7_line 173 = .ok (.return_, 1) := by decide +kernel
theorem dX7_load_0 : decode cX7_load 0 = .ok (.aload_n 0, 1) := by decide +kernel
theorem dX7_load_1 : decode cX7_load 1 = .ok (.iconst 0, 1) := by decide +kernel
theorem dX7_load_2 : decode cX7_load 2 = .ok (.putfield 122, 3) := by decide +kernel
theorem dX7_load_5 : decode cX7_load 5 = .ok (.aload_n 0, 1) := by decide +kernel
theorem dX7_load_6 : decode cX7_load 6 = .ok (.iconst 0, 1) := by decide +kernel
theorem dX7_load_7 : decode cX7_load 7 = .ok (.putfield 132, 3) := by decide +kernel
theorem dX7_load_10 : decode cX7_load 10 = .ok (.aload_n 0, 1) := by decide +kernel
theorem dX7_load_11 : decode cX7_load 11 = .ok (.iconst 0, 1) := by decide +kernel
theorem dX7_load_12 : decode cX7_load 12 = .ok (.putfield 109, 3) := by decide +kernel
theorem dX7_load_15 : decode cX7_load 15 = .ok (.aload_n 0, 1) := by decide +kernel
theorem dX7_load_16 : decode cX7_load 16 = .ok (.iconst 0, 1) := by decide +kernel
theorem dX7_load_17 : decode cX7_load 17 = .ok (.putfield 112, 3) := by decide +kernel
theorem dX7_load_20 : decode cX7_load 20 = .ok (.iconst 0, 1) := by decide +kernel
theorem dX7_load_21 : decode cX7_load 21 = .ok (.istore_n 1, 1) := by decide +kernel
theorem dX7_load_22 : decode cX7_load 22 = .ok (.iconst 0, 1) := by decide +kernel
theorem dX7_load_23 : decode cX7_load 23 = .ok (.istore_n 2, 1) := by decide +kernel
theorem dX7_load_24 : decode cX7_load 24 = .ok (.iconst 0, 1) := by decide +kernel
theorem dX7_load_25 : decode cX7_load 25 = .ok (.istore_n 3, 1) := by decide +kernel
theorem dX7_load_26 : decode cX7_load 26 = .ok (.iload_n 3, 1) := by decide +kernel
theorem dX7_load_27 : decode cX7_load 27 = .ok (.aload_n 0, 1) := by decide +kernel
theorem dX7_load_28 : decode cX7_load 28 = .ok (.getfield 99, 3) := by decide +kernel
theorem dX7_load_31 : decode cX7_load 31 = .ok (.if_icmp .gt 51, 3) := by decide +kernel
theorem dX7_load_34 : decode cX7_load 34 = .ok (.iload_n 3, 1) := by decide +kernel
theorem dX7_load_35 : decode cX7_load 35 = .ok (.aload_n 0, 1) := by decide +kernel
theorem dX7_load_36 : decode cX7_load 36 = .ok (.getfield 99, 3) := by decide +kernel
theorem dX7_load_39 : decode cX7_load 39 = .ok (.if_icmp .eq 14, 3) := by decide +kernel
theorem dX7_load_42 : decode cX7_load 42 = .ok (.aload_n 0, 1) := by decide +kernel
theorem dX7_load_43 : decode cX7_load 43 = .ok (.getfield 7, 3) := by decide +kernel
theorem dX7_load_46 : decode cX7_load 46 = .ok (.iload_n 3, 1) := by decide +kernel
theorem dX7_load_47 : decode cX7_load 47 = .ok (.iaload, 1) := by decide +kernel
theorem dX7_load_48 : decode cX7_load 48 = .ok (.bipush 10, 2) := by decide +kernel
theorem dX7_load_50 : decode cX7_load 50 = .ok (.if_icmp .ne 26, 3) := by decide +kernel
theorem dX7_load_53 : decode cX7_load 53 = .ok (.iinc 2 1, 3) := by decide +kernel
theorem dX7_load_56 : decode cX7_load 56 = .ok (.aload_n 0, 1) := by decide +kernel
theorem dX7_load_57 : decode cX7_load 57 = .ok (.iload_n 1, 1) := by decide +kernel
theorem dX7_load_58 : decode cX7_load 58 = .ok (.iload_n 3, 1) := by decide +kernel
theorem dX7_load_59 : decode cX7_load 59 = .ok (.invokevirtual 148, 3) := by decide +kernel
theorem dX7_load_62 : decode cX7_load 62 = .ok (.aload_n 0, 1) := by decide +kernel
theorem dX7_load_63 : decode cX7_load 63 = .ok (.getfield 112, 3) := by decide +kernel
theorem dX7_load_66 : decode cX7_load 66 = .ok (.ifCond .eq 6, 3) := by decide +kernel
theorem dX7_load_69 : decode cX7_load 69 = .ok (.iload_n 2, 1) := by decide +kernel
theorem dX7_load_70 : decode cX7_load 70 = .ok (.ineg, 1) := by decide +kernel
theorem dX7_load_71 : decode cX7_load 71 = .ok (.ireturn, 1) := by decide +kernel
theorem dX7_load_72 : decode cX7_load 72 = .ok (.iload_n 3, 1) := by decide +kernel
theorem dX7_load_73 : decode cX7_load 73 = .ok (.iconst 1, 1) := by decide +kernel
theorem dX7_load_74 : decode cX7_load 74 = .ok (.iadd, 1) := by decide +kernel
theorem dX7_load_75 : decode cX7_load 75 = .ok (.istore_n 1, 1) := by decide +kernel
theorem dX7_load_76 : decode cX7_load 76 = .ok (.iinc 3 1, 3) := by decide +kernel
theorem dX7_load_79 : decode cX7_load 79 = .ok (.goto (-53), 3) := by decide +kernel
theorem dX7_load_82 : decode cX7_load 82 = .ok (.aload_n 0, 1) := by decide +kernel
theorem dX7_load_83 : decode cX7_load 83 = .ok (.invokevirtual 151, 3) := by decide +kernel
theorem dX7_load_86 : decode cX7_load 86 = .ok (.aload_n 0, 1) := by decide +kernel
theorem dX7_load_87 : decode cX7_load 87 = .ok (.getfield 154, 3) := by decide +kernel
theorem dX7_load_90 : decode cX7_load 90 = .ok (.ireturn, 1) := by decide +kernel
theorem dX7_take_0 : decode cX7_take 0 = .ok (.aload_n 0, 1) := by decide +kernel
theorem dX7_take_1 : decode cX7_take 1 = .ok (.aload_n 0, 1) := by decide +kernel
theorem dX7_take_2 : decode cX7_take 2 = .ok (.getfield 122, 3) := by decide +kernel
theorem dX7_take_5 : decode cX7_take 5 = .ok (.putfield 157, 3) := by decide +kernel
theorem dX7_take_8 : decode cX7_take 8 = .ok (.iconst 0, 1) := by decide +kernel
theorem dX7_take_9 : decode cX7_take 9 = .ok (.istore_n 1, 1) := by decide +kernel
theorem dX7_take_10 : decode cX7_take 10 = .ok (.iload_n 1, 1) := by decide +kernel
theorem dX7_take_11 : decode cX7_take 11 = .ok (.aload_n 0, 1) := by decide +kernel
theorem dX7_take_12 : decode cX7_take 12 = .ok (.getfield 157, 3) := by decide +kernel
theorem dX7_take_15 : decode cX7_take 15 = .ok (.if_icmp .ge 47, 3) := by decide +kernel
theorem dX7_take_18 : decode cX7_take 18 = .ok (.aload_n 0, 1) := by decide +kernel
theorem dX7_take_19 : decode cX7_take 19 = .ok (.getfield 13, 3) := by decide +kernel
theorem dX7_take_22 : decode cX7_take 22 = .ok (.iload_n 1, 1) := by decide +kernel
theorem dX7_take_23 : decode cX7_take 23 = .ok (.aload_n 0, 1) := by decide +kernel
theorem dX7_take_24 : decode cX7_take 24 = .ok (.getfield 50, 3) := by decide +kernel
theorem dX7_take_27 : decode cX7_take 27 = .ok (.iload_n 1, 1) := by decide +kernel
theorem dX7_take_28 : decode cX7_take 28 = .ok (.baload, 1) := by decide +kernel
theorem dX7_take_29 : decode cX7_take 29 = .ok (.bastore, 1) := by decide +kernel
theorem dX7_take_30 : decode cX7_take 30 = .ok (.aload_n 0, 1) := by decide +kernel
theorem dX7_take_31 : decode cX7_take 31 = .ok (.getfield 17, 3) := by decide +kernel
theorem dX7_take_34 : decode cX7_take 34 = .ok (.iload_n 1, 1) := by decide +kernel
theorem dX7_take_35 : decode cX7_take 35 = .ok (.aload_n 0, 1) := by decide +kernel
theorem dX7_take_36 : decode cX7_take 36 = .ok (.getfield 53, 3) := by decide +kernel
theorem dX7_take_39 : decode cX7_take 39 = .ok (.iload_n 1, 1) := by decide +kernel
theorem dX7_take_40 : decode cX7_take 40 = .ok (.iaload, 1) := by decide +kernel
theorem dX7_take_41 : decode cX7_take 41 = .ok (.iastore, 1) := by decide +kernel
theorem dX7_take_42 : decode cX7_take 42 = .ok (.aload_n 0, 1) := by decide +kernel
theorem dX7_take_43 : decode cX7_take 43 = .ok (.getfield 20, 3) := by decide +kernel
theorem dX7_take_46 : decode cX7_take 46 = .ok (.iload_n 1, 1) := by decide +kernel
theorem dX7_take_47 : decode cX7_take 47 = .ok (.iconst 2, 1) := by decide +kernel
theorem dX7_take_48 : decode cX7_take 48 = .ok (.iastore, 1) := by decide +kernel
theorem dX7_take_49 : decode cX7_take 49 = .ok (.aload_n 0, 1) := by decide +kernel
theorem dX7_take_50 : decode cX7_take 50 = .ok (.getfield 23, 3) := by decide +kernel
theorem dX7_take_53 : decode cX7_take 53 = .ok (.iload_n 1, 1) := by decide +kernel
theorem dX7_take_54 : decode cX7_take 54 = .ok (.iconst 0, 1) := by decide +kernel
theorem dX7_take_55 : decode cX7_take 55 = .ok (.bastore, 1) := by decide +kernel
theorem dX7_take_56 : decode cX7_take 56 = .ok (.iinc 1 1, 3) := by decide +kernel
theorem dX7_take_59 : decode cX7_take 59 = .ok (.goto (-49), 3) := by decide +kernel
theorem dX7_take_62 : decode cX7_take 62 = .ok (.aload_n 0, 1) := by decide +kernel
theorem dX7_take_63 : decode cX7_take 63 = .ok (.aload_n 0, 1) := by decide +kernel
theorem dX7_take_64 : decode cX7_take 64 = .ok (.getfield 132, 3) := by decide +kernel
theorem dX7_take_67 : decode cX7_take 67 = .ok (.putfield 154, 3) := by decide +kernel
theorem dX7_take_70 : decode cX7_take 70 = .ok (.iconst 0, 1) := by decide +kernel
theorem dX7_take_71 : decode cX7_take 71 = .ok (.istore_n 1, 1) := by decide +kernel
theorem dX7_take_72 : decode cX7_take 72 = .ok (.iload_n 1, 1) := by decide +kernel
theorem dX7_take_73 : decode cX7_take 73 = .ok (.aload_n 0, 1) := by decide +kernel
theorem dX7_take_74 : decode cX7_take 74 = .ok (.getfield 154, 3) := by decide +kernel
theorem dX7_take_77 : decode cX7_take 77 = .ok (.if_icmp .ge 94, 3) := by decide +kernel
theorem dX7_take_80 : decode cX7_take 80 = .ok (.aload_n 0, 1) := by decide +kernel
theorem dX7_take_81 : decode cX7_take 81 = .ok (.getfield 26, 3) := by decide +kernel
theorem dX7_take_84 : decode cX7_take 84 = .ok (.iload_n 1, 1) := by decide +kernel
theorem dX7_take_85 : decode cX7_take 85 = .ok (.aload_n 0, 1) := by decide +kernel
theorem dX7_take_86 : decode cX7_take 86 = .ok (.getfield 56, 3) := by decide +kernel
theorem dX7_take_89 : decode cX7_take 89 = .ok (.iconst 5, 1) := by decide +kernel
theorem dX7_take_90 : decode cX7_take 90 = .ok (.iload_n 1, 1) := by decide +kernel
theorem dX7_take_91 : decode cX7_take 91 = .ok (.imul, 1) := by decide +kernel
theorem dX7_take_92 : decode cX7_take 92 = .ok (.iaload, 1) := by decide +kernel
theorem dX7_take_93 : decode cX7_take 93 = .ok (.iastore, 1) := by decide +kernel
theorem dX7_take_94 : decode cX7_take 94 = .ok (.aload_n 0, 1) := by decide +kernel
theorem dX7_take_95 : decode cX7_take 95 = .ok (.getfield 29, 3) := by decide +kernel
theorem dX7_take_98 : decode cX7_take 98 = .ok (.iload_n 1, 1) := by decide +kernel
theorem dX7_take_99 : decode cX7_take 99 = .ok (.aload_n 0, 1) := by decide +kernel
theorem dX7_take_100 : decode cX7_take 100 = .ok (.getfield 56, 3) := by decide +kernel
theorem dX7_take_103 : decode cX7_take 103 = .ok (.iconst 5, 1) := by decide +kernel
theorem dX7_take_104 : decode cX7_take 104 = .ok (.iload_n 1, 1) := by decide +kernel
theorem dX7_take_105 : decode cX7_take 105 = .ok (.imul, 1) := by decide +kernel
theorem dX7_take_106 : decode cX7_take 106 = .ok (.iconst 1, 1) := by decide +kernel
theorem dX7_take_107 : decode cX7_take 107 = .ok (.iadd, 1) := by decide +kernel
theorem dX7_take_108 : decode cX7_take 108 = .ok (.iaload, 1) := by decide +kernel
theorem dX7_take_109 : decode cX7_take 109 = .ok (.iastore, 1) := by decide +kernel
theorem dX7_take_110 : decode cX7_take 110 = .ok (.aload_n 0, 1) := by decide +kernel
theorem dX7_take_111 : decode cX7_take 111 = .ok (.getfield 32, 3) := by decide +kernel
theorem dX7_take_114 : decode cX7_take 114 = .ok (.iload_n 1, 1) := by decide +kernel
theorem dX7_take_115 : decode cX7_take 115 = .ok (.aload_n 0, 1) := by decide +kernel
theorem dX7_take_116 : decode cX7_take 116 = .ok (.getfield 56, 3) := by decide +kernel
theorem dX7_take_119 : decode cX7_take 119 = .ok (.iconst 5, 1) := by decide +kernel
theorem dX7_take_120 : decode cX7_take 120 = .ok (.iload_n 1, 1) := by decide +kernel
theorem dX7_take_121 : decode cX7_take 121 = .ok (.imul, 1) := by decide +kernel
theorem dX7_take_122 : decode cX7_take 122 = .ok (.iconst 2, 1) := by decide +kernel
theorem dX7_take_123 : decode cX7_take 123 = .ok (.iadd, 1) := by decide +kernel
theorem dX7_take_124 : decode cX7_take 124 = .ok (.iaload, 1) := by decide +kernel
theorem dX7_take_125 : decode cX7_take 125 = .ok (.iastore, 1) := by decide +kernel
theorem dX7_take_126 : decode cX7_take 126 = .ok (.aload_n 0, 1) := by decide +kernel
theorem dX7_take_127 : decode cX7_take 127 = .ok (.getfield 35, 3) := by decide +kernel
theorem dX7_take_130 : decode cX7_take 130 = .ok (.iload_n 1, 1) := by decide +kernel
theorem dX7_take_131 : decode cX7_take 131 = .ok (.aload_n 0, 1) := by decide +kernel
theorem dX7_take_132 : decode cX7_take 132 = .ok (.getfield 56, 3) := by decide +kernel
theorem dX7_take_135 : decode cX7_take 135 = .ok (.iconst 5, 1) := by decide +kernel
theorem dX7_take_136 : decode cX7_take 136 = .ok (.iload_n 1, 1) := by decide +kernel
theorem dX7_take_137 : decode cX7_take 137 = .ok (.imul, 1) := by decide +kernel
theorem dX7_take_138 : decode cX7_take 138 = .ok (.iconst 3, 1) := by decide +kernel
theorem dX7_take_139 : decode cX7_take 139 = .ok (.iadd, 1) := by decide +kernel
theorem dX7_take_140 : decode cX7_take 140 = .ok (.iaload, 1) := by decide +kernel
theorem dX7_take_141 : decode cX7_take 141 = .ok (.iastore, 1) := by decide +kernel
theorem dX7_take_142 : decode cX7_take 142 = .ok (.aload_n 0, 1) := by decide +kernel
theorem dX7_take_143 : decode cX7_take 143 = .ok (.getfield 38, 3) := by decide +kernel
theorem dX7_take_146 : decode cX7_take 146 = .ok (.iload_n 1, 1) := by decide +kernel
theorem dX7_take_147 : decode cX7_take 147 = .ok (.aload_n 0, 1) := by decide +kernel
theorem dX7_take_148 : decode cX7_take 148 = .ok (.getfield 56, 3) := by decide +kernel
theorem dX7_take_151 : decode cX7_take 151 = .ok (.iconst 5, 1) := by decide +kernel
theorem dX7_take_152 : decode cX7_take 152 = .ok (.iload_n 1, 1) := by decide +kernel
theorem dX7_take_153 : decode cX7_take 153 = .ok (.imul, 1) := by decide +kernel
theorem dX7_take_154 : decode cX7_take 154 = .ok (.iconst 4, 1) := by decide +kernel
theorem dX7_take_155 : decode cX7_take 155 = .ok (.iadd, 1) := by decide +kernel
theorem dX7_take_156 : decode cX7_take 156 = .ok (.iaload, 1) := by decide +kernel
theorem dX7_take_157 : decode cX7_take 157 = .ok (.iastore, 1) := by decide +kernel
theorem dX7_take_158 : decode cX7_take 158 = .ok (.aload_n 0, 1) := by decide +kernel
theorem dX7_take_159 : decode cX7_take 159 = .ok (.getfield 41, 3) := by decide +kernel
theorem dX7_take_162 : decode cX7_take 162 = .ok (.iload_n 1, 1) := by decide +kernel
theorem dX7_take_163 : decode cX7_take 163 = .ok (.iconst 3, 1) := by decide +kernel
theorem dX7_take_164 : decode cX7_take 164 = .ok (.iastore, 1) := by decide +kernel
theorem dX7_take_165 : decode cX7_take 165 = .ok (.iinc 1 1, 3) := by decide +kernel
theorem dX7_take_168 : decode cX7_take 168 = .ok (.goto (-96), 3) := by decide +kernel
theorem dX7_take_171 : decode cX7_take 171 = .ok (.aload_n 0, 1) := by decide +kernel
theorem dX7_take_172 : decode cX7_take 172 = .ok (.aload_n 0, 1) := by decide +kernel
theorem dX7_take_173 : decode cX7_take 173 = .ok (.getfield 109, 3) := by decide +kernel
theorem dX7_take_176 : decode cX7_take 176 = .ok (.putfield 160, 3) := by decide +kernel
theorem dX7_take_179 : decode cX7_take 179 = .ok (.iconst 0, 1) := by decide +kernel
theorem dX7_take_180 : decode cX7_take 180 = .ok (.istore_n 1, 1) := by decide +kernel
theorem dX7_take_181 : decode cX7_take 181 = .ok (.iload_n 1, 1) := by decide +kernel
theorem dX7_take_182 : decode cX7_take 182 = .ok (.aload_n 0, 1) := by decide +kernel
theorem dX7_take_183 : decode cX7_take 183 = .ok (.getfield 160, 3) := by decide +kernel
theorem dX7_take_186 : decode cX7_take 186 = .ok (.if_icmp .ge 33, 3) := by decide +kernel
theorem dX7_take_189 : decode cX7_take 189 = .ok (.aload_n 0, 1) := by decide +kernel
theorem dX7_take_190 : decode cX7_take 190 = .ok (.getfield 44, 3) := by decide +kernel
theorem dX7_take_193 : decode cX7_take 193 = .ok (.iload_n 1, 1) := by decide +kernel
theorem dX7_take_194 : decode cX7_take 194 = .ok (.aload_n 0, 1) := by decide +kernel
theorem dX7_take_195 : decode cX7_take 195 = .ok (.getfield 59, 3) := by decide +kernel
theorem dX7_take_198 : decode cX7_take 198 = .ok (.iload_n 1, 1) := by decide +kernel
theorem dX7_take_199 : decode cX7_take 199 = .ok (.iaload, 1) := by decide +kernel
theorem dX7_take_200 : decode cX7_take 200 = .ok (.iastore, 1) := by decide +kernel
theorem dX7_take_201 : decode cX7_take 201 = .ok (.aload_n 0, 1) := by decide +kernel
theorem dX7_take_202 : decode cX7_take 202 = .ok (.getfield 47, 3) := by decide +kernel
theorem dX7_take_205 : decode cX7_take 205 = .ok (.iload_n 1, 1) := by decide +kernel
theorem dX7_take_206 : decode cX7_take 206 = .ok (.aload_n 0, 1) := by decide +kernel
theorem dX7_take_207 : decode cX7_take 207 = .ok (.getfield 62, 3) := by decide +kernel
theorem dX7_take_210 : decode cX7_take 210 = .ok (.iload_n 1, 1) := by decide +kernel
theorem dX7_take_211 : decode cX7_take 211 = .ok (.iaload, 1) := by decide +kernel
theorem dX7_take_212 : decode cX7_take 212 = .ok (.iastore, 1) := by decide +kernel
theorem dX7_take_213 : decode cX7_take 213 = .ok (.iinc 1 1, 3) := by decide +kernel
theorem dX7_take_216 : decode cX7_take 216 = .ok (.goto (-35), 3) := by decide +kernel
theorem dX7_take_219 : decode cX7_take 219 = .ok (.aload_n 0, 1) := by decide +kernel
theorem dX7_take_220 : decode cX7_take 220 = .ok (.iconst 0, 1) := by decide +kernel
theorem dX7_take_221 : decode cX7_take 221 = .ok (.putfield 163, 3) := by decide +kernel
theorem dX7_take_224 : decode cX7_take 224 = .ok (.aload_n 0, 1) := by decide +kernel
theorem dX7_take_225 : decode cX7_take 225 = .ok (.iconst 0, 1) := by decide +kernel
theorem dX7_take_226 : decode cX7_take 226 = .ok (.putfield 166, 3) := by decide +kernel
theorem dX7_take_229 : decode cX7_take 229 = .ok (.return_, 1) := by decide +kernel
theorem dX7_nodes_0 : decode cX7_nodes 0 = .ok (.aload_n 0, 1) := by decide +kernel
theorem dX7_nodes_1 : decode cX7_nodes 1 = .ok (.getfield 157, 3) := by decide +kernel
theorem dX7_nodes_4 : decode cX7_nodes 4 = .ok (.ireturn, 1) := by decide +kernel
theorem dX7_node_0 : decode cX7_node 0 = .ok (.iconst 0, 1) := by decide +kernel
theorem dX7_node_1 : decode cX7_node 1 = .ok (.istore_n 3, 1) := by decide +kernel
theorem dX7_node_2 : decode cX7_node 2 = .ok (.iload_n 3, 1) := by decide +kernel
theorem dX7_node_3 : decode cX7_node 3 = .ok (.aload_n 0, 1) := by decide +kernel
theorem dX7_node_4 : decode cX7_node 4 = .ok (.getfield 160, 3) := by decide +kernel
theorem dX7_node_7 : decode cX7_node 7 = .ok (.if_icmp .ge 28, 3) := by decide +kernel
theorem dX7_node_10 : decode cX7_node 10 = .ok (.aload_n 0, 1) := by decide +kernel
theorem dX7_node_11 : decode cX7_node 11 = .ok (.getfield 44, 3) := by decide +kernel
theorem dX7_node_14 : decode cX7_node 14 = .ok (.iload_n 3, 1) := by decide +kernel
theorem dX7_node_15 : decode cX7_node 15 = .ok (.iaload, 1) := by decide +kernel
theorem dX7_node_16 : decode cX7_node 16 = .ok (.i2l, 1) := by decide +kernel
theorem dX7_node_17 : decode cX7_node 17 = .ok (.lload_n 1, 1) := by decide +kernel
theorem dX7_node_18 : decode cX7_node 18 = .ok (.lcmp, 1) := by decide +kernel
theorem dX7_node_19 : decode cX7_node 19 = .ok (.ifCond .ne 10, 3) := by decide +kernel
theorem dX7_node_22 : decode cX7_node 22 = .ok (.aload_n 0, 1) := by decide +kernel
theorem dX7_node_23 : decode cX7_node 23 = .ok (.getfield 47, 3) := by decide +kernel
theorem dX7_node_26 : decode cX7_node 26 = .ok (.iload_n 3, 1) := by decide +kernel
theorem dX7_node_27 : decode cX7_node 27 = .ok (.iaload, 1) := by decide +kernel
theorem dX7_node_28 : decode cX7_node 28 = .ok (.ireturn, 1) := by decide +kernel
theorem dX7_node_29 : decode cX7_node 29 = .ok (.iinc 3 1, 3) := by decide +kernel
theorem dX7_node_32 : decode cX7_node 32 = .ok (.goto (-30), 3) := by decide +kernel
theorem dX7_node_35 : decode cX7_node 35 = .ok (.iconst (-1), 1) := by decide +kernel
theorem dX7_node_36 : decode cX7_node 36 = .ok (.ireturn, 1) := by decide +kernel
theorem dX7_isNode_0 : decode cX7_isNode 0 = .ok (.iload_n 1, 1) := by decide +kernel
theorem dX7_isNode_1 : decode cX7_isNode 1 = .ok (.ifCond .lt 15, 3) := by decide +kernel
theorem dX7_isNode_4 : decode cX7_isNode 4 = .ok (.iload_n 1, 1) := by decide +kernel
theorem dX7_isNode_5 : decode cX7_isNode 5 = .ok (.aload_n 0, 1) := by decide +kernel
theorem dX7_isNode_6 : decode cX7_isNode 6 = .ok (.getfield 157, 3) := by decide +kernel
theorem dX7_isNode_9 : decode cX7_isNode 9 = .ok (.if_icmp .ge 7, 3) := by decide +kernel
theorem dX7_isNode_12 : decode cX7_isNode 12 = .ok (.iconst 1, 1) := by decide +kernel
theorem dX7_isNode_13 : decode cX7_isNode 13 = .ok (.goto 4, 3) := by decide +kernel
theorem dX7_isNode_16 : decode cX7_isNode 16 = .ok (.iconst 0, 1) := by decide +kernel
theorem dX7_isNode_17 : decode cX7_isNode 17 = .ok (.ireturn, 1) := by decide +kernel
theorem dX7_isTransistor_0 : decode cX7_isTransistor 0 = .ok (.iload_n 1, 1) := by decide +kernel
theorem dX7_isTransistor_1 : decode cX7_isTransistor 1 = .ok (.ifCond .lt 15, 3) := by decide +kernel
theorem dX7_isTransistor_4 : decode cX7_isTransistor 4 = .ok (.iload_n 1, 1) := by decide +kernel
theorem dX7_isTransistor_5 : decode cX7_isTransistor 5 = .ok (.aload_n 0, 1) := by decide +kernel
theorem dX7_isTransistor_6 : decode cX7_isTransistor 6 = .ok (.getfield 154, 3) := by decide +kernel
theorem dX7_isTransistor_9 : decode cX7_isTransistor 9 = .ok (.if_icmp .ge 7, 3) := by decide +kernel
theorem dX7_isTransistor_12 : decode cX7_isTransistor 12 = .ok (.iconst 1, 1) := by decide +kernel
theorem dX7_isTransistor_13 : decode cX7_isTransistor 13 = .ok (.goto 4, 3) := by decide +kernel
theorem dX7_isTransistor_16 : decode cX7_isTransistor 16 = .ok (.iconst 0, 1) := by decide +kernel
theorem dX7_isTransistor_17 : decode cX7_isTransistor 17 = .ok (.ireturn, 1) := by decide +kernel
theorem dX7_led_0 : decode cX7_led 0 = .ok (.aload_n 0, 1) := by decide +kernel
theorem dX7_led_1 : decode cX7_led 1 = .ok (.getfield 13, 3) := by decide +kernel
theorem dX7_led_4 : decode cX7_led 4 = .ok (.iload_n 1, 1) := by decide +kernel
theorem dX7_led_5 : decode cX7_led 5 = .ok (.baload, 1) := by decide +kernel
theorem dX7_led_6 : decode cX7_led 6 = .ok (.ifCond .ne 12, 3) := by decide +kernel
theorem dX7_led_9 : decode cX7_led 9 = .ok (.aload_n 0, 1) := by decide +kernel
theorem dX7_led_10 : decode cX7_led 10 = .ok (.getfield 23, 3) := by decide +kernel
theorem dX7_led_13 : decode cX7_led 13 = .ok (.iload_n 1, 1) := by decide +kernel
theorem dX7_led_14 : decode cX7_led 14 = .ok (.baload, 1) := by decide +kernel
theorem dX7_led_15 : decode cX7_led 15 = .ok (.ifCond .eq 7, 3) := by decide +kernel
theorem dX7_led_18 : decode cX7_led 18 = .ok (.iconst 1, 1) := by decide +kernel
theorem dX7_led_19 : decode cX7_led 19 = .ok (.goto 4, 3) := by decide +kernel
theorem dX7_led_22 : decode cX7_led 22 = .ok (.iconst 0, 1) := by decide +kernel
theorem dX7_led_23 : decode cX7_led 23 = .ok (.ireturn, 1) := by decide +kernel
theorem dX7_set_0 : decode cX7_set 0 = .ok (.aload_n 0, 1) := by decide +kernel
theorem dX7_set_1 : decode cX7_set 1 = .ok (.iload_n 1, 1) := by decide +kernel
theorem dX7_set_2 : decode cX7_set 2 = .ok (.invokevirtual 169, 3) := by decide +kernel
theorem dX7_set_5 : decode cX7_set 5 = .ok (.ifCond .eq 21, 3) := by decide +kernel
theorem dX7_set_8 : decode cX7_set 8 = .ok (.aload_n 0, 1) := by decide +kernel
theorem dX7_set_9 : decode cX7_set 9 = .ok (.getfield 23, 3) := by decide +kernel
theorem dX7_set_12 : decode cX7_set 12 = .ok (.iload_n 1, 1) := by decide +kernel
theorem dX7_set_13 : decode cX7_set 13 = .ok (.baload, 1) := by decide +kernel
theorem dX7_set_14 : decode cX7_set 14 = .ok (.ifCond .ne 12, 3) := by decide +kernel
theorem dX7_set_17 : decode cX7_set 17 = .ok (.iload_n 2, 1) := by decide +kernel
theorem dX7_set_18 : decode cX7_set 18 = .ok (.ifCond .lt 8, 3) := by decide +kernel
theorem dX7_set_21 : decode cX7_set 21 = .ok (.iload_n 2, 1) := by decide +kernel
theorem dX7_set_22 : decode cX7_set 22 = .ok (.iconst 2, 1) := by decide +kernel
theorem dX7_set_23 : decode cX7_set 23 = .ok (.if_icmp .le 5, 3) := by decide +kernel
theorem dX7_set_26 : decode cX7_set 26 = .ok (.iconst 0, 1) := by decide +kernel
theorem dX7_set_27 : decode cX7_set 27 = .ok (.ireturn, 1) := by decide +kernel
theorem dX7_set_28 : decode cX7_set 28 = .ok (.aload_n 0, 1) := by decide +kernel
theorem dX7_set_29 : decode cX7_set 29 = .ok (.getfield 20, 3) := by decide +kernel
theorem dX7_set_32 : decode cX7_set 32 = .ok (.iload_n 1, 1) := by decide +kernel
theorem dX7_set_33 : decode cX7_set 33 = .ok (.iload_n 2, 1) := by decide +kernel
theorem dX7_set_34 : decode cX7_set 34 = .ok (.iastore, 1) := by decide +kernel
theorem dX7_set_35 : decode cX7_set 35 = .ok (.iconst 1, 1) := by decide +kernel
theorem dX7_set_36 : decode cX7_set 36 = .ok (.ireturn, 1) := by decide +kernel
theorem dX7_stick_0 : decode cX7_stick 0 = .ok (.aload_n 0, 1) := by decide +kernel
theorem dX7_stick_1 : decode cX7_stick 1 = .ok (.iload_n 1, 1) := by decide +kernel
theorem dX7_stick_2 : decode cX7_stick 2 = .ok (.invokevirtual 169, 3) := by decide +kernel
theorem dX7_stick_5 : decode cX7_stick 5 = .ok (.ifCond .eq 21, 3) := by decide +kernel
theorem dX7_stick_8 : decode cX7_stick 8 = .ok (.aload_n 0, 1) := by decide +kernel
theorem dX7_stick_9 : decode cX7_stick 9 = .ok (.getfield 13, 3) := by decide +kernel
theorem dX7_stick_12 : decode cX7_stick 12 = .ok (.iload_n 1, 1) := by decide +kernel
theorem dX7_stick_13 : decode cX7_stick 13 = .ok (.baload, 1) := by decide +kernel
theorem dX7_stick_14 : decode cX7_stick 14 = .ok (.ifCond .ne 12, 3) := by decide +kernel
theorem dX7_stick_17 : decode cX7_stick 17 = .ok (.iload_n 2, 1) := by decide +kernel
theorem dX7_stick_18 : decode cX7_stick 18 = .ok (.ifCond .lt 8, 3) := by decide +kernel
theorem dX7_stick_21 : decode cX7_stick 21 = .ok (.iload_n 2, 1) := by decide +kernel
theorem dX7_stick_22 : decode cX7_stick 22 = .ok (.iconst 2, 1) := by decide +kernel
theorem dX7_stick_23 : decode cX7_stick 23 = .ok (.if_icmp .le 5, 3) := by decide +kernel
theorem dX7_stick_26 : decode cX7_stick 26 = .ok (.iconst 0, 1) := by decide +kernel
theorem dX7_stick_27 : decode cX7_stick 27 = .ok (.ireturn, 1) := by decide +kernel
theorem dX7_stick_28 : decode cX7_stick 28 = .ok (.aload_n 0, 1) := by decide +kernel
theorem dX7_stick_29 : decode cX7_stick 29 = .ok (.getfield 23, 3) := by decide +kernel
theorem dX7_stick_32 : decode cX7_stick 32 = .ok (.iload_n 1, 1) := by decide +kernel
theorem dX7_stick_33 : decode cX7_stick 33 = .ok (.iconst 1, 1) := by decide +kernel
theorem dX7_stick_34 : decode cX7_stick 34 = .ok (.bastore, 1) := by decide +kernel
theorem dX7_stick_35 : decode cX7_stick 35 = .ok (.aload_n 0, 1) := by decide +kernel
theorem dX7_stick_36 : decode cX7_stick 36 = .ok (.getfield 20, 3) := by decide +kernel
theorem dX7_stick_39 : decode cX7_stick 39 = .ok (.iload_n 1, 1) := by decide +kernel
theorem dX7_stick_40 : decode cX7_stick 40 = .ok (.iload_n 2, 1) := by decide +kernel
theorem dX7_stick_41 : decode cX7_stick 41 = .ok (.iastore, 1) := by decide +kernel
theorem dX7_stick_42 : decode cX7_stick 42 = .ok (.iconst 1, 1) := by decide +kernel
theorem dX7_stick_43 : decode cX7_stick 43 = .ok (.ireturn, 1) := by decide +kernel
theorem dX7_free_0 : decode cX7_free 0 = .ok (.aload_n 0, 1) := by decide +kernel
theorem dX7_free_1 : decode cX7_free 1 = .ok (.iload_n 1, 1) := by decide +kernel
theorem dX7_free_2 : decode cX7_free 2 = .ok (.invokevirtual 169, 3) := by decide +kernel
theorem dX7_free_5 : decode cX7_free 5 = .ok (.ifCond .eq 12, 3) := by decide +kernel
theorem dX7_free_8 : decode cX7_free 8 = .ok (.aload_n 0, 1) := by decide +kernel
theorem dX7_free_9 : decode cX7_free 9 = .ok (.getfield 23, 3) := by decide +kernel
theorem dX7_free_12 : decode cX7_free 12 = .ok (.iload_n 1, 1) := by decide +kernel
theorem dX7_free_13 : decode cX7_free 13 = .ok (.baload, 1) := by decide +kernel
theorem dX7_free_14 : decode cX7_free 14 = .ok (.ifCond .ne 5, 3) := by decide +kernel
theorem dX7_free_17 : decode cX7_free 17 = .ok (.iconst 0, 1) := by decide +kernel
theorem dX7_free_18 : decode cX7_free 18 = .ok (.ireturn, 1) := by decide +kernel
theorem dX7_free_19 : decode cX7_free 19 = .ok (.aload_n 0, 1) := by decide +kernel
theorem dX7_free_20 : decode cX7_free 20 = .ok (.getfield 23, 3) := by decide +kernel
theorem dX7_free_23 : decode cX7_free 23 = .ok (.iload_n 1, 1) := by decide +kernel
theorem dX7_free_24 : decode cX7_free 24 = .ok (.iconst 0, 1) := by decide +kernel
theorem dX7_free_25 : decode cX7_free 25 = .ok (.bastore, 1) := by decide +kernel
theorem dX7_free_26 : decode cX7_free 26 = .ok (.iconst 1, 1) := by decide +kernel
theorem dX7_free_27 : decode cX7_free 27 = .ok (.ireturn, 1) := by decide +kernel
theorem dX7_jam_0 : decode cX7_jam 0 = .ok (.aload_n 0, 1) := by decide +kernel
theorem dX7_jam_1 : decode cX7_jam 1 = .ok (.iload_n 1, 1) := by decide +kernel
theorem dX7_jam_2 : decode cX7_jam 2 = .ok (.invokevirtual 173, 3) := by decide +kernel
theorem dX7_jam_5 : decode cX7_jam 5 = .ok (.ifCond .eq 12, 3) := by decide +kernel
theorem dX7_jam_8 : decode cX7_jam 8 = .ok (.iload_n 2, 1) := by decide +kernel
theorem dX7_jam_9 : decode cX7_jam 9 = .ok (.ifCond .lt 8, 3) := by decide +kernel
theorem dX7_jam_12 : decode cX7_jam 12 = .ok (.iload_n 2, 1) := by decide +kernel
theorem dX7_jam_13 : decode cX7_jam 13 = .ok (.iconst 3, 1) := by decide +kernel
theorem dX7_jam_14 : decode cX7_jam 14 = .ok (.if_icmp .le 5, 3) := by decide +kernel
theorem dX7_jam_17 : decode cX7_jam 17 = .ok (.iconst 0, 1) := by decide +kernel
theorem dX7_jam_18 : decode cX7_jam 18 = .ok (.ireturn, 1) := by decide +kernel
theorem dX7_jam_19 : decode cX7_jam 19 = .ok (.aload_n 0, 1) := by decide +kernel
theorem dX7_jam_20 : decode cX7_jam 20 = .ok (.getfield 41, 3) := by decide +kernel
theorem dX7_jam_23 : decode cX7_jam 23 = .ok (.iload_n 1, 1) := by decide +kernel
theorem dX7_jam_24 : decode cX7_jam 24 = .ok (.iload_n 2, 1) := by decide +kernel
theorem dX7_jam_25 : decode cX7_jam 25 = .ok (.iastore, 1) := by decide +kernel
theorem dX7_jam_26 : decode cX7_jam 26 = .ok (.iconst 1, 1) := by decide +kernel
theorem dX7_jam_27 : decode cX7_jam 27 = .ok (.ireturn, 1) := by decide +kernel
theorem dX7_limit_0 : decode cX7_limit 0 = .ok (.iload_n 1, 1) := by decide +kernel
theorem dX7_limit_1 : decode cX7_limit 1 = .ok (.iconst 1, 1) := by decide +kernel
theorem dX7_limit_2 : decode cX7_limit 2 = .ok (.if_icmp .lt 9, 3) := by decide +kernel
theorem dX7_limit_5 : decode cX7_limit 5 = .ok (.iload_n 1, 1) := by decide +kernel
theorem dX7_limit_6 : decode cX7_limit 6 = .ok (.bipush 50, 2) := by decide +kernel
theorem dX7_limit_8 : decode cX7_limit 8 = .ok (.if_icmp .le 5, 3) := by decide +kernel
theorem dX7_limit_11 : decode cX7_limit 11 = .ok (.iconst 0, 1) := by decide +kernel
theorem dX7_limit_12 : decode cX7_limit 12 = .ok (.ireturn, 1) := by decide +kernel
theorem dX7_limit_13 : decode cX7_limit 13 = .ok (.aload_n 0, 1) := by decide +kernel
theorem dX7_limit_14 : decode cX7_limit 14 = .ok (.iload_n 1, 1) := by decide +kernel
theorem dX7_limit_15 : decode cX7_limit 15 = .ok (.putfield 71, 3) := by decide +kernel
theorem dX7_limit_18 : decode cX7_limit 18 = .ok (.iconst 1, 1) := by decide +kernel
theorem dX7_limit_19 : decode cX7_limit 19 = .ok (.ireturn, 1) := by decide +kernel
theorem dX7_conduction_0 : decode cX7_conduction 0 = .ok (.aload_n 0, 1) := by decide +kernel
theorem dX7_conduction_1 : decode cX7_conduction 1 = .ok (.getfield 41, 3) := by decide +kernel
theorem dX7_conduction_4 : decode cX7_conduction 4 = .ok (.iload_n 1, 1) := by decide +kernel
theorem dX7_conduction_5 : decode cX7_conduction 5 = .ok (.iaload, 1) := by decide +kernel
theorem dX7_conduction_6 : decode cX7_conduction 6 = .ok (.iconst 3, 1) := by decide +kernel
theorem dX7_conduction_7 : decode cX7_conduction 7 = .ok (.if_icmp .ge 10, 3) := by decide +kernel
theorem dX7_conduction_10 : decode cX7_conduction 10 = .ok (.aload_n 0, 1) := by decide +kernel
theorem dX7_conduction_11 : decode cX7_conduction 11 = .ok (.getfield 41, 3) := by decide +kernel
theorem dX7_conduction_14 : decode cX7_conduction 14 = .ok (.iload_n 1, 1) := by decide +kernel
theorem dX7_conduction_15 : decode cX7_conduction 15 = .ok (.iaload, 1) := by decide +kernel
theorem dX7_conduction_16 : decode cX7_conduction 16 = .ok (.ireturn, 1) := by decide +kernel
theorem dX7_conduction_17 : decode cX7_conduction 17 = .ok (.aload_n 0, 1) := by decide +kernel
theorem dX7_conduction_18 : decode cX7_conduction 18 = .ok (.getfield 20, 3) := by decide +kernel
theorem dX7_conduction_21 : decode cX7_conduction 21 = .ok (.aload_n 0, 1) := by decide +kernel
theorem dX7_conduction_22 : decode cX7_conduction 22 = .ok (.getfield 29, 3) := by decide +kernel
theorem dX7_conduction_25 : decode cX7_conduction 25 = .ok (.iload_n 1, 1) := by decide +kernel
theorem dX7_conduction_26 : decode cX7_conduction 26 = .ok (.iaload, 1) := by decide +kernel
theorem dX7_conduction_27 : decode cX7_conduction 27 = .ok (.iaload, 1) := by decide +kernel
theorem dX7_conduction_28 : decode cX7_conduction 28 = .ok (.istore_n 2, 1) := by decide +kernel
theorem dX7_conduction_29 : decode cX7_conduction 29 = .ok (.aload_n 0, 1) := by decide +kernel
theorem dX7_conduction_30 : decode cX7_conduction 30 = .ok (.getfield 26, 3) := by decide +kernel
theorem dX7_conduction_33 : decode cX7_conduction 33 = .ok (.iload_n 1, 1) := by decide +kernel
theorem dX7_conduction_34 : decode cX7_conduction 34 = .ok (.iaload, 1) := by decide +kernel
theorem dX7_conduction_35 : decode cX7_conduction 35 = .ok (.bipush 100, 2) := by decide +kernel
theorem dX7_conduction_37 : decode cX7_conduction 37 = .ok (.if_icmp .ne 7, 3) := by decide +kernel
theorem dX7_conduction_40 : decode cX7_conduction 40 = .ok (.iconst 1, 1) := by decide +kernel
theorem dX7_conduction_41 : decode cX7_conduction 41 = .ok (.goto 30, 3) := by decide +kernel
theorem dX7_conduction_44 : decode cX7_conduction 44 = .ok (.iload_n 2, 1) := by decide +kernel
theorem dX7_conduction_45 : decode cX7_conduction 45 = .ok (.iconst 2, 1) := by decide +kernel
theorem dX7_conduction_46 : decode cX7_conduction 46 = .ok (.if_icmp .ne 7, 3) := by decide +kernel
theorem dX7_conduction_49 : decode cX7_conduction 49 = .ok (.iconst 2, 1) := by decide +kernel
theorem dX7_conduction_50 : decode cX7_conduction 50 = .ok (.goto 21, 3) := by decide +kernel
theorem dX7_conduction_53 : decode cX7_conduction 53 = .ok (.aload_n 0, 1) := by decide +kernel
theorem dX7_conduction_54 : decode cX7_conduction 54 = .ok (.getfield 26, 3) := by decide +kernel
theorem dX7_conduction_57 : decode cX7_conduction 57 = .ok (.iload_n 1, 1) := by decide +kernel
theorem dX7_conduction_58 : decode cX7_conduction 58 = .ok (.iaload, 1) := by decide +kernel
theorem dX7_conduction_59 : decode cX7_conduction 59 = .ok (.bipush 110, 2) := by decide +kernel
theorem dX7_conduction_61 : decode cX7_conduction 61 = .ok (.if_icmp .ne 7, 3) := by decide +kernel
theorem dX7_conduction_64 : decode cX7_conduction 64 = .ok (.iload_n 2, 1) := by decide +kernel
theorem dX7_conduction_65 : decode cX7_conduction 65 = .ok (.goto 6, 3) := by decide +kernel
theorem dX7_conduction_68 : decode cX7_conduction 68 = .ok (.iconst 1, 1) := by decide +kernel
theorem dX7_conduction_69 : decode cX7_conduction 69 = .ok (.iload_n 2, 1) := by decide +kernel
theorem dX7_conduction_70 : decode cX7_conduction 70 = .ok (.isub, 1) := by decide +kernel
theorem dX7_conduction_71 : decode cX7_conduction 71 = .ok (.ireturn, 1) := by decide +kernel
theorem dX7_conducts_0 : decode cX7_conducts 0 = .ok (.aload_n 0, 1) := by decide +kernel
theorem dX7_conducts_1 : decode cX7_conducts 1 = .ok (.iload_n 1, 1) := by decide +kernel
theorem dX7_conducts_2 : decode cX7_conducts 2 = .ok (.invokevirtual 173, 3) := by decide +kernel
theorem dX7_conducts_5 : decode cX7_conducts 5 = .ok (.ifCond .eq 11, 3) := by decide +kernel
theorem dX7_conducts_8 : decode cX7_conducts 8 = .ok (.aload_n 0, 1) := by decide +kernel
theorem dX7_conducts_9 : decode cX7_conducts 9 = .ok (.iload_n 1, 1) := by decide +kernel
theorem dX7_conducts_10 : decode cX7_conducts 10 = .ok (.invokevirtual 176, 3) := by decide +kernel
theorem dX7_conducts_13 : decode cX7_conducts 13 = .ok (.goto 4, 3) := by decide +kernel
theorem dX7_conducts_16 : decode cX7_conducts 16 = .ok (.iconst (-1), 1) := by decide +kernel
theorem dX7_conducts_17 : decode cX7_conducts 17 = .ok (.ireturn, 1) := by decide +kernel
theorem dX7_lesser_0 : decode cX7_lesser 0 = .ok (.iload_n 0, 1) := by decide +kernel
theorem dX7_lesser_1 : decode cX7_lesser 1 = .ok (.iload_n 1, 1) := by decide +kernel
theorem dX7_lesser_2 : decode cX7_lesser 2 = .ok (.if_icmp .ge 7, 3) := by decide +kernel
theorem dX7_lesser_5 : decode cX7_lesser 5 = .ok (.iload_n 0, 1) := by decide +kernel
theorem dX7_lesser_6 : decode cX7_lesser 6 = .ok (.goto 4, 3) := by decide +kernel
theorem dX7_lesser_9 : decode cX7_lesser 9 = .ok (.iload_n 1, 1) := by decide +kernel
theorem dX7_lesser_10 : decode cX7_lesser 10 = .ok (.ireturn, 1) := by decide +kernel
theorem dX7_reaches_0 : decode cX7_reaches 0 = .ok (.aload_n 0, 1) := by decide +kernel
theorem dX7_reaches_1 : decode cX7_reaches 1 = .ok (.getfield 32, 3) := by decide +kernel
theorem dX7_reaches_4 : decode cX7_reaches 4 = .ok (.iload_n 1, 1) := by decide +kernel
theorem dX7_reaches_5 : decode cX7_reaches 5 = .ok (.iaload, 1) := by decide +kernel
theorem dX7_reaches_6 : decode cX7_reaches 6 = .ok (.iload_n 2, 1) := by decide +kernel
theorem dX7_reaches_7 : decode cX7_reaches 7 = .ok (.if_icmp .ne 25, 3) := by decide +kernel
theorem dX7_reaches_10 : decode cX7_reaches 10 = .ok (.aload_n 0, 1) := by decide +kernel
theorem dX7_reaches_11 : decode cX7_reaches 11 = .ok (.getfield 38, 3) := by decide +kernel
theorem dX7_reaches_14 : decode cX7_reaches 14 = .ok (.iload_n 1, 1) := by decide +kernel
theorem dX7_reaches_15 : decode cX7_reaches 15 = .ok (.iaload, 1) := by decide +kernel
theorem dX7_reaches_16 : decode cX7_reaches 16 = .ok (.iconst 3, 1) := by decide +kernel
theorem dX7_reaches_17 : decode cX7_reaches 17 = .ok (.iadd, 1) := by decide +kernel
theorem dX7_reaches_18 : decode cX7_reaches 18 = .ok (.aload_n 3, 1) := by decide +kernel
theorem dX7_reaches_19 : decode cX7_reaches 19 = .ok (.aload_n 0, 1) := by decide +kernel
theorem dX7_reaches_20 : decode cX7_reaches 20 = .ok (.getfield 35, 3) := by decide +kernel
theorem dX7_reaches_23 : decode cX7_reaches 23 = .ok (.iload_n 1, 1) := by decide +kernel
theorem dX7_reaches_24 : decode cX7_reaches 24 = .ok (.iaload, 1) := by decide +kernel
theorem dX7_reaches_25 : decode cX7_reaches 25 = .ok (.iaload, 1) := by decide +kernel
theorem dX7_reaches_26 : decode cX7_reaches 26 = .ok (.invokestatic 179, 3) := by decide +kernel
theorem dX7_reaches_29 : decode cX7_reaches 29 = .ok (.goto 4, 3) := by decide +kernel
theorem dX7_reaches_32 : decode cX7_reaches 32 = .ok (.iconst 0, 1) := by decide +kernel
theorem dX7_reaches_33 : decode cX7_reaches 33 = .ok (.istore 4, 2) := by decide +kernel
theorem dX7_reaches_35 : decode cX7_reaches 35 = .ok (.aload_n 0, 1) := by decide +kernel
theorem dX7_reaches_36 : decode cX7_reaches 36 = .ok (.getfield 35, 3) := by decide +kernel
theorem dX7_reaches_39 : decode cX7_reaches 39 = .ok (.iload_n 1, 1) := by decide +kernel
theorem dX7_reaches_40 : decode cX7_reaches 40 = .ok (.iaload, 1) := by decide +kernel
theorem dX7_reaches_41 : decode cX7_reaches 41 = .ok (.iload_n 2, 1) := by decide +kernel
theorem dX7_reaches_42 : decode cX7_reaches 42 = .ok (.if_icmp .ne 25, 3) := by decide +kernel
theorem dX7_reaches_45 : decode cX7_reaches 45 = .ok (.aload_n 0, 1) := by decide +kernel
theorem dX7_reaches_46 : decode cX7_reaches 46 = .ok (.getfield 38, 3) := by decide +kernel
theorem dX7_reaches_49 : decode cX7_reaches 49 = .ok (.iload_n 1, 1) := by decide +kernel
theorem dX7_reaches_50 : decode cX7_reaches 50 = .ok (.iaload, 1) := by decide +kernel
theorem dX7_reaches_51 : decode cX7_reaches 51 = .ok (.iconst 3, 1) := by decide +kernel
theorem dX7_reaches_52 : decode cX7_reaches 52 = .ok (.iadd, 1) := by decide +kernel
theorem dX7_reaches_53 : decode cX7_reaches 53 = .ok (.aload_n 3, 1) := by decide +kernel
theorem dX7_reaches_54 : decode cX7_reaches 54 = .ok (.aload_n 0, 1) := by decide +kernel
theorem dX7_reaches_55 : decode cX7_reaches 55 = .ok (.getfield 32, 3) := by decide +kernel
theorem dX7_reaches_58 : decode cX7_reaches 58 = .ok (.iload_n 1, 1) := by decide +kernel
theorem dX7_reaches_59 : decode cX7_reaches 59 = .ok (.iaload, 1) := by decide +kernel
theorem dX7_reaches_60 : decode cX7_reaches 60 = .ok (.iaload, 1) := by decide +kernel
theorem dX7_reaches_61 : decode cX7_reaches 61 = .ok (.invokestatic 179, 3) := by decide +kernel
theorem dX7_reaches_64 : decode cX7_reaches 64 = .ok (.goto 4, 3) := by decide +kernel
theorem dX7_reaches_67 : decode cX7_reaches 67 = .ok (.iconst 0, 1) := by decide +kernel
theorem dX7_reaches_68 : decode cX7_reaches 68 = .ok (.istore 5, 2) := by decide +kernel
theorem dX7_reaches_70 : decode cX7_reaches 70 = .ok (.iload 4, 2) := by decide +kernel
theorem dX7_reaches_72 : decode cX7_reaches 72 = .ok (.iload 5, 2) := by decide +kernel
theorem dX7_reaches_74 : decode cX7_reaches 74 = .ok (.if_icmp .le 8, 3) := by decide +kernel
theorem dX7_reaches_77 : decode cX7_reaches 77 = .ok (.iload 4, 2) := by decide +kernel
theorem dX7_reaches_79 : decode cX7_reaches 79 = .ok (.goto 5, 3) := by decide +kernel
theorem dX7_reaches_82 : decode cX7_reaches 82 = .ok (.iload 5, 2) := by decide +kernel
theorem dX7_reaches_84 : decode cX7_reaches 84 = .ok (.ireturn, 1) := by decide +kernel
theorem dX7_greatest_0 : decode cX7_greatest 0 = .ok (.iload_n 2, 1) := by decide +kernel
theorem dX7_greatest_1 : decode cX7_greatest 1 = .ok (.istore 5, 2) := by decide +kernel
theorem dX7_greatest_3 : decode cX7_greatest 3 = .ok (.iconst 0, 1) := by decide +kernel
theorem dX7_greatest_4 : decode cX7_greatest 4 = .ok (.istore 6, 2) := by decide +kernel
theorem dX7_greatest_6 : decode cX7_greatest 6 = .ok (.iload 6, 2) := by decide +kernel
theorem dX7_greatest_8 : decode cX7_greatest 8 = .ok (.aload_n 0, 1) := by decide +kernel
theorem dX7_greatest_9 : decode cX7_greatest 9 = .ok (.getfield 154, 3) := by decide +kernel
theorem dX7_greatest_12 : decode cX7_greatest 12 = .ok (.if_icmp .ge 64, 3) := by decide +kernel
theorem dX7_greatest_15 : decode cX7_greatest 15 = .ok (.aload_n 0, 1) := by decide +kernel
theorem dX7_greatest_16 : decode cX7_greatest 16 = .ok (.iload 6, 2) := by decide +kernel
theorem dX7_greatest_18 : decode cX7_greatest 18 = .ok (.invokevirtual 176, 3) := by decide +kernel
theorem dX7_greatest_21 : decode cX7_greatest 21 = .ok (.istore 7, 2) := by decide +kernel
theorem dX7_greatest_23 : decode cX7_greatest 23 = .ok (.iload 7, 2) := by decide +kernel
theorem dX7_greatest_25 : decode cX7_greatest 25 = .ok (.iconst 1, 1) := by decide +kernel
theorem dX7_greatest_26 : decode cX7_greatest 26 = .ok (.if_icmp .eq 14, 3) := by decide +kernel
theorem dX7_greatest_29 : decode cX7_greatest 29 = .ok (.iload 7, 2) := by decide +kernel
theorem dX7_greatest_31 : decode cX7_greatest 31 = .ok (.iconst 2, 1) := by decide +kernel
theorem dX7_greatest_32 : decode cX7_greatest 32 = .ok (.if_icmp .ne 19, 3) := by decide +kernel
theorem dX7_greatest_35 : decode cX7_greatest 35 = .ok (.iload 4, 2) := by decide +kernel
theorem dX7_greatest_37 : decode cX7_greatest 37 = .ok (.ifCond .eq 14, 3) := by decide +kernel
theorem dX7_greatest_40 : decode cX7_greatest 40 = .ok (.aload_n 0, 1) := by decide +kernel
theorem dX7_greatest_41 : decode cX7_greatest 41 = .ok (.iload 6, 2) := by decide +kernel
theorem dX7_greatest_43 : decode cX7_greatest 43 = .ok (.iload_n 1, 1) := by decide +kernel
theorem dX7_greatest_44 : decode cX7_greatest 44 = .ok (.aload_n 3, 1) := by decide +kernel
theorem dX7_greatest_45 : decode cX7_greatest 45 = .ok (.invokevirtual 183, 3) := by decide +kernel
theorem dX7_greatest_48 : decode cX7_greatest 48 = .ok (.goto 4, 3) := by decide +kernel
theorem dX7_greatest_51 : decode cX7_greatest 51 = .ok (.iconst 0, 1) := by decide +kernel
theorem dX7_greatest_52 : decode cX7_greatest 52 = .ok (.istore 8, 2) := by decide +kernel
theorem dX7_greatest_54 : decode cX7_greatest 54 = .ok (.iload 8, 2) := by decide +kernel
theorem dX7_greatest_56 : decode cX7_greatest 56 = .ok (.iload 5, 2) := by decide +kernel
theorem dX7_greatest_58 : decode cX7_greatest 58 = .ok (.if_icmp .le 8, 3) := by decide +kernel
theorem dX7_greatest_61 : decode cX7_greatest 61 = .ok (.iload 8, 2) := by decide +kernel
theorem dX7_greatest_63 : decode cX7_greatest 63 = .ok (.goto 5, 3) := by decide +kernel
theorem dX7_greatest_66 : decode cX7_greatest 66 = .ok (.iload 5, 2) := by decide +kernel
theorem dX7_greatest_68 : decode cX7_greatest 68 = .ok (.istore 5, 2) := by decide +kernel
theorem dX7_greatest_70 : decode cX7_greatest 70 = .ok (.iinc 6 1, 3) := by decide +kernel
theorem dX7_greatest_73 : decode cX7_greatest 73 = .ok (.goto (-67), 3) := by decide +kernel
theorem dX7_greatest_76 : decode cX7_greatest 76 = .ok (.iload 5, 2) := by decide +kernel
theorem dX7_greatest_78 : decode cX7_greatest 78 = .ok (.ireturn, 1) := by decide +kernel
theorem dX7_findFirm_0 : decode cX7_findFirm 0 = .ok (.iconst 0, 1) := by decide +kernel
theorem dX7_findFirm_1 : decode cX7_findFirm 1 = .ok (.istore_n 1, 1) := by decide +kernel
theorem dX7_findFirm_2 : decode cX7_findFirm 2 = .ok (.iload_n 1, 1) := by decide +kernel
theorem dX7_findFirm_3 : decode cX7_findFirm 3 = .ok (.aload_n 0, 1) := by decide +kernel
theorem dX7_findFirm_4 : decode cX7_findFirm 4 = .ok (.getfield 157, 3) := by decide +kernel
theorem dX7_findFirm_7 : decode cX7_findFirm 7 = .ok (.if_icmp .ge 29, 3) := by decide +kernel
theorem dX7_findFirm_10 : decode cX7_findFirm 10 = .ok (.aload_n 0, 1) := by decide +kernel
theorem dX7_findFirm_11 : decode cX7_findFirm 11 = .ok (.getfield 78, 3) := by decide +kernel
theorem dX7_findFirm_14 : decode cX7_findFirm 14 = .ok (.iload_n 1, 1) := by decide +kernel
theorem dX7_findFirm_15 : decode cX7_findFirm 15 = .ok (.aload_n 0, 1) := by decide +kernel
theorem dX7_findFirm_16 : decode cX7_findFirm 16 = .ok (.iload_n 1, 1) := by decide +kernel
theorem dX7_findFirm_17 : decode cX7_findFirm 17 = .ok (.invokevirtual 187, 3) := by decide +kernel
theorem dX7_findFirm_20 : decode cX7_findFirm 20 = .ok (.ifCond .eq 8, 3) := by decide +kernel
theorem dX7_findFirm_23 : decode cX7_findFirm 23 = .ok (.bipush 7, 2) := by decide +kernel
theorem dX7_findFirm_25 : decode cX7_findFirm 25 = .ok (.goto 4, 3) := by decide +kernel
theorem dX7_findFirm_28 : decode cX7_findFirm 28 = .ok (.iconst 0, 1) := by decide +kernel
theorem dX7_findFirm_29 : decode cX7_findFirm 29 = .ok (.iastore, 1) := by decide +kernel
theorem dX7_findFirm_30 : decode cX7_findFirm 30 = .ok (.iinc 1 1, 3) := by decide +kernel
theorem dX7_findFirm_33 : decode cX7_findFirm 33 = .ok (.goto (-31), 3) := by decide +kernel
theorem dX7_findFirm_36 : decode cX7_findFirm 36 = .ok (.iconst 1, 1) := by decide +kernel
theorem dX7_findFirm_37 : decode cX7_findFirm 37 = .ok (.istore_n 1, 1) := by decide +kernel
theorem dX7_findFirm_38 : decode cX7_findFirm 38 = .ok (.iload_n 1, 1) := by decide +kernel
theorem dX7_findFirm_39 : decode cX7_findFirm 39 = .ok (.ifCond .eq 81, 3) := by decide +kernel
theorem dX7_findFirm_42 : decode cX7_findFirm 42 = .ok (.iconst 0, 1) := by decide +kernel
theorem dX7_findFirm_43 : decode cX7_findFirm 43 = .ok (.istore_n 1, 1) := by decide +kernel
theorem dX7_findFirm_44 : decode cX7_findFirm 44 = .ok (.iconst 0, 1) := by decide +kernel
theorem dX7_findFirm_45 : decode cX7_findFirm 45 = .ok (.istore_n 2, 1) := by decide +kernel
theorem dX7_findFirm_46 : decode cX7_findFirm 46 = .ok (.iload_n 2, 1) := by decide +kernel
theorem dX7_findFirm_47 : decode cX7_findFirm 47 = .ok (.aload_n 0, 1) := by decide +kernel
theorem dX7_findFirm_48 : decode cX7_findFirm 48 = .ok (.getfield 157, 3) := by decide +kernel
theorem dX7_findFirm_51 : decode cX7_findFirm 51 = .ok (.if_icmp .ge 66, 3) := by decide +kernel
theorem dX7_findFirm_54 : decode cX7_findFirm 54 = .ok (.aload_n 0, 1) := by decide +kernel
theorem dX7_findFirm_55 : decode cX7_findFirm 55 = .ok (.iload_n 2, 1) := by decide +kernel
theorem dX7_findFirm_56 : decode cX7_findFirm 56 = .ok (.invokevirtual 187, 3) := by decide +kernel
theorem dX7_findFirm_59 : decode cX7_findFirm 59 = .ok (.ifCond .eq 8, 3) := by decide +kernel
theorem dX7_findFirm_62 : decode cX7_findFirm 62 = .ok (.bipush 7, 2) := by decide +kernel
theorem dX7_findFirm_64 : decode cX7_findFirm 64 = .ok (.goto 19, 3) := by decide +kernel
theorem dX7_findFirm_67 : decode cX7_findFirm 67 = .ok (.aload_n 0, 1) := by decide +kernel
theorem dX7_findFirm_68 : decode cX7_findFirm 68 = .ok (.iload_n 2, 1) := by decide +kernel
theorem dX7_findFirm_69 : decode cX7_findFirm 69 = .ok (.aload_n 0, 1) := by decide +kernel
theorem dX7_findFirm_70 : decode cX7_findFirm 70 = .ok (.getfield 17, 3) := by decide +kernel
theorem dX7_findFirm_73 : decode cX7_findFirm 73 = .ok (.iload_n 2, 1) := by decide +kernel
theorem dX7_findFirm_74 : decode cX7_findFirm 74 = .ok (.iaload, 1) := by decide +kernel
theorem dX7_findFirm_75 : decode cX7_findFirm 75 = .ok (.aload_n 0, 1) := by decide +kernel
theorem dX7_findFirm_76 : decode cX7_findFirm 76 = .ok (.getfield 78, 3) := by decide +kernel
theorem dX7_findFirm_79 : decode cX7_findFirm 79 = .ok (.iconst 0, 1) := by decide +kernel
theorem dX7_findFirm_80 : decode cX7_findFirm 80 = .ok (.invokevirtual 190, 3) := by decide +kernel
theorem dX7_findFirm_83 : decode cX7_findFirm 83 = .ok (.istore_n 3, 1) := by decide +kernel
theorem dX7_findFirm_84 : decode cX7_findFirm 84 = .ok (.iload_n 1, 1) := by decide +kernel
theorem dX7_findFirm_85 : decode cX7_findFirm 85 = .ok (.ifCond .ne 13, 3) := by decide +kernel
theorem dX7_findFirm_88 : decode cX7_findFirm 88 = .ok (.iload_n 3, 1) := by decide +kernel
theorem dX7_findFirm_89 : decode cX7_findFirm 89 = .ok (.aload_n 0, 1) := by decide +kernel
theorem dX7_findFirm_90 : decode cX7_findFirm 90 = .ok (.getfield 78, 3) := by decide +kernel
theorem dX7_findFirm_93 : decode cX7_findFirm 93 = .ok (.iload_n 2, 1) := by decide +kernel
theorem dX7_findFirm_94 : decode cX7_findFirm 94 = .ok (.iaload, 1) := by decide +kernel
theorem dX7_findFirm_95 : decode cX7_findFirm 95 = .ok (.if_icmp .le 7, 3) := by decide +kernel
theorem dX7_findFirm_98 : decode cX7_findFirm 98 = .ok (.iconst 1, 1) := by decide +kernel
theorem dX7_findFirm_99 : decode cX7_findFirm 99 = .ok (.goto 4, 3) := by decide +kernel
theorem dX7_findFirm_102 : decode cX7_findFirm 102 = .ok (.iconst 0, 1) := by decide +kernel
theorem dX7_findFirm_103 : decode cX7_findFirm 103 = .ok (.istore_n 1, 1) := by decide +kernel
theorem dX7_findFirm_104 : decode cX7_findFirm 104 = .ok (.aload_n 0, 1) := by decide +kernel
theorem dX7_findFirm_105 : decode cX7_findFirm 105 = .ok (.getfield 78, 3) := by decide +kernel
theorem dX7_findFirm_108 : decode cX7_findFirm 108 = .ok (.iload_n 2, 1) := by decide +kernel
theorem dX7_findFirm_109 : decode cX7_findFirm 109 = .ok (.iload_n 3, 1) := by decide +kernel
theorem dX7_findFirm_110 : decode cX7_findFirm 110 = .ok (.iastore, 1) := by decide +kernel
theorem dX7_findFirm_111 : decode cX7_findFirm 111 = .ok (.iinc 2 1, 3) := by decide +kernel
theorem dX7_findFirm_114 : decode cX7_findFirm 114 = .ok (.goto (-68), 3) := by decide +kernel
theorem dX7_findFirm_117 : decode cX7_findFirm 117 = .ok (.goto (-79), 3) := by decide +kernel
theorem dX7_findFirm_120 : decode cX7_findFirm 120 = .ok (.return_, 1) := by decide +kernel
theorem dX7_findOthers_0 : decode cX7_findOthers 0 = .ok (.iconst 0, 1) := by decide +kernel
theorem dX7_findOthers_1 : decode cX7_findOthers 1 = .ok (.istore_n 3, 1) := by decide +kernel
theorem dX7_findOthers_2 : decode cX7_findOthers 2 = .ok (.iload_n 3, 1) := by decide +kernel
theorem dX7_findOthers_3 : decode cX7_findOthers 3 = .ok (.aload_n 0, 1) := by decide +kernel
theorem dX7_findOthers_4 : decode cX7_findOthers 4 = .ok (.getfield 157, 3) := by decide +kernel
theorem dX7_findOthers_7 : decode cX7_findOthers 7 = .ok (.if_icmp .ge 36, 3) := by decide +kernel
theorem dX7_findOthers_10 : decode cX7_findOthers 10 = .ok (.aload_n 1, 1) := by decide +kernel
theorem dX7_findOthers_11 : decode cX7_findOthers 11 = .ok (.iload_n 3, 1) := by decide +kernel
theorem dX7_findOthers_12 : decode cX7_findOthers 12 = .ok (.aload_n 0, 1) := by decide +kernel
theorem dX7_findOthers_13 : decode cX7_findOthers 13 = .ok (.iload_n 3, 1) := by decide +kernel
theorem dX7_findOthers_14 : decode cX7_findOthers 14 = .ok (.invokevirtual 187, 3) := by decide +kernel
theorem dX7_findOthers_17 : decode cX7_findOthers 17 = .ok (.ifCond .eq 18, 3) := by decide +kernel
theorem dX7_findOthers_20 : decode cX7_findOthers 20 = .ok (.aload_n 0, 1) := by decide +kernel
theorem dX7_findOthers_21 : decode cX7_findOthers 21 = .ok (.getfield 20, 3) := by decide +kernel
theorem dX7_findOthers_24 : decode cX7_findOthers 24 = .ok (.iload_n 3, 1) := by decide +kernel
theorem dX7_findOthers_25 : decode cX7_findOthers 25 = .ok (.iaload, 1) := by decide +kernel
theorem dX7_findOthers_26 : decode cX7_findOthers 26 = .ok (.iload_n 2, 1) := by decide +kernel
theorem dX7_findOthers_27 : decode cX7_findOthers 27 = .ok (.if_icmp .eq 8, 3) := by decide +kernel
theorem dX7_findOthers_30 : decode cX7_findOthers 30 = .ok (.bipush 7, 2) := by decide +kernel
theorem dX7_findOthers_32 : decode cX7_findOthers 32 = .ok (.goto 4, 3) := by decide +kernel
theorem dX7_findOthers_35 : decode cX7_findOthers 35 = .ok (.iconst 0, 1) := by decide +kernel
theorem dX7_findOthers_36 : decode cX7_findOthers 36 = .ok (.iastore, 1) := by decide +kernel
theorem dX7_findOthers_37 : decode cX7_findOthers 37 = .ok (.iinc 3 1, 3) := by decide +kernel
theorem dX7_findOthers_40 : decode cX7_findOthers 40 = .ok (.goto (-38), 3) := by decide +kernel
theorem dX7_findOthers_43 : decode cX7_findOthers 43 = .ok (.iconst 1, 1) := by decide +kernel
theorem dX7_findOthers_44 : decode cX7_findOthers 44 = .ok (.istore_n 3, 1) := by decide +kernel
theorem dX7_findOthers_45 : decode cX7_findOthers 45 = .ok (.iload_n 3, 1) := by decide +kernel
theorem dX7_findOthers_46 : decode cX7_findOthers 46 = .ok (.ifCond .eq 128, 3) := by decide +kernel
theorem dX7_findOthers_49 : decode cX7_findOthers 49 = .ok (.iconst 0, 1) := by decide +kernel
theorem dX7_findOthers_50 : decode cX7_findOthers 50 = .ok (.istore_n 3, 1) := by decide +kernel
theorem dX7_findOthers_51 : decode cX7_findOthers 51 = .ok (.iconst 0, 1) := by decide +kernel
theorem dX7_findOthers_52 : decode cX7_findOthers 52 = .ok (.istore 4, 2) := by decide +kernel
theorem dX7_findOthers_54 : decode cX7_findOthers 54 = .ok (.iload 4, 2) := by decide +kernel
theorem dX7_findOthers_56 : decode cX7_findOthers 56 = .ok (.aload_n 0, 1) := by decide +kernel
theorem dX7_findOthers_57 : decode cX7_findOthers 57 = .ok (.getfield 157, 3) := by decide +kernel
theorem dX7_findOthers_60 : decode cX7_findOthers 60 = .ok (.if_icmp .ge 111, 3) := by decide +kernel
theorem dX7_findOthers_63 : decode cX7_findOthers 63 = .ok (.aload_n 0, 1) := by decide +kernel
theorem dX7_findOthers_64 : decode cX7_findOthers 64 = .ok (.iload 4, 2) := by decide +kernel
theorem dX7_findOthers_66 : decode cX7_findOthers 66 = .ok (.invokevirtual 187, 3) := by decide +kernel
theorem dX7_findOthers_69 : decode cX7_findOthers 69 = .ok (.ifCond .eq 10, 3) := by decide +kernel
theorem dX7_findOthers_72 : decode cX7_findOthers 72 = .ok (.aload_n 1, 1) := by decide +kernel
theorem dX7_findOthers_73 : decode cX7_findOthers 73 = .ok (.iload 4, 2) := by decide +kernel
theorem dX7_findOthers_75 : decode cX7_findOthers 75 = .ok (.iaload, 1) := by decide +kernel
theorem dX7_findOthers_76 : decode cX7_findOthers 76 = .ok (.goto 33, 3) := by decide +kernel
theorem dX7_findOthers_79 : decode cX7_findOthers 79 = .ok (.aload_n 0, 1) := by decide +kernel
theorem dX7_findOthers_80 : decode cX7_findOthers 80 = .ok (.iload 4, 2) := by decide +kernel
theorem dX7_findOthers_82 : decode cX7_findOthers 82 = .ok (.aload_n 0, 1) := by decide +kernel
theorem dX7_findOthers_83 : decode cX7_findOthers 83 = .ok (.getfield 20, 3) := by decide +kernel
theorem dX7_findOthers_86 : decode cX7_findOthers 86 = .ok (.iload 4, 2) := by decide +kernel
theorem dX7_findOthers_88 : decode cX7_findOthers 88 = .ok (.iaload, 1) := by decide +kernel
theorem dX7_findOthers_89 : decode cX7_findOthers 89 = .ok (.iload_n 2, 1) := by decide +kernel
theorem dX7_findOthers_90 : decode cX7_findOthers 90 = .ok (.if_icmp .ne 7, 3) := by decide +kernel
theorem dX7_findOthers_93 : decode cX7_findOthers 93 = .ok (.iconst 0, 1) := by decide +kernel
theorem dX7_findOthers_94 : decode cX7_findOthers 94 = .ok (.goto 10, 3) := by decide +kernel
theorem dX7_findOthers_97 : decode cX7_findOthers 97 = .ok (.aload_n 0, 1) := by decide +kernel
theorem dX7_findOthers_98 : decode cX7_findOthers 98 = .ok (.getfield 17, 3) := by decide +kernel
theorem dX7_findOthers_101 : decode cX7_findOthers 101 = .ok (.iload 4, 2) := by decide +kernel
theorem dX7_findOthers_103 : decode cX7_findOthers 103 = .ok (.iaload, 1) := by decide +kernel
theorem dX7_findOthers_104 : decode cX7_findOthers 104 = .ok (.aload_n 1, 1) := by decide +kernel
theorem dX7_findOthers_105 : decode cX7_findOthers 105 = .ok (.iconst 1, 1) := by decide +kernel
theorem dX7_findOthers_106 : decode cX7_findOthers 106 = .ok (.invokevirtual 190, 3) := by decide +kernel
theorem dX7_findOthers_109 : decode cX7_findOthers 109 = .ok (.istore 5, 2) := by decide +kernel
theorem dX7_findOthers_111 : decode cX7_findOthers 111 = .ok (.aload_n 0, 1) := by decide +kernel
theorem dX7_findOthers_112 : decode cX7_findOthers 112 = .ok (.iload 4, 2) := by decide +kernel
theorem dX7_findOthers_114 : decode cX7_findOthers 114 = .ok (.invokevirtual 187, 3) := by decide +kernel
theorem dX7_findOthers_117 : decode cX7_findOthers 117 = .ok (.ifCond .ne 15, 3) := by decide +kernel
theorem dX7_findOthers_120 : decode cX7_findOthers 120 = .ok (.iload 5, 2) := by decide +kernel
theorem dX7_findOthers_122 : decode cX7_findOthers 122 = .ok (.aload_n 0, 1) := by decide +kernel
theorem dX7_findOthers_123 : decode cX7_findOthers 123 = .ok (.getfield 78, 3) := by decide +kernel
theorem dX7_findOthers_126 : decode cX7_findOthers 126 = .ok (.iload 4, 2) := by decide +kernel
theorem dX7_findOthers_128 : decode cX7_findOthers 128 = .ok (.iaload, 1) := by decide +kernel
theorem dX7_findOthers_129 : decode cX7_findOthers 129 = .ok (.if_icmp .lt 8, 3) := by decide +kernel
theorem dX7_findOthers_132 : decode cX7_findOthers 132 = .ok (.iload 5, 2) := by decide +kernel
theorem dX7_findOthers_134 : decode cX7_findOthers 134 = .ok (.goto 4, 3) := by decide +kernel
theorem dX7_findOthers_137 : decode cX7_findOthers 137 = .ok (.iconst 0, 1) := by decide +kernel
theorem dX7_findOthers_138 : decode cX7_findOthers 138 = .ok (.istore 5, 2) := by decide +kernel
theorem dX7_findOthers_140 : decode cX7_findOthers 140 = .ok (.iload_n 3, 1) := by decide +kernel
theorem dX7_findOthers_141 : decode cX7_findOthers 141 = .ok (.ifCond .ne 12, 3) := by decide +kernel
theorem dX7_findOthers_144 : decode cX7_findOthers 144 = .ok (.iload 5, 2) := by decide +kernel
theorem dX7_findOthers_146 : decode cX7_findOthers 146 = .ok (.aload_n 1, 1) := by decide +kernel
theorem dX7_findOthers_147 : decode cX7_findOthers 147 = .ok (.iload 4, 2) := by decide +kernel
theorem dX7_findOthers_149 : decode cX7_findOthers 149 = .ok (.iaload, 1) := by decide +kernel
theorem dX7_findOthers_150 : decode cX7_findOthers 150 = .ok (.if_icmp .le 7, 3) := by decide +kernel
theorem dX7_findOthers_153 : decode cX7_findOthers 153 = .ok (.iconst 1, 1) := by decide +kernel
theorem dX7_findOthers_154 : decode cX7_findOthers 154 = .ok (.goto 4, 3) := by decide +kernel
theorem dX7_findOthers_157 : decode cX7_findOthers 157 = .ok (.iconst 0, 1) := by decide +kernel
theorem dX7_findOthers_158 : decode cX7_findOthers 158 = .ok (.istore_n 3, 1) := by decide +kernel
theorem dX7_findOthers_159 : decode cX7_findOthers 159 = .ok (.aload_n 1, 1) := by decide +kernel
theorem dX7_findOthers_160 : decode cX7_findOthers 160 = .ok (.iload 4, 2) := by decide +kernel
theorem dX7_findOthers_162 : decode cX7_findOthers 162 = .ok (.iload 5, 2) := by decide +kernel
theorem dX7_findOthers_164 : decode cX7_findOthers 164 = .ok (.iastore, 1) := by decide +kernel
theorem dX7_findOthers_165 : decode cX7_findOthers 165 = .ok (.iinc 4 1, 3) := by decide +kernel
theorem dX7_findOthers_168 : decode cX7_findOthers 168 = .ok (.goto (-114), 3) := by decide +kernel
theorem dX7_findOthers_171 : decode cX7_findOthers 171 = .ok (.goto (-126), 3) := by decide +kernel
theorem dX7_findOthers_174 : decode cX7_findOthers 174 = .ok (.return_, 1) := by decide +kernel
theorem dX7_evaluate_0 : decode cX7_evaluate 0 = .ok (.aload_n 0, 1) := by decide +kernel
theorem dX7_evaluate_1 : decode cX7_evaluate 1 = .ok (.invokevirtual 194, 3) := by decide +kernel
theorem dX7_evaluate_4 : decode cX7_evaluate 4 = .ok (.aload_n 0, 1) := by decide +kernel
theorem dX7_evaluate_5 : decode cX7_evaluate 5 = .ok (.aload_n 0, 1) := by decide +kernel
theorem dX7_evaluate_6 : decode cX7_evaluate 6 = .ok (.getfield 81, 3) := by decide +kernel
theorem dX7_evaluate_9 : decode cX7_evaluate 9 = .ok (.iconst 0, 1) := by decide +kernel
theorem dX7_evaluate_10 : decode cX7_evaluate 10 = .ok (.invokevirtual 197, 3) := by decide +kernel
theorem dX7_evaluate_13 : decode cX7_evaluate 13 = .ok (.aload_n 0, 1) := by decide +kernel
theorem dX7_evaluate_14 : decode cX7_evaluate 14 = .ok (.aload_n 0, 1) := by decide +kernel
theorem dX7_evaluate_15 : decode cX7_evaluate 15 = .ok (.getfield 84, 3) := by decide +kernel
theorem dX7_evaluate_18 : decode cX7_evaluate 18 = .ok (.iconst 1, 1) := by decide +kernel
theorem dX7_evaluate_19 : decode cX7_evaluate 19 = .ok (.invokevirtual 197, 3) := by decide +kernel
theorem dX7_evaluate_22 : decode cX7_evaluate 22 = .ok (.return_, 1) := by decide +kernel
theorem dX7_level_0 : decode cX7_level 0 = .ok (.aload_n 0, 1) := by decide +kernel
theorem dX7_level_1 : decode cX7_level 1 = .ok (.iload_n 1, 1) := by decide +kernel
theorem dX7_level_2 : decode cX7_level 2 = .ok (.invokevirtual 169, 3) := by decide +kernel
theorem dX7_level_5 : decode cX7_level 5 = .ok (.ifCond .eq 12, 3) := by decide +kernel
theorem dX7_level_8 : decode cX7_level 8 = .ok (.iload_n 2, 1) := by decide +kernel
theorem dX7_level_9 : decode cX7_level 9 = .ok (.ifCond .lt 8, 3) := by decide +kernel
theorem dX7_level_12 : decode cX7_level 12 = .ok (.iload_n 2, 1) := by decide +kernel
theorem dX7_level_13 : decode cX7_level 13 = .ok (.iconst 2, 1) := by decide +kernel
theorem dX7_level_14 : decode cX7_level 14 = .ok (.if_icmp .le 5, 3) := by decide +kernel
theorem dX7_level_17 : decode cX7_level 17 = .ok (.iconst (-1), 1) := by decide +kernel
theorem dX7_level_18 : decode cX7_level 18 = .ok (.ireturn, 1) := by decide +kernel
theorem dX7_level_19 : decode cX7_level 19 = .ok (.aload_n 0, 1) := by decide +kernel
theorem dX7_level_20 : decode cX7_level 20 = .ok (.invokevirtual 201, 3) := by decide +kernel
theorem dX7_level_23 : decode cX7_level 23 = .ok (.iload_n 2, 1) := by decide +kernel
theorem dX7_level_24 : decode cX7_level 24 = .ok (.ifCond .ne 12, 3) := by decide +kernel
theorem dX7_level_27 : decode cX7_level 27 = .ok (.aload_n 0, 1) := by decide +kernel
theorem dX7_level_28 : decode cX7_level 28 = .ok (.getfield 78, 3) := by decide +kernel
theorem dX7_level_31 : decode cX7_level 31 = .ok (.iload_n 1, 1) := by decide +kernel
theorem dX7_level_32 : decode cX7_level 32 = .ok (.iaload, 1) := by decide +kernel
theorem dX7_level_33 : decode cX7_level 33 = .ok (.goto 23, 3) := by decide +kernel
theorem dX7_level_36 : decode cX7_level 36 = .ok (.iload_n 2, 1) := by decide +kernel
theorem dX7_level_37 : decode cX7_level 37 = .ok (.iconst 1, 1) := by decide +kernel
theorem dX7_level_38 : decode cX7_level 38 = .ok (.if_icmp .ne 12, 3) := by decide +kernel
theorem dX7_level_41 : decode cX7_level 41 = .ok (.aload_n 0, 1) := by decide +kernel
theorem dX7_level_42 : decode cX7_level 42 = .ok (.getfield 81, 3) := by decide +kernel
theorem dX7_level_45 : decode cX7_level 45 = .ok (.iload_n 1, 1) := by decide +kernel
theorem dX7_level_46 : decode cX7_level 46 = .ok (.iaload, 1) := by decide +kernel
theorem dX7_level_47 : decode cX7_level 47 = .ok (.goto 9, 3) := by decide +kernel
theorem dX7_level_50 : decode cX7_level 50 = .ok (.aload_n 0, 1) := by decide +kernel
theorem dX7_level_51 : decode cX7_level 51 = .ok (.getfield 84, 3) := by decide +kernel
theorem dX7_level_54 : decode cX7_level 54 = .ok (.iload_n 1, 1) := by decide +kernel
theorem dX7_level_55 : decode cX7_level 55 = .ok (.iaload, 1) := by decide +kernel
theorem dX7_level_56 : decode cX7_level 56 = .ok (.ireturn, 1) := by decide +kernel
theorem dX7_move_0 : decode cX7_move 0 = .ok (.aload_n 0, 1) := by decide +kernel
theorem dX7_move_1 : decode cX7_move 1 = .ok (.invokevirtual 201, 3) := by decide +kernel
theorem dX7_move_4 : decode cX7_move 4 = .ok (.aload_n 0, 1) := by decide +kernel
theorem dX7_move_5 : decode cX7_move 5 = .ok (.dup, 1) := by decide +kernel
theorem dX7_move_6 : decode cX7_move 6 = .ok (.getfield 163, 3) := by decide +kernel
theorem dX7_move_9 : decode cX7_move 9 = .ok (.iconst 1, 1) := by decide +kernel
theorem dX7_move_10 : decode cX7_move 10 = .ok (.iadd, 1) := by decide +kernel
theorem dX7_move_11 : decode cX7_move 11 = .ok (.putfield 163, 3) := by decide +kernel
theorem dX7_move_14 : decode cX7_move 14 = .ok (.iconst 0, 1) := by decide +kernel
theorem dX7_move_15 : decode cX7_move 15 = .ok (.istore_n 2, 1) := by decide +kernel
theorem dX7_move_16 : decode cX7_move 16 = .ok (.iconst 0, 1) := by decide +kernel
theorem dX7_move_17 : decode cX7_move 17 = .ok (.istore_n 3, 1) := by decide +kernel
theorem dX7_move_18 : decode cX7_move 18 = .ok (.iload_n 3, 1) := by decide +kernel
theorem dX7_move_19 : decode cX7_move 19 = .ok (.aload_n 0, 1) := by decide +kernel
theorem dX7_move_20 : decode cX7_move 20 = .ok (.getfield 157, 3) := by decide +kernel
theorem dX7_move_23 : decode cX7_move 23 = .ok (.if_icmp .ge 82, 3) := by decide +kernel
theorem dX7_move_26 : decode cX7_move 26 = .ok (.aload_n 0, 1) := by decide +kernel
theorem dX7_move_27 : decode cX7_move 27 = .ok (.getfield 84, 3) := by decide +kernel
theorem dX7_move_30 : decode cX7_move 30 = .ok (.iload_n 3, 1) := by decide +kernel
theorem dX7_move_31 : decode cX7_move 31 = .ok (.iaload, 1) := by decide +kernel
theorem dX7_move_32 : decode cX7_move 32 = .ok (.ifCond .ne 7, 3) := by decide +kernel
theorem dX7_move_35 : decode cX7_move 35 = .ok (.iconst 1, 1) := by decide +kernel
theorem dX7_move_36 : decode cX7_move 36 = .ok (.goto 17, 3) := by decide +kernel
theorem dX7_move_39 : decode cX7_move 39 = .ok (.aload_n 0, 1) := by decide +kernel
theorem dX7_move_40 : decode cX7_move 40 = .ok (.getfield 81, 3) := by decide +kernel
theorem dX7_move_43 : decode cX7_move 43 = .ok (.iload_n 3, 1) := by decide +kernel
theorem dX7_move_44 : decode cX7_move 44 = .ok (.iaload, 1) := by decide +kernel
theorem dX7_move_45 : decode cX7_move 45 = .ok (.ifCond .ne 7, 3) := by decide +kernel
theorem dX7_move_48 : decode cX7_move 48 = .ok (.iconst 0, 1) := by decide +kernel
theorem dX7_move_49 : decode cX7_move 49 = .ok (.goto 4, 3) := by decide +kernel
theorem dX7_move_52 : decode cX7_move 52 = .ok (.iconst 2, 1) := by decide +kernel
theorem dX7_move_53 : decode cX7_move 53 = .ok (.istore 4, 2) := by decide +kernel
theorem dX7_move_55 : decode cX7_move 55 = .ok (.aload_n 0, 1) := by decide +kernel
theorem dX7_move_56 : decode cX7_move 56 = .ok (.getfield 87, 3) := by decide +kernel
theorem dX7_move_59 : decode cX7_move 59 = .ok (.iload_n 3, 1) := by decide +kernel
theorem dX7_move_60 : decode cX7_move 60 = .ok (.aload_n 0, 1) := by decide +kernel
theorem dX7_move_61 : decode cX7_move 61 = .ok (.iload_n 3, 1) := by decide +kernel
theorem dX7_move_62 : decode cX7_move 62 = .ok (.invokevirtual 187, 3) := by decide +kernel
theorem dX7_move_65 : decode cX7_move 65 = .ok (.ifCond .eq 12, 3) := by decide +kernel
theorem dX7_move_68 : decode cX7_move 68 = .ok (.aload_n 0, 1) := by decide +kernel
theorem dX7_move_69 : decode cX7_move 69 = .ok (.getfield 20, 3) := by decide +kernel
theorem dX7_move_72 : decode cX7_move 72 = .ok (.iload_n 3, 1) := by decide +kernel
theorem dX7_move_73 : decode cX7_move 73 = .ok (.iaload, 1) := by decide +kernel
theorem dX7_move_74 : decode cX7_move 74 = .ok (.goto 24, 3) := by decide +kernel
theorem dX7_move_77 : decode cX7_move 77 = .ok (.iload_n 1, 1) := by decide +kernel
theorem dX7_move_78 : decode cX7_move 78 = .ok (.ifCond .eq 18, 3) := by decide +kernel
theorem dX7_move_81 : decode cX7_move 81 = .ok (.iload 4, 2) := by decide +kernel
theorem dX7_move_83 : decode cX7_move 83 = .ok (.aload_n 0, 1) := by decide +kernel
theorem dX7_move_84 : decode cX7_move 84 = .ok (.getfield 20, 3) := by decide +kernel
theorem dX7_move_87 : decode cX7_move 87 = .ok (.iload_n 3, 1) := by decide +kernel
theorem dX7_move_88 : decode cX7_move 88 = .ok (.iaload, 1) := by decide +kernel
theorem dX7_move_89 : decode cX7_move 89 = .ok (.if_icmp .eq 7, 3) := by decide +kernel
theorem dX7_move_92 : decode cX7_move 92 = .ok (.iconst 2, 1) := by decide +kernel
theorem dX7_move_93 : decode cX7_move 93 = .ok (.goto 5, 3) := by decide +kernel
theorem dX7_move_96 : decode cX7_move 96 = .ok (.iload 4, 2) := by decide +kernel
theorem dX7_move_98 : decode cX7_move 98 = .ok (.iastore, 1) := by decide +kernel
theorem dX7_move_99 : decode cX7_move 99 = .ok (.iinc 3 1, 3) := by decide +kernel
theorem dX7_move_102 : decode cX7_move 102 = .ok (.goto (-84), 3) := by decide +kernel
theorem dX7_move_105 : decode cX7_move 105 = .ok (.iconst 0, 1) := by decide +kernel
theorem dX7_move_106 : decode cX7_move 106 = .ok (.istore_n 3, 1) := by decide +kernel
theorem dX7_move_107 : decode cX7_move 107 = .ok (.iload_n 3, 1) := by decide +kernel
theorem dX7_move_108 : decode cX7_move 108 = .ok (.aload_n 0, 1) := by decide +kernel
theorem dX7_move_109 : decode cX7_move 109 = .ok (.getfield 157, 3) := by decide +kernel
theorem dX7_move_112 : decode cX7_move 112 = .ok (.if_icmp .ge 80, 3) := by decide +kernel
theorem dX7_move_115 : decode cX7_move 115 = .ok (.aload_n 0, 1) := by decide +kernel
theorem dX7_move_116 : decode cX7_move 116 = .ok (.getfield 87, 3) := by decide +kernel
theorem dX7_move_119 : decode cX7_move 119 = .ok (.iload_n 3, 1) := by decide +kernel
theorem dX7_move_120 : decode cX7_move 120 = .ok (.iaload, 1) := by decide +kernel
theorem dX7_move_121 : decode cX7_move 121 = .ok (.aload_n 0, 1) := by decide +kernel
theorem dX7_move_122 : decode cX7_move 122 = .ok (.getfield 20, 3) := by decide +kernel
theorem dX7_move_125 : decode cX7_move 125 = .ok (.iload_n 3, 1) := by decide +kernel
theorem dX7_move_126 : decode cX7_move 126 = .ok (.iaload, 1) := by decide +kernel
theorem dX7_move_127 : decode cX7_move 127 = .ok (.if_icmp .eq 59, 3) := by decide +kernel
theorem dX7_move_130 : decode cX7_move 130 = .ok (.aload_n 0, 1) := by decide +kernel
theorem dX7_move_131 : decode cX7_move 131 = .ok (.getfield 20, 3) := by decide +kernel
theorem dX7_move_134 : decode cX7_move 134 = .ok (.iload_n 3, 1) := by decide +kernel
theorem dX7_move_135 : decode cX7_move 135 = .ok (.aload_n 0, 1) := by decide +kernel
theorem dX7_move_136 : decode cX7_move 136 = .ok (.getfield 87, 3) := by decide +kernel
theorem dX7_move_139 : decode cX7_move 139 = .ok (.iload_n 3, 1) := by decide +kernel
theorem dX7_move_140 : decode cX7_move 140 = .ok (.iaload, 1) := by decide +kernel
theorem dX7_move_141 : decode cX7_move 141 = .ok (.iastore, 1) := by decide +kernel
theorem dX7_move_142 : decode cX7_move 142 = .ok (.aload_n 0, 1) := by decide +kernel
theorem dX7_move_143 : decode cX7_move 143 = .ok (.getfield 75, 3) := by decide +kernel
theorem dX7_move_146 : decode cX7_move 146 = .ok (.aload_n 0, 1) := by decide +kernel
theorem dX7_move_147 : decode cX7_move 147 = .ok (.getfield 166, 3) := by decide +kernel
theorem dX7_move_150 : decode cX7_move 150 = .ok (.bipush 32, 2) := by decide +kernel
theorem dX7_move_152 : decode cX7_move 152 = .ok (.irem, 1) := by decide +kernel
theorem dX7_move_153 : decode cX7_move 153 = .ok (.sipush 128, 3) := by decide +kernel
theorem dX7_move_156 : decode cX7_move 156 = .ok (.aload_n 0, 1) := by decide +kernel
theorem dX7_move_157 : decode cX7_move 157 = .ok (.getfield 163, 3) := by decide +kernel
theorem dX7_move_160 : decode cX7_move 160 = .ok (.imul, 1) := by decide +kernel
theorem dX7_move_161 : decode cX7_move 161 = .ok (.iconst 4, 1) := by decide +kernel
theorem dX7_move_162 : decode cX7_move 162 = .ok (.iload_n 3, 1) := by decide +kernel
theorem dX7_move_163 : decode cX7_move 163 = .ok (.imul, 1) := by decide +kernel
theorem dX7_move_164 : decode cX7_move 164 = .ok (.iadd, 1) := by decide +kernel
theorem dX7_move_165 : decode cX7_move 165 = .ok (.aload_n 0, 1) := by decide +kernel
theorem dX7_move_166 : decode cX7_move 166 = .ok (.getfield 20, 3) := by decide +kernel
theorem dX7_move_169 : decode cX7_move 169 = .ok (.iload_n 3, 1) := by decide +kernel
theorem dX7_move_170 : decode cX7_move 170 = .ok (.iaload, 1) := by decide +kernel
theorem dX7_move_171 : decode cX7_move 171 = .ok (.iadd, 1) := by decide +kernel
theorem dX7_move_172 : decode cX7_move 172 = .ok (.iastore, 1) := by decide +kernel
theorem dX7_move_173 : decode cX7_move 173 = .ok (.aload_n 0, 1) := by decide +kernel
theorem dX7_move_174 : decode cX7_move 174 = .ok (.dup, 1) := by decide +kernel
theorem dX7_move_175 : decode cX7_move 175 = .ok (.getfield 166, 3) := by decide +kernel
theorem dX7_move_178 : decode cX7_move 178 = .ok (.iconst 1, 1) := by decide +kernel
theorem dX7_move_179 : decode cX7_move 179 = .ok (.iadd, 1) := by decide +kernel
theorem dX7_move_180 : decode cX7_move 180 = .ok (.putfield 166, 3) := by decide +kernel
theorem dX7_move_183 : decode cX7_move 183 = .ok (.iinc 2 1, 3) := by decide +kernel
theorem dX7_move_186 : decode cX7_move 186 = .ok (.iinc 3 1, 3) := by decide +kernel
theorem dX7_move_189 : decode cX7_move 189 = .ok (.goto (-82), 3) := by decide +kernel
theorem dX7_move_192 : decode cX7_move 192 = .ok (.iload_n 2, 1) := by decide +kernel
theorem dX7_move_193 : decode cX7_move 193 = .ok (.ireturn, 1) := by decide +kernel
theorem dX7_step_0 : decode cX7_step 0 = .ok (.aload_n 0, 1) := by decide +kernel
theorem dX7_step_1 : decode cX7_step 1 = .ok (.iconst 0, 1) := by decide +kernel
theorem dX7_step_2 : decode cX7_step 2 = .ok (.invokevirtual 204, 3) := by decide +kernel
theorem dX7_step_5 : decode cX7_step 5 = .ok (.ireturn, 1) := by decide +kernel
theorem dX7_settle_0 : decode cX7_settle 0 = .ok (.iconst 0, 1) := by decide +kernel
theorem dX7_settle_1 : decode cX7_settle 1 = .ok (.istore_n 1, 1) := by decide +kernel
theorem dX7_settle_2 : decode cX7_settle 2 = .ok (.iconst 1, 1) := by decide +kernel
theorem dX7_settle_3 : decode cX7_settle 3 = .ok (.istore_n 2, 1) := by decide +kernel
theorem dX7_settle_4 : decode cX7_settle 4 = .ok (.iload_n 1, 1) := by decide +kernel
theorem dX7_settle_5 : decode cX7_settle 5 = .ok (.aload_n 0, 1) := by decide +kernel
theorem dX7_settle_6 : decode cX7_settle 6 = .ok (.getfield 71, 3) := by decide +kernel
theorem dX7_settle_9 : decode cX7_settle 9 = .ok (.if_icmp .ge 19, 3) := by decide +kernel
theorem dX7_settle_12 : decode cX7_settle 12 = .ok (.iload_n 2, 1) := by decide +kernel
theorem dX7_settle_13 : decode cX7_settle 13 = .ok (.ifCond .le 15, 3) := by decide +kernel
theorem dX7_settle_16 : decode cX7_settle 16 = .ok (.aload_n 0, 1) := by decide +kernel
theorem dX7_settle_17 : decode cX7_settle 17 = .ok (.iconst 0, 1) := by decide +kernel
theorem dX7_settle_18 : decode cX7_settle 18 = .ok (.invokevirtual 204, 3) := by decide +kernel
theorem dX7_settle_21 : decode cX7_settle 21 = .ok (.istore_n 2, 1) := by decide +kernel
theorem dX7_settle_22 : decode cX7_settle 22 = .ok (.iinc 1 1, 3) := by decide +kernel
theorem dX7_settle_25 : decode cX7_settle 25 = .ok (.goto (-21), 3) := by decide +kernel
theorem dX7_settle_28 : decode cX7_settle 28 = .ok (.iload_n 2, 1) := by decide +kernel
theorem dX7_settle_29 : decode cX7_settle 29 = .ok (.ifCond .le 15, 3) := by decide +kernel
theorem dX7_settle_32 : decode cX7_settle 32 = .ok (.aload_n 0, 1) := by decide +kernel
theorem dX7_settle_33 : decode cX7_settle 33 = .ok (.iconst 1, 1) := by decide +kernel
theorem dX7_settle_34 : decode cX7_settle 34 = .ok (.invokevirtual 204, 3) := by decide +kernel
theorem dX7_settle_37 : decode cX7_settle 37 = .ok (.istore_n 2, 1) := by decide +kernel
theorem dX7_settle_38 : decode cX7_settle 38 = .ok (.iinc 1 1, 3) := by decide +kernel
theorem dX7_settle_41 : decode cX7_settle 41 = .ok (.goto (-13), 3) := by decide +kernel
theorem dX7_settle_44 : decode cX7_settle 44 = .ok (.iload_n 1, 1) := by decide +kernel
theorem dX7_settle_45 : decode cX7_settle 45 = .ok (.ireturn, 1) := by decide +kernel
theorem dX7_steps_0 : decode cX7_steps 0 = .ok (.aload_n 0, 1) := by decide +kernel
theorem dX7_steps_1 : decode cX7_steps 1 = .ok (.getfield 163, 3) := by decide +kernel
theorem dX7_steps_4 : decode cX7_steps 4 = .ok (.ireturn, 1) := by decide +kernel
theorem dX7_state_0 : decode cX7_state 0 = .ok (.aload_n 0, 1) := by decide +kernel
theorem dX7_state_1 : decode cX7_state 1 = .ok (.iload_n 1, 1) := by decide +kernel
theorem dX7_state_2 : decode cX7_state 2 = .ok (.invokevirtual 169, 3) := by decide +kernel
theorem dX7_state_5 : decode cX7_state 5 = .ok (.ifCond .eq 12, 3) := by decide +kernel
theorem dX7_state_8 : decode cX7_state 8 = .ok (.aload_n 0, 1) := by decide +kernel
theorem dX7_state_9 : decode cX7_state 9 = .ok (.getfield 20, 3) := by decide +kernel
theorem dX7_state_12 : decode cX7_state 12 = .ok (.iload_n 1, 1) := by decide +kernel
theorem dX7_state_13 : decode cX7_state 13 = .ok (.iaload, 1) := by decide +kernel
theorem dX7_state_14 : decode cX7_state 14 = .ok (.goto 4, 3) := by decide +kernel
theorem dX7_state_17 : decode cX7_state 17 = .ok (.iconst (-1), 1) := by decide +kernel
theorem dX7_state_18 : decode cX7_state 18 = .ok (.ireturn, 1) := by decide +kernel
theorem dX7_change_0 : decode cX7_change 0 = .ok (.iload_n 1, 1) := by decide +kernel
theorem dX7_change_1 : decode cX7_change 1 = .ok (.ifCond .lt 17, 3) := by decide +kernel
theorem dX7_change_4 : decode cX7_change 4 = .ok (.iload_n 1, 1) := by decide +kernel
theorem dX7_change_5 : decode cX7_change 5 = .ok (.bipush 31, 2) := by decide +kernel
theorem dX7_change_7 : decode cX7_change 7 = .ok (.if_icmp .gt 11, 3) := by decide +kernel
theorem dX7_change_10 : decode cX7_change 10 = .ok (.iload_n 1, 1) := by decide +kernel
theorem dX7_change_11 : decode cX7_change 11 = .ok (.aload_n 0, 1) := by decide +kernel
theorem dX7_change_12 : decode cX7_change 12 = .ok (.getfield 166, 3) := by decide +kernel
theorem dX7_change_15 : decode cX7_change 15 = .ok (.if_icmp .lt 7, 3) := by decide +kernel
theorem dX7_change_18 : decode cX7_change 18 = .ok (.iconst (-1), 1) := by decide +kernel
theorem dX7_change_19 : decode cX7_change 19 = .ok (.goto 19, 3) := by decide +kernel
theorem dX7_change_22 : decode cX7_change 22 = .ok (.aload_n 0, 1) := by decide +kernel
theorem dX7_change_23 : decode cX7_change 23 = .ok (.getfield 75, 3) := by decide +kernel
theorem dX7_change_26 : decode cX7_change 26 = .ok (.aload_n 0, 1) := by decide +kernel
theorem dX7_change_27 : decode cX7_change 27 = .ok (.getfield 166, 3) := by decide +kernel
theorem dX7_change_30 : decode cX7_change 30 = .ok (.iconst 1, 1) := by decide +kernel
theorem dX7_change_31 : decode cX7_change 31 = .ok (.isub, 1) := by decide +kernel
theorem dX7_change_32 : decode cX7_change 32 = .ok (.iload_n 1, 1) := by decide +kernel
theorem dX7_change_33 : decode cX7_change 33 = .ok (.isub, 1) := by decide +kernel
theorem dX7_change_34 : decode cX7_change 34 = .ok (.bipush 32, 2) := by decide +kernel
theorem dX7_change_36 : decode cX7_change 36 = .ok (.irem, 1) := by decide +kernel
theorem dX7_change_37 : decode cX7_change 37 = .ok (.iaload, 1) := by decide +kernel
theorem dX7_change_38 : decode cX7_change 38 = .ok (.ireturn, 1) := by decide +kernel
theorem dX7_group_0 : decode cX7_group 0 = .ok (.aload_n 0, 1) := by decide +kernel
theorem dX7_group_1 : decode cX7_group 1 = .ok (.iload_n 1, 1) := by decide +kernel
theorem dX7_group_2 : decode cX7_group 2 = .ok (.invokevirtual 169, 3) := by decide +kernel
theorem dX7_group_5 : decode cX7_group 5 = .ok (.ifCond .eq 11, 3) := by decide +kernel
theorem dX7_group_8 : decode cX7_group 8 = .ok (.aload_n 0, 1) := by decide +kernel
theorem dX7_group_9 : decode cX7_group 9 = .ok (.iload_n 1, 1) := by decide +kernel
theorem dX7_group_10 : decode cX7_group 10 = .ok (.invokevirtual 187, 3) := by decide +kernel
theorem dX7_group_13 : decode cX7_group 13 = .ok (.ifCond .eq 5, 3) := by decide +kernel
theorem dX7_group_16 : decode cX7_group 16 = .ok (.iconst (-1), 1) := by decide +kernel
theorem dX7_group_17 : decode cX7_group 17 = .ok (.ireturn, 1) := by decide +kernel
theorem dX7_group_18 : decode cX7_group 18 = .ok (.iconst 0, 1) := by decide +kernel
theorem dX7_group_19 : decode cX7_group 19 = .ok (.istore_n 2, 1) := by decide +kernel
theorem dX7_group_20 : decode cX7_group 20 = .ok (.iload_n 2, 1) := by decide +kernel
theorem dX7_group_21 : decode cX7_group 21 = .ok (.aload_n 0, 1) := by decide +kernel
theorem dX7_group_22 : decode cX7_group 22 = .ok (.getfield 157, 3) := by decide +kernel
theorem dX7_group_25 : decode cX7_group 25 = .ok (.if_icmp .ge 16, 3) := by decide +kernel
theorem dX7_group_28 : decode cX7_group 28 = .ok (.aload_n 0, 1) := by decide +kernel
theorem dX7_group_29 : decode cX7_group 29 = .ok (.getfield 90, 3) := by decide +kernel
theorem dX7_group_32 : decode cX7_group 32 = .ok (.iload_n 2, 1) := by decide +kernel
theorem dX7_group_33 : decode cX7_group 33 = .ok (.iload_n 2, 1) := by decide +kernel
theorem dX7_group_34 : decode cX7_group 34 = .ok (.iastore, 1) := by decide +kernel
theorem dX7_group_35 : decode cX7_group 35 = .ok (.iinc 2 1, 3) := by decide +kernel
theorem dX7_group_38 : decode cX7_group 38 = .ok (.goto (-18), 3) := by decide +kernel
theorem dX7_group_41 : decode cX7_group 41 = .ok (.iconst 0, 1) := by decide +kernel
theorem dX7_group_42 : decode cX7_group 42 = .ok (.istore_n 2, 1) := by decide +kernel
theorem dX7_group_43 : decode cX7_group 43 = .ok (.iload_n 2, 1) := by decide +kernel
theorem dX7_group_44 : decode cX7_group 44 = .ok (.aload_n 0, 1) := by decide +kernel
theorem dX7_group_45 : decode cX7_group 45 = .ok (.getfield 157, 3) := by decide +kernel
theorem dX7_group_48 : decode cX7_group 48 = .ok (.if_icmp .ge 96, 3) := by decide +kernel
theorem dX7_group_51 : decode cX7_group 51 = .ok (.iconst 0, 1) := by decide +kernel
theorem dX7_group_52 : decode cX7_group 52 = .ok (.istore_n 3, 1) := by decide +kernel
theorem dX7_group_53 : decode cX7_group 53 = .ok (.iload_n 3, 1) := by decide +kernel
theorem dX7_group_54 : decode cX7_group 54 = .ok (.aload_n 0, 1) := by decide +kernel
theorem dX7_group_55 : decode cX7_group 55 = .ok (.getfield 154, 3) := by decide +kernel
theorem dX7_group_58 : decode cX7_group 58 = .ok (.if_icmp .ge 80, 3) := by decide +kernel
theorem dX7_group_61 : decode cX7_group 61 = .ok (.aload_n 0, 1) := by decide +kernel
theorem dX7_group_62 : decode cX7_group 62 = .ok (.getfield 32, 3) := by decide +kernel
theorem dX7_group_65 : decode cX7_group 65 = .ok (.iload_n 3, 1) := by decide +kernel
theorem dX7_group_66 : decode cX7_group 66 = .ok (.iaload, 1) := by decide +kernel
theorem dX7_group_67 : decode cX7_group 67 = .ok (.istore 4, 2) := by decide +kernel
theorem dX7_group_69 : decode cX7_group 69 = .ok (.aload_n 0, 1) := by decide +kernel
theorem dX7_group_70 : decode cX7_group 70 = .ok (.getfield 35, 3) := by decide +kernel
theorem dX7_group_73 : decode cX7_group 73 = .ok (.iload_n 3, 1) := by decide +kernel
theorem dX7_group_74 : decode cX7_group 74 = .ok (.iaload, 1) := by decide +kernel
theorem dX7_group_75 : decode cX7_group 75 = .ok (.istore 5, 2) := by decide +kernel
theorem dX7_group_77 : decode cX7_group 77 = .ok (.aload_n 0, 1) := by decide +kernel
theorem dX7_group_78 : decode cX7_group 78 = .ok (.iload 4, 2) := by decide +kernel
theorem dX7_group_80 : decode cX7_group 80 = .ok (.invokevirtual 187, 3) := by decide +kernel
theorem dX7_group_83 : decode cX7_group 83 = .ok (.ifCond .ne 49, 3) := by decide +kernel
theorem dX7_group_86 : decode cX7_group 86 = .ok (.aload_n 0, 1) := by decide +kernel
theorem dX7_group_87 : decode cX7_group 87 = .ok (.iload 5, 2) := by decide +kernel
theorem dX7_group_89 : decode cX7_group 89 = .ok (.invokevirtual 187, 3) := by decide +kernel
theorem dX7_group_92 : decode cX7_group 92 = .ok (.ifCond .ne 40, 3) := by decide +kernel
theorem dX7_group_95 : decode cX7_group 95 = .ok (.aload_n 0, 1) := by decide +kernel
theorem dX7_group_96 : decode cX7_group 96 = .ok (.getfield 90, 3) := by decide +kernel
theorem dX7_group_99 : decode cX7_group 99 = .ok (.iload 4, 2) := by decide +kernel
theorem dX7_group_101 : decode cX7_group 101 = .ok (.iaload, 1) := by decide +kernel
theorem dX7_group_102 : decode cX7_group 102 = .ok (.aload_n 0, 1) := by decide +kernel
theorem dX7_group_103 : decode cX7_group 103 = .ok (.getfield 90, 3) := by decide +kernel
theorem dX7_group_106 : decode cX7_group 106 = .ok (.iload 5, 2) := by decide +kernel
theorem dX7_group_108 : decode cX7_group 108 = .ok (.iaload, 1) := by decide +kernel
theorem dX7_group_109 : decode cX7_group 109 = .ok (.invokestatic 179, 3) := by decide +kernel
theorem dX7_group_112 : decode cX7_group 112 = .ok (.istore 6, 2) := by decide +kernel
theorem dX7_group_114 : decode cX7_group 114 = .ok (.aload_n 0, 1) := by decide +kernel
theorem dX7_group_115 : decode cX7_group 115 = .ok (.getfield 90, 3) := by decide +kernel
theorem dX7_group_118 : decode cX7_group 118 = .ok (.iload 4, 2) := by decide +kernel
theorem dX7_group_120 : decode cX7_group 120 = .ok (.iload 6, 2) := by decide +kernel
theorem dX7_group_122 : decode cX7_group 122 = .ok (.iastore, 1) := by decide +kernel
theorem dX7_group_123 : decode cX7_group 123 = .ok (.aload_n 0, 1) := by decide +kernel
theorem dX7_group_124 : decode cX7_group 124 = .ok (.getfield 90, 3) := by decide +kernel
theorem dX7_group_127 : decode cX7_group 127 = .ok (.iload 5, 2) := by decide +kernel
theorem dX7_group_129 : decode cX7_group 129 = .ok (.iload 6, 2) := by decide +kernel
theorem dX7_group_131 : decode cX7_group 131 = .ok (.iastore, 1) := by decide +kernel
theorem dX7_group_132 : decode cX7_group 132 = .ok (.iinc 3 1, 3) := by decide +kernel
theorem dX7_group_135 : decode cX7_group 135 = .ok (.goto (-82), 3) := by decide +kernel
theorem dX7_group_138 : decode cX7_group 138 = .ok (.iinc 2 1, 3) := by decide +kernel
theorem dX7_group_141 : decode cX7_group 141 = .ok (.goto (-98), 3) := by decide +kernel
theorem dX7_group_144 : decode cX7_group 144 = .ok (.aload_n 0, 1) := by decide +kernel
theorem dX7_group_145 : decode cX7_group 145 = .ok (.getfield 90, 3) := by decide +kernel
theorem dX7_group_148 : decode cX7_group 148 = .ok (.iload_n 1, 1) := by decide +kernel
theorem dX7_group_149 : decode cX7_group 149 = .ok (.iaload, 1) := by decide +kernel
theorem dX7_group_150 : decode cX7_group 150 = .ok (.ireturn, 1) := by decide +kernel
