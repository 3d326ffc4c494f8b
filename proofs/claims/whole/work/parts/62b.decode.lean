theorem dX5_init_15 : decode cX5_init 15 = .ok (.newarray .int, 2) := by decide +kernel
theorem dX5_init_17 : decode cX5_init 17 = .ok (.putfield 15, 3) := by decide +kernel
theorem dX5_init_20 : decode cX5_init 20 = .ok (.aload_n 0, 1) := by decide +kernel
theorem dX5_init_21 : decode cX5_init 21 = .ok (.bipush 40, 2) := by decide +kernel
theorem dX5_init_23 : decode cX5_init 23 = .ok (.newarray .int, 2) := by decide +kernel
theorem dX5_init_25 : decode cX5_init 25 = .ok (.putfield 18, 3) := by decide +kernel
theorem dX5_init_28 : decode cX5_init 28 = .ok (.aload_n 0, 1) := by decide +kernel
theorem dX5_init_29 : decode cX5_init 29 = .ok (.iconst 0, 1) := by decide +kernel
theorem dX5_init_30 : decode cX5_init 30 = .ok (.putfield 21, 3) := by decide +kernel
theorem dX5_init_33 : decode cX5_init 33 = .ok (.aload_n 0, 1) := by decide +kernel
theorem dX5_init_34 : decode cX5_init 34 = .ok (.iconst 0, 1) := by decide +kernel
theorem dX5_init_35 : decode cX5_init 35 = .ok (.putfield 25, 3) := by decide +kernel
theorem dX5_init_38 : decode cX5_init 38 = .ok (.aload_n 0, 1) := by decide +kernel
theorem dX5_init_39 : decode cX5_init 39 = .ok (.iconst 0, 1) := by decide +kernel
theorem dX5_init_40 : decode cX5_init 40 = .ok (.putfield 28, 3) := by decide +kernel
theorem dX5_init_43 : decode cX5_init 43 = .ok (.aload_n 0, 1) := by decide +kernel
theorem dX5_init_44 : decode cX5_init 44 = .ok (.iconst 0, 1) := by decide +kernel
theorem dX5_init_45 : decode cX5_init 45 = .ok (.putfield 31, 3) := by decide +kernel
theorem dX5_init_48 : decode cX5_init 48 = .ok (.return_, 1) := by decide +kernel
theorem dX5_readCounty_0 : decode cX5_readCounty 0 = .ok (.aload_n 0, 1) := by decide +kernel
theorem dX5_readCounty_1 : decode cX5_readCounty 1 = .ok (.iload_n 2, 1) := by decide +kernel
theorem dX5_readCounty_2 : decode cX5_readCounty 2 = .ok (.putfield 25, 3) := by decide +kernel
theorem dX5_readCounty_5 : decode cX5_readCounty 5 = .ok (.aload_n 0, 1) := by decide +kernel
theorem dX5_readCounty_6 : decode cX5_readCounty 6 = .ok (.iconst 0, 1) := by decide +kernel
theorem dX5_readCounty_7 : decode cX5_readCounty 7 = .ok (.putfield 28, 3) := by decide +kernel
theorem dX5_readCounty_10 : decode cX5_readCounty 10 = .ok (.aload_n 0, 1) := by decide +kernel
theorem dX5_readCounty_11 : decode cX5_readCounty 11 = .ok (.bipush 76, 2) := by decide +kernel
theorem dX5_readCounty_13 : decode cX5_readCounty 13 = .ok (.aload_n 1, 1) := by decide +kernel
theorem dX5_readCounty_14 : decode cX5_readCounty 14 = .ok (.invokevirtual 34, 3) := by decide +kernel
theorem dX5_readCounty_17 : decode cX5_readCounty 17 = .ok (.ireturn, 1) := by decide +kernel
theorem dX5_readNight_0 : decode cX5_readNight 0 = .ok (.aload_n 0, 1) := by decide +kernel
theorem dX5_readNight_1 : decode cX5_readNight 1 = .ok (.bipush 9, 2) := by decide +kernel
theorem dX5_readNight_3 : decode cX5_readNight 3 = .ok (.putfield 25, 3) := by decide +kernel
theorem dX5_readNight_6 : decode cX5_readNight 6 = .ok (.aload_n 0, 1) := by decide +kernel
theorem dX5_readNight_7 : decode cX5_readNight 7 = .ok (.bipush 7, 2) := by decide +kernel
theorem dX5_readNight_9 : decode cX5_readNight 9 = .ok (.putfield 28, 3) := by decide +kernel
theorem dX5_readNight_12 : decode cX5_readNight 12 = .ok (.aload_n 0, 1) := by decide +kernel
theorem dX5_readNight_13 : decode cX5_readNight 13 = .ok (.bipush 40, 2) := by decide +kernel
theorem dX5_readNight_15 : decode cX5_readNight 15 = .ok (.aload_n 1, 1) := by decide +kernel
theorem dX5_readNight_16 : decode cX5_readNight 16 = .ok (.invokevirtual 34, 3) := by decide +kernel
theorem dX5_readNight_19 : decode cX5_readNight 19 = .ok (.ireturn, 1) := by decide +kernel
theorem dX5_readUpTo_0 : decode cX5_readUpTo 0 = .ok (.aload_n 0, 1) := by decide +kernel
theorem dX5_readUpTo_1 : decode cX5_readUpTo 1 = .ok (.iconst 0, 1) := by decide +kernel
theorem dX5_readUpTo_2 : decode cX5_readUpTo 2 = .ok (.putfield 21, 3) := by decide +kernel
theorem dX5_readUpTo_5 : decode cX5_readUpTo 5 = .ok (.aload_n 0, 1) := by decide +kernel
theorem dX5_readUpTo_6 : decode cX5_readUpTo 6 = .ok (.aload_n 0, 1) := by decide +kernel
theorem dX5_readUpTo_7 : decode cX5_readUpTo 7 = .ok (.getfield 28, 3) := by decide +kernel
theorem dX5_readUpTo_10 : decode cX5_readUpTo 10 = .ok (.putfield 31, 3) := by decide +kernel
theorem dX5_readUpTo_13 : decode cX5_readUpTo 13 = .ok (.aload_n 2, 1) := by decide +kernel
theorem dX5_readUpTo_14 : decode cX5_readUpTo 14 = .ok (.getfield 38, 3) := by decide +kernel
theorem dX5_readUpTo_17 : decode cX5_readUpTo 17 = .ok (.ifCond .ne 5, 3) := by decide +kernel
theorem dX5_readUpTo_20 : decode cX5_readUpTo 20 = .ok (.iconst (-1), 1) := by decide +kernel
theorem dX5_readUpTo_21 : decode cX5_readUpTo 21 = .ok (.ireturn, 1) := by decide +kernel
theorem dX5_readUpTo_22 : decode cX5_readUpTo 22 = .ok (.iload_n 1, 1) := by decide +kernel
theorem dX5_readUpTo_23 : decode cX5_readUpTo 23 = .ok (.aload_n 2, 1) := by decide +kernel
theorem dX5_readUpTo_24 : decode cX5_readUpTo 24 = .ok (.getfield 38, 3) := by decide +kernel
theorem dX5_readUpTo_27 : decode cX5_readUpTo 27 = .ok (.invokestatic 43, 3) := by decide +kernel
theorem dX5_readUpTo_30 : decode cX5_readUpTo 30 = .ok (.istore_n 3, 1) := by decide +kernel
theorem dX5_readUpTo_31 : decode cX5_readUpTo 31 = .ok (.iconst 0, 1) := by decide +kernel
theorem dX5_readUpTo_32 : decode cX5_readUpTo 32 = .ok (.istore 4, 2) := by decide +kernel
theorem dX5_readUpTo_34 : decode cX5_readUpTo 34 = .ok (.iload 4, 2) := by decide +kernel
theorem dX5_readUpTo_36 : decode cX5_readUpTo 36 = .ok (.iload_n 3, 1) := by decide +kernel
theorem dX5_readUpTo_37 : decode cX5_readUpTo 37 = .ok (.if_icmp .ge 26, 3) := by decide +kernel
theorem dX5_readUpTo_40 : decode cX5_readUpTo 40 = .ok (.aload_n 0, 1) := by decide +kernel
theorem dX5_readUpTo_41 : decode cX5_readUpTo 41 = .ok (.aload_n 2, 1) := by decide +kernel
theorem dX5_readUpTo_42 : decode cX5_readUpTo 42 = .ok (.getfield 49, 3) := by decide +kernel
theorem dX5_readUpTo_45 : decode cX5_readUpTo 45 = .ok (.iload 4, 2) := by decide +kernel
theorem dX5_readUpTo_47 : decode cX5_readUpTo 47 = .ok (.caload, 1) := by decide +kernel
theorem dX5_readUpTo_48 : decode cX5_readUpTo 48 = .ok (.invokevirtual 53, 3) := by decide +kernel
theorem dX5_readUpTo_51 : decode cX5_readUpTo 51 = .ok (.ifCond .ne 6, 3) := by decide +kernel
theorem dX5_readUpTo_54 : decode cX5_readUpTo 54 = .ok (.iload 4, 2) := by decide +kernel
theorem dX5_readUpTo_56 : decode cX5_readUpTo 56 = .ok (.ireturn, 1) := by decide +kernel
theorem dX5_readUpTo_57 : decode cX5_readUpTo 57 = .ok (.iinc 4 1, 3) := by decide +kernel
theorem dX5_readUpTo_60 : decode cX5_readUpTo 60 = .ok (.goto (-26), 3) := by decide +kernel
theorem dX5_readUpTo_63 : decode cX5_readUpTo 63 = .ok (.aload_n 2, 1) := by decide +kernel
theorem dX5_readUpTo_64 : decode cX5_readUpTo 64 = .ok (.getfield 38, 3) := by decide +kernel
theorem dX5_readUpTo_67 : decode cX5_readUpTo 67 = .ok (.iload_n 1, 1) := by decide +kernel
theorem dX5_readUpTo_68 : decode cX5_readUpTo 68 = .ok (.if_icmp .gt 14, 3) := by decide +kernel
theorem dX5_readUpTo_71 : decode cX5_readUpTo 71 = .ok (.aload_n 0, 1) := by decide +kernel
theorem dX5_readUpTo_72 : decode cX5_readUpTo 72 = .ok (.invokevirtual 57, 3) := by decide +kernel
theorem dX5_readUpTo_75 : decode cX5_readUpTo 75 = .ok (.ifCond .eq 7, 3) := by decide +kernel
theorem dX5_readUpTo_78 : decode cX5_readUpTo 78 = .ok (.iconst (-1), 1) := by decide +kernel
theorem dX5_readUpTo_79 : decode cX5_readUpTo 79 = .ok (.goto 4, 3) := by decide +kernel
theorem dX5_readUpTo_82 : decode cX5_readUpTo 82 = .ok (.iload_n 3, 1) := by decide +kernel
theorem dX5_readUpTo_83 : decode cX5_readUpTo 83 = .ok (.ireturn, 1) := by decide +kernel
theorem dX5_mayEnd_0 : decode cX5_mayEnd 0 = .ok (.aload_n 0, 1) := by decide +kernel
theorem dX5_mayEnd_1 : decode cX5_mayEnd 1 = .ok (.getfield 31, 3) := by decide +kernel
theorem dX5_mayEnd_4 : decode cX5_mayEnd 4 = .ok (.iconst 1, 1) := by decide +kernel
theorem dX5_mayEnd_5 : decode cX5_mayEnd 5 = .ok (.if_icmp .eq 37, 3) := by decide +kernel
theorem dX5_mayEnd_8 : decode cX5_mayEnd 8 = .ok (.aload_n 0, 1) := by decide +kernel
theorem dX5_mayEnd_9 : decode cX5_mayEnd 9 = .ok (.getfield 31, 3) := by decide +kernel
theorem dX5_mayEnd_12 : decode cX5_mayEnd 12 = .ok (.iconst 2, 1) := by decide +kernel
theorem dX5_mayEnd_13 : decode cX5_mayEnd 13 = .ok (.if_icmp .eq 29, 3) := by decide +kernel
theorem dX5_mayEnd_16 : decode cX5_mayEnd 16 = .ok (.aload_n 0, 1) := by decide +kernel
theorem dX5_mayEnd_17 : decode cX5_mayEnd 17 = .ok (.getfield 31, 3) := by decide +kernel
theorem dX5_mayEnd_20 : decode cX5_mayEnd 20 = .ok (.iconst 5, 1) := by decide +kernel
theorem dX5_mayEnd_21 : decode cX5_mayEnd 21 = .ok (.if_icmp .eq 21, 3) := by decide +kernel
theorem dX5_mayEnd_24 : decode cX5_mayEnd 24 = .ok (.aload_n 0, 1) := by decide +kernel
theorem dX5_mayEnd_25 : decode cX5_mayEnd 25 = .ok (.getfield 31, 3) := by decide +kernel
theorem dX5_mayEnd_28 : decode cX5_mayEnd 28 = .ok (.bipush 10, 2) := by decide +kernel
theorem dX5_mayEnd_30 : decode cX5_mayEnd 30 = .ok (.if_icmp .eq 12, 3) := by decide +kernel
theorem dX5_mayEnd_33 : decode cX5_mayEnd 33 = .ok (.aload_n 0, 1) := by decide +kernel
theorem dX5_mayEnd_34 : decode cX5_mayEnd 34 = .ok (.getfield 31, 3) := by decide +kernel
theorem dX5_mayEnd_37 : decode cX5_mayEnd 37 = .ok (.bipush 12, 2) := by decide +kernel
theorem dX5_mayEnd_39 : decode cX5_mayEnd 39 = .ok (.if_icmp .ne 7, 3) := by decide +kernel
theorem dX5_mayEnd_42 : decode cX5_mayEnd 42 = .ok (.iconst 1, 1) := by decide +kernel
theorem dX5_mayEnd_43 : decode cX5_mayEnd 43 = .ok (.goto 4, 3) := by decide +kernel
theorem dX5_mayEnd_46 : decode cX5_mayEnd 46 = .ok (.iconst 0, 1) := by decide +kernel
theorem dX5_mayEnd_47 : decode cX5_mayEnd 47 = .ok (.ireturn, 1) := by decide +kernel
theorem dX5_takes_0 : decode cX5_takes 0 = .ok (.aload_n 0, 1) := by decide +kernel
theorem dX5_takes_1 : decode cX5_takes 1 = .ok (.getfield 31, 3) := by decide +kernel
theorem dX5_takes_4 : decode cX5_takes 4 = .ok (.tableswitch 242 0 11 #[64, 93, 120, 129, 137, 173, 129, 183, 195, 213, 224, 234], 64) := by decide +kernel
theorem dX5_takes_68 : decode cX5_takes 68 = .ok (.iload_n 1, 1) := by decide +kernel
theorem dX5_takes_69 : decode cX5_takes 69 = .ok (.invokestatic 61, 3) := by decide +kernel
theorem dX5_takes_72 : decode cX5_takes 72 = .ok (.ifCond .eq 14, 3) := by decide +kernel
theorem dX5_takes_75 : decode cX5_takes 75 = .ok (.aload_n 0, 1) := by decide +kernel
theorem dX5_takes_76 : decode cX5_takes 76 = .ok (.iload_n 1, 1) := by decide +kernel
theorem dX5_takes_77 : decode cX5_takes 77 = .ok (.bipush 48, 2) := by decide +kernel
theorem dX5_takes_79 : decode cX5_takes 79 = .ok (.isub, 1) := by decide +kernel
theorem dX5_takes_80 : decode cX5_takes 80 = .ok (.invokevirtual 64, 3) := by decide +kernel
theorem dX5_takes_83 : decode cX5_takes 83 = .ok (.goto 13, 3) := by decide +kernel
theorem dX5_takes_86 : decode cX5_takes 86 = .ok (.aload_n 0, 1) := by decide +kernel
theorem dX5_takes_87 : decode cX5_takes 87 = .ok (.iload_n 1, 1) := by decide +kernel
theorem dX5_takes_88 : decode cX5_takes 88 = .ok (.bipush 97, 2) := by decide +kernel
theorem dX5_takes_90 : decode cX5_takes 90 = .ok (.isub, 1) := by decide +kernel
theorem dX5_takes_91 : decode cX5_takes 91 = .ok (.iconst 0, 1) := by decide +kernel
theorem dX5_takes_92 : decode cX5_takes 92 = .ok (.iconst 4, 1) := by decide +kernel
theorem dX5_takes_93 : decode cX5_takes 93 = .ok (.invokevirtual 68, 3) := by decide +kernel
theorem dX5_takes_96 : decode cX5_takes 96 = .ok (.ireturn, 1) := by decide +kernel
theorem dX5_takes_97 : decode cX5_takes 97 = .ok (.iload_n 1, 1) := by decide +kernel
theorem dX5_takes_98 : decode cX5_takes 98 = .ok (.invokestatic 61, 3) := by decide +kernel
theorem dX5_takes_101 : decode cX5_takes 101 = .ok (.ifCond .eq 14, 3) := by decide +kernel
theorem dX5_takes_104 : decode cX5_takes 104 = .ok (.aload_n 0, 1) := by decide +kernel
theorem dX5_takes_105 : decode cX5_takes 105 = .ok (.iload_n 1, 1) := by decide +kernel
theorem dX5_takes_106 : decode cX5_takes 106 = .ok (.bipush 48, 2) := by decide +kernel
theorem dX5_takes_108 : decode cX5_takes 108 = .ok (.isub, 1) := by decide +kernel
theorem dX5_takes_109 : decode cX5_takes 109 = .ok (.invokevirtual 72, 3) := by decide +kernel
theorem dX5_takes_112 : decode cX5_takes 112 = .ok (.goto 11, 3) := by decide +kernel
theorem dX5_takes_115 : decode cX5_takes 115 = .ok (.aload_n 0, 1) := by decide +kernel
theorem dX5_takes_116 : decode cX5_takes 116 = .ok (.iload_n 1, 1) := by decide +kernel
theorem dX5_takes_117 : decode cX5_takes 117 = .ok (.bipush 43, 2) := by decide +kernel
theorem dX5_takes_119 : decode cX5_takes 119 = .ok (.iconst 3, 1) := by decide +kernel
theorem dX5_takes_120 : decode cX5_takes 120 = .ok (.invokevirtual 75, 3) := by decide +kernel
theorem dX5_takes_123 : decode cX5_takes 123 = .ok (.ireturn, 1) := by decide +kernel
theorem dX5_takes_124 : decode cX5_takes 124 = .ok (.aload_n 0, 1) := by decide +kernel
theorem dX5_takes_125 : decode cX5_takes 125 = .ok (.iload_n 1, 1) := by decide +kernel
theorem dX5_takes_126 : decode cX5_takes 126 = .ok (.bipush 43, 2) := by decide +kernel
theorem dX5_takes_128 : decode cX5_takes 128 = .ok (.iconst 3, 1) := by decide +kernel
theorem dX5_takes_129 : decode cX5_takes 129 = .ok (.invokevirtual 75, 3) := by decide +kernel
theorem dX5_takes_132 : decode cX5_takes 132 = .ok (.ireturn, 1) := by decide +kernel
theorem dX5_takes_133 : decode cX5_takes 133 = .ok (.aload_n 0, 1) := by decide +kernel
theorem dX5_takes_134 : decode cX5_takes 134 = .ok (.iload_n 1, 1) := by decide +kernel
theorem dX5_takes_135 : decode cX5_takes 135 = .ok (.bipush 48, 2) := by decide +kernel
theorem dX5_takes_137 : decode cX5_takes 137 = .ok (.invokevirtual 79, 3) := by decide +kernel
theorem dX5_takes_140 : decode cX5_takes 140 = .ok (.ireturn, 1) := by decide +kernel
theorem dX5_takes_141 : decode cX5_takes 141 = .ok (.iload_n 1, 1) := by decide +kernel
theorem dX5_takes_142 : decode cX5_takes 142 = .ok (.bipush 97, 2) := by decide +kernel
theorem dX5_takes_144 : decode cX5_takes 144 = .ok (.isub, 1) := by decide +kernel
theorem dX5_takes_145 : decode cX5_takes 145 = .ok (.aload_n 0, 1) := by decide +kernel
theorem dX5_takes_146 : decode cX5_takes 146 = .ok (.getfield 9, 3) := by decide +kernel
theorem dX5_takes_149 : decode cX5_takes 149 = .ok (.aload_n 0, 1) := by decide +kernel
theorem dX5_takes_150 : decode cX5_takes 150 = .ok (.getfield 21, 3) := by decide +kernel
theorem dX5_takes_153 : decode cX5_takes 153 = .ok (.iconst 1, 1) := by decide +kernel
theorem dX5_takes_154 : decode cX5_takes 154 = .ok (.isub, 1) := by decide +kernel
theorem dX5_takes_155 : decode cX5_takes 155 = .ok (.iaload, 1) := by decide +kernel
theorem dX5_takes_156 : decode cX5_takes 156 = .ok (.if_icmp .eq 19, 3) := by decide +kernel
theorem dX5_takes_159 : decode cX5_takes 159 = .ok (.aload_n 0, 1) := by decide +kernel
theorem dX5_takes_160 : decode cX5_takes 160 = .ok (.iload_n 1, 1) := by decide +kernel
theorem dX5_takes_161 : decode cX5_takes 161 = .ok (.bipush 97, 2) := by decide +kernel
theorem dX5_takes_163 : decode cX5_takes 163 = .ok (.isub, 1) := by decide +kernel
theorem dX5_takes_164 : decode cX5_takes 164 = .ok (.iconst 5, 1) := by decide +kernel
theorem dX5_takes_165 : decode cX5_takes 165 = .ok (.invokevirtual 83, 3) := by decide +kernel
theorem dX5_takes_168 : decode cX5_takes 168 = .ok (.ifCond .eq 7, 3) := by decide +kernel
theorem dX5_takes_171 : decode cX5_takes 171 = .ok (.iconst 1, 1) := by decide +kernel
theorem dX5_takes_172 : decode cX5_takes 172 = .ok (.goto 4, 3) := by decide +kernel
theorem dX5_takes_175 : decode cX5_takes 175 = .ok (.iconst 0, 1) := by decide +kernel
theorem dX5_takes_176 : decode cX5_takes 176 = .ok (.ireturn, 1) := by decide +kernel
theorem dX5_takes_177 : decode cX5_takes 177 = .ok (.aload_n 0, 1) := by decide +kernel
theorem dX5_takes_178 : decode cX5_takes 178 = .ok (.iload_n 1, 1) := by decide +kernel
theorem dX5_takes_179 : decode cX5_takes 179 = .ok (.bipush 47, 2) := by decide +kernel
theorem dX5_takes_181 : decode cX5_takes 181 = .ok (.bipush 6, 2) := by decide +kernel
theorem dX5_takes_183 : decode cX5_takes 183 = .ok (.invokevirtual 75, 3) := by decide +kernel
theorem dX5_takes_186 : decode cX5_takes 186 = .ok (.ireturn, 1) := by decide +kernel
theorem dX5_takes_187 : decode cX5_takes 187 = .ok (.aload_n 0, 1) := by decide +kernel
theorem dX5_takes_188 : decode cX5_takes 188 = .ok (.iload_n 1, 1) := by decide +kernel
theorem dX5_takes_189 : decode cX5_takes 189 = .ok (.bipush 97, 2) := by decide +kernel
theorem dX5_takes_191 : decode cX5_takes 191 = .ok (.isub, 1) := by decide +kernel
theorem dX5_takes_192 : decode cX5_takes 192 = .ok (.iconst 1, 1) := by decide +kernel
theorem dX5_takes_193 : decode cX5_takes 193 = .ok (.bipush 8, 2) := by decide +kernel
theorem dX5_takes_195 : decode cX5_takes 195 = .ok (.invokevirtual 68, 3) := by decide +kernel
theorem dX5_takes_198 : decode cX5_takes 198 = .ok (.ireturn, 1) := by decide +kernel
theorem dX5_takes_199 : decode cX5_takes 199 = .ok (.aload_n 0, 1) := by decide +kernel
theorem dX5_takes_200 : decode cX5_takes 200 = .ok (.bipush 9, 2) := by decide +kernel
theorem dX5_takes_202 : decode cX5_takes 202 = .ok (.putfield 31, 3) := by decide +kernel
theorem dX5_takes_205 : decode cX5_takes 205 = .ok (.iload_n 1, 1) := by decide +kernel
theorem dX5_takes_206 : decode cX5_takes 206 = .ok (.bipush 62, 2) := by decide +kernel
theorem dX5_takes_208 : decode cX5_takes 208 = .ok (.if_icmp .ne 7, 3) := by decide +kernel
theorem dX5_takes_211 : decode cX5_takes 211 = .ok (.iconst 1, 1) := by decide +kernel
theorem dX5_takes_212 : decode cX5_takes 212 = .ok (.goto 4, 3) := by decide +kernel
theorem dX5_takes_215 : decode cX5_takes 215 = .ok (.iconst 0, 1) := by decide +kernel
theorem dX5_takes_216 : decode cX5_takes 216 = .ok (.ireturn, 1) := by decide +kernel
theorem dX5_takes_217 : decode cX5_takes 217 = .ok (.aload_n 0, 1) := by decide +kernel
theorem dX5_takes_218 : decode cX5_takes 218 = .ok (.iload_n 1, 1) := by decide +kernel
theorem dX5_takes_219 : decode cX5_takes 219 = .ok (.bipush 97, 2) := by decide +kernel
theorem dX5_takes_221 : decode cX5_takes 221 = .ok (.isub, 1) := by decide +kernel
theorem dX5_takes_222 : decode cX5_takes 222 = .ok (.bipush 10, 2) := by decide +kernel
theorem dX5_takes_224 : decode cX5_takes 224 = .ok (.invokevirtual 83, 3) := by decide +kernel
theorem dX5_takes_227 : decode cX5_takes 227 = .ok (.ireturn, 1) := by decide +kernel
theorem dX5_takes_228 : decode cX5_takes 228 = .ok (.aload_n 0, 1) := by decide +kernel
theorem dX5_takes_229 : decode cX5_takes 229 = .ok (.iload_n 1, 1) := by decide +kernel
theorem dX5_takes_230 : decode cX5_takes 230 = .ok (.bipush 42, 2) := by decide +kernel
theorem dX5_takes_232 : decode cX5_takes 232 = .ok (.bipush 11, 2) := by decide +kernel
theorem dX5_takes_234 : decode cX5_takes 234 = .ok (.invokevirtual 75, 3) := by decide +kernel
theorem dX5_takes_237 : decode cX5_takes 237 = .ok (.ireturn, 1) := by decide +kernel
theorem dX5_takes_238 : decode cX5_takes 238 = .ok (.aload_n 0, 1) := by decide +kernel
theorem dX5_takes_239 : decode cX5_takes 239 = .ok (.iload_n 1, 1) := by decide +kernel
theorem dX5_takes_240 : decode cX5_takes 240 = .ok (.bipush 49, 2) := by decide +kernel
theorem dX5_takes_242 : decode cX5_takes 242 = .ok (.invokevirtual 79, 3) := by decide +kernel
theorem dX5_takes_245 : decode cX5_takes 245 = .ok (.ireturn, 1) := by decide +kernel
theorem dX5_takes_246 : decode cX5_takes 246 = .ok (.aload_n 0, 1) := by decide +kernel
theorem dX5_takes_247 : decode cX5_takes 247 = .ok (.iload_n 1, 1) := by decide +kernel
theorem dX5_takes_248 : decode cX5_takes 248 = .ok (.bipush 59, 2) := by decide +kernel
theorem dX5_takes_250 : decode cX5_takes 250 = .ok (.aload_n 0, 1) := by decide +kernel
theorem dX5_takes_251 : decode cX5_takes 251 = .ok (.getfield 28, 3) := by decide +kernel
theorem dX5_takes_254 : decode cX5_takes 254 = .ok (.invokevirtual 75, 3) := by decide +kernel
theorem dX5_takes_257 : decode cX5_takes 257 = .ok (.ireturn, 1) := by decide +kernel
theorem dX5_isDigit_0 : decode cX5_isDigit 0 = .ok (.iload_n 0, 1) := by decide +kernel
theorem dX5_isDigit_1 : decode cX5_isDigit 1 = .ok (.bipush 48, 2) := by decide +kernel
theorem dX5_isDigit_3 : decode cX5_isDigit 3 = .ok (.if_icmp .lt 13, 3) := by decide +kernel
theorem dX5_isDigit_6 : decode cX5_isDigit 6 = .ok (.iload_n 0, 1) := by decide +kernel
theorem dX5_isDigit_7 : decode cX5_isDigit 7 = .ok (.bipush 57, 2) := by decide +kernel
theorem dX5_isDigit_9 : decode cX5_isDigit 9 = .ok (.if_icmp .gt 7, 3) := by decide +kernel
theorem dX5_isDigit_12 : decode cX5_isDigit 12 = .ok (.iconst 1, 1) := by decide +kernel
theorem dX5_isDigit_13 : decode cX5_isDigit 13 = .ok (.goto 4, 3) := by decide +kernel
theorem dX5_isDigit_16 : decode cX5_isDigit 16 = .ok (.iconst 0, 1) := by decide +kernel
theorem dX5_isDigit_17 : decode cX5_isDigit 17 = .ok (.ireturn, 1) := by decide +kernel
theorem dX5_beginFarm_0 : decode cX5_beginFarm 0 = .ok (.aload_n 0, 1) := by decide +kernel
theorem dX5_beginFarm_1 : decode cX5_beginFarm 1 = .ok (.getfield 25, 3) := by decide +kernel
theorem dX5_beginFarm_4 : decode cX5_beginFarm 4 = .ok (.bipush 9, 2) := by decide +kernel
theorem dX5_beginFarm_6 : decode cX5_beginFarm 6 = .ok (.if_icmp .ne 5, 3) := by decide +kernel
theorem dX5_beginFarm_9 : decode cX5_beginFarm 9 = .ok (.iconst 0, 1) := by decide +kernel
theorem dX5_beginFarm_10 : decode cX5_beginFarm 10 = .ok (.ireturn, 1) := by decide +kernel
theorem dX5_beginFarm_11 : decode cX5_beginFarm 11 = .ok (.aload_n 0, 1) := by decide +kernel
theorem dX5_beginFarm_12 : decode cX5_beginFarm 12 = .ok (.dup, 1) := by decide +kernel
theorem dX5_beginFarm_13 : decode cX5_beginFarm 13 = .ok (.getfield 25, 3) := by decide +kernel
theorem dX5_beginFarm_16 : decode cX5_beginFarm 16 = .ok (.iconst 1, 1) := by decide +kernel
theorem dX5_beginFarm_17 : decode cX5_beginFarm 17 = .ok (.iadd, 1) := by decide +kernel
theorem dX5_beginFarm_18 : decode cX5_beginFarm 18 = .ok (.putfield 25, 3) := by decide +kernel
theorem dX5_beginFarm_21 : decode cX5_beginFarm 21 = .ok (.aload_n 0, 1) := by decide +kernel
theorem dX5_beginFarm_22 : decode cX5_beginFarm 22 = .ok (.iconst (-1), 1) := by decide +kernel
theorem dX5_beginFarm_23 : decode cX5_beginFarm 23 = .ok (.iload_n 1, 1) := by decide +kernel
theorem dX5_beginFarm_24 : decode cX5_beginFarm 24 = .ok (.iconst 0, 1) := by decide +kernel
theorem dX5_beginFarm_25 : decode cX5_beginFarm 25 = .ok (.iconst 1, 1) := by decide +kernel
theorem dX5_beginFarm_26 : decode cX5_beginFarm 26 = .ok (.invokevirtual 87, 3) := by decide +kernel
theorem dX5_beginFarm_29 : decode cX5_beginFarm 29 = .ok (.ireturn, 1) := by decide +kernel
theorem dX5_beginPair_0 : decode cX5_beginPair 0 = .ok (.iload_n 1, 1) := by decide +kernel
theorem dX5_beginPair_1 : decode cX5_beginPair 1 = .ok (.ifCond .lt 26, 3) := by decide +kernel
theorem dX5_beginPair_4 : decode cX5_beginPair 4 = .ok (.iload_n 1, 1) := by decide +kernel
theorem dX5_beginPair_5 : decode cX5_beginPair 5 = .ok (.aload_n 0, 1) := by decide +kernel
theorem dX5_beginPair_6 : decode cX5_beginPair 6 = .ok (.getfield 25, 3) := by decide +kernel
theorem dX5_beginPair_9 : decode cX5_beginPair 9 = .ok (.if_icmp .ge 18, 3) := by decide +kernel
theorem dX5_beginPair_12 : decode cX5_beginPair 12 = .ok (.aload_n 0, 1) := by decide +kernel
theorem dX5_beginPair_13 : decode cX5_beginPair 13 = .ok (.iload_n 1, 1) := by decide +kernel
theorem dX5_beginPair_14 : decode cX5_beginPair 14 = .ok (.iconst 0, 1) := by decide +kernel
theorem dX5_beginPair_15 : decode cX5_beginPair 15 = .ok (.iload_n 2, 1) := by decide +kernel
theorem dX5_beginPair_16 : decode cX5_beginPair 16 = .ok (.iload_n 3, 1) := by decide +kernel
theorem dX5_beginPair_17 : decode cX5_beginPair 17 = .ok (.invokevirtual 87, 3) := by decide +kernel
theorem dX5_beginPair_20 : decode cX5_beginPair 20 = .ok (.ifCond .eq 7, 3) := by decide +kernel
theorem dX5_beginPair_23 : decode cX5_beginPair 23 = .ok (.iconst 1, 1) := by decide +kernel
theorem dX5_beginPair_24 : decode cX5_beginPair 24 = .ok (.goto 4, 3) := by decide +kernel
theorem dX5_beginPair_27 : decode cX5_beginPair 27 = .ok (.iconst 0, 1) := by decide +kernel
theorem dX5_beginPair_28 : decode cX5_beginPair 28 = .ok (.ireturn, 1) := by decide +kernel
theorem dX5_beginLine_0 : decode cX5_beginLine 0 = .ok (.aload_n 0, 1) := by decide +kernel
theorem dX5_beginLine_1 : decode cX5_beginLine 1 = .ok (.getfield 21, 3) := by decide +kernel
theorem dX5_beginLine_4 : decode cX5_beginLine 4 = .ok (.bipush 40, 2) := by decide +kernel
theorem dX5_beginLine_6 : decode cX5_beginLine 6 = .ok (.if_icmp .ne 5, 3) := by decide +kernel
theorem dX5_beginLine_9 : decode cX5_beginLine 9 = .ok (.iconst 0, 1) := by decide +kernel
theorem dX5_beginLine_10 : decode cX5_beginLine 10 = .ok (.ireturn, 1) := by decide +kernel
theorem dX5_beginLine_11 : decode cX5_beginLine 11 = .ok (.aload_n 0, 1) := by decide +kernel
theorem dX5_beginLine_12 : decode cX5_beginLine 12 = .ok (.getfield 9, 3) := by decide +kernel
theorem dX5_beginLine_15 : decode cX5_beginLine 15 = .ok (.aload_n 0, 1) := by decide +kernel
theorem dX5_beginLine_16 : decode cX5_beginLine 16 = .ok (.getfield 21, 3) := by decide +kernel
theorem dX5_beginLine_19 : decode cX5_beginLine 19 = .ok (.iload_n 1, 1) := by decide +kernel
theorem dX5_beginLine_20 : decode cX5_beginLine 20 = .ok (.iastore, 1) := by decide +kernel
theorem dX5_beginLine_21 : decode cX5_beginLine 21 = .ok (.aload_n 0, 1) := by decide +kernel
theorem dX5_beginLine_22 : decode cX5_beginLine 22 = .ok (.getfield 15, 3) := by decide +kernel
theorem dX5_beginLine_25 : decode cX5_beginLine 25 = .ok (.aload_n 0, 1) := by decide +kernel
theorem dX5_beginLine_26 : decode cX5_beginLine 26 = .ok (.getfield 21, 3) := by decide +kernel
theorem dX5_beginLine_29 : decode cX5_beginLine 29 = .ok (.iload_n 2, 1) := by decide +kernel
theorem dX5_beginLine_30 : decode cX5_beginLine 30 = .ok (.iastore, 1) := by decide +kernel
theorem dX5_beginLine_31 : decode cX5_beginLine 31 = .ok (.aload_n 0, 1) := by decide +kernel
theorem dX5_beginLine_32 : decode cX5_beginLine 32 = .ok (.getfield 18, 3) := by decide +kernel
theorem dX5_beginLine_35 : decode cX5_beginLine 35 = .ok (.aload_n 0, 1) := by decide +kernel
theorem dX5_beginLine_36 : decode cX5_beginLine 36 = .ok (.getfield 21, 3) := by decide +kernel
theorem dX5_beginLine_39 : decode cX5_beginLine 39 = .ok (.iload_n 3, 1) := by decide +kernel
theorem dX5_beginLine_40 : decode cX5_beginLine 40 = .ok (.iastore, 1) := by decide +kernel
theorem dX5_beginLine_41 : decode cX5_beginLine 41 = .ok (.aload_n 0, 1) := by decide +kernel
theorem dX5_beginLine_42 : decode cX5_beginLine 42 = .ok (.dup, 1) := by decide +kernel
theorem dX5_beginLine_43 : decode cX5_beginLine 43 = .ok (.getfield 21, 3) := by decide +kernel
theorem dX5_beginLine_46 : decode cX5_beginLine 46 = .ok (.iconst 1, 1) := by decide +kernel
theorem dX5_beginLine_47 : decode cX5_beginLine 47 = .ok (.iadd, 1) := by decide +kernel
theorem dX5_beginLine_48 : decode cX5_beginLine 48 = .ok (.putfield 21, 3) := by decide +kernel
theorem dX5_beginLine_51 : decode cX5_beginLine 51 = .ok (.aload_n 0, 1) := by decide +kernel
theorem dX5_beginLine_52 : decode cX5_beginLine 52 = .ok (.iload 4, 2) := by decide +kernel
theorem dX5_beginLine_54 : decode cX5_beginLine 54 = .ok (.putfield 31, 3) := by decide +kernel
theorem dX5_beginLine_57 : decode cX5_beginLine 57 = .ok (.iconst 1, 1) := by decide +kernel
theorem dX5_beginLine_58 : decode cX5_beginLine 58 = .ok (.ireturn, 1) := by decide +kernel
theorem dX5_takeSecondDigit_0 : decode cX5_takeSecondDigit 0 = .ok (.aload_n 0, 1) := by decide +kernel
theorem dX5_takeSecondDigit_1 : decode cX5_takeSecondDigit 1 = .ok (.getfield 15, 3) := by decide +kernel
theorem dX5_takeSecondDigit_4 : decode cX5_takeSecondDigit 4 = .ok (.aload_n 0, 1) := by decide +kernel
theorem dX5_takeSecondDigit_5 : decode cX5_takeSecondDigit 5 = .ok (.getfield 21, 3) := by decide +kernel
theorem dX5_takeSecondDigit_8 : decode cX5_takeSecondDigit 8 = .ok (.iconst 1, 1) := by decide +kernel
theorem dX5_takeSecondDigit_9 : decode cX5_takeSecondDigit 9 = .ok (.isub, 1) := by decide +kernel
theorem dX5_takeSecondDigit_10 : decode cX5_takeSecondDigit 10 = .ok (.bipush 10, 2) := by decide +kernel
theorem dX5_takeSecondDigit_12 : decode cX5_takeSecondDigit 12 = .ok (.aload_n 0, 1) := by decide +kernel
theorem dX5_takeSecondDigit_13 : decode cX5_takeSecondDigit 13 = .ok (.getfield 15, 3) := by decide +kernel
theorem dX5_takeSecondDigit_16 : decode cX5_takeSecondDigit 16 = .ok (.aload_n 0, 1) := by decide +kernel
theorem dX5_takeSecondDigit_17 : decode cX5_takeSecondDigit 17 = .ok (.getfield 21, 3) := by decide +kernel
theorem dX5_takeSecondDigit_20 : decode cX5_takeSecondDigit 20 = .ok (.iconst 1, 1) := by decide +kernel
theorem dX5_takeSecondDigit_21 : decode cX5_takeSecondDigit 21 = .ok (.isub, 1) := by decide +kernel
theorem dX5_takeSecondDigit_22 : decode cX5_takeSecondDigit 22 = .ok (.iaload, 1) := by decide +kernel
theorem dX5_takeSecondDigit_23 : decode cX5_takeSecondDigit 23 = .ok (.imul, 1) := by decide +kernel
theorem dX5_takeSecondDigit_24 : decode cX5_takeSecondDigit 24 = .ok (.iload_n 1, 1) := by decide +kernel
theorem dX5_takeSecondDigit_25 : decode cX5_takeSecondDigit 25 = .ok (.iadd, 1) := by decide +kernel
theorem dX5_takeSecondDigit_26 : decode cX5_takeSecondDigit 26 = .ok (.iastore, 1) := by decide +kernel
theorem dX5_takeSecondDigit_27 : decode cX5_takeSecondDigit 27 = .ok (.aload_n 0, 1) := by decide +kernel
theorem dX5_takeSecondDigit_28 : decode cX5_takeSecondDigit 28 = .ok (.iconst 2, 1) := by decide +kernel
theorem dX5_takeSecondDigit_29 : decode cX5_takeSecondDigit 29 = .ok (.putfield 31, 3) := by decide +kernel
theorem dX5_takeSecondDigit_32 : decode cX5_takeSecondDigit 32 = .ok (.iconst 1, 1) := by decide +kernel
theorem dX5_takeSecondDigit_33 : decode cX5_takeSecondDigit 33 = .ok (.ireturn, 1) := by decide +kernel
theorem dX5_takeOther_0 : decode cX5_takeOther 0 = .ok (.iload_n 1, 1) := by decide +kernel
theorem dX5_takeOther_1 : decode cX5_takeOther 1 = .ok (.ifCond .lt 11, 3) := by decide +kernel
theorem dX5_takeOther_4 : decode cX5_takeOther 4 = .ok (.iload_n 1, 1) := by decide +kernel
theorem dX5_takeOther_5 : decode cX5_takeOther 5 = .ok (.aload_n 0, 1) := by decide +kernel
theorem dX5_takeOther_6 : decode cX5_takeOther 6 = .ok (.getfield 25, 3) := by decide +kernel
theorem dX5_takeOther_9 : decode cX5_takeOther 9 = .ok (.if_icmp .lt 5, 3) := by decide +kernel
theorem dX5_takeOther_12 : decode cX5_takeOther 12 = .ok (.iconst 0, 1) := by decide +kernel
theorem dX5_takeOther_13 : decode cX5_takeOther 13 = .ok (.ireturn, 1) := by decide +kernel
theorem dX5_takeOther_14 : decode cX5_takeOther 14 = .ok (.aload_n 0, 1) := by decide +kernel
theorem dX5_takeOther_15 : decode cX5_takeOther 15 = .ok (.getfield 15, 3) := by decide +kernel
theorem dX5_takeOther_18 : decode cX5_takeOther 18 = .ok (.aload_n 0, 1) := by decide +kernel
theorem dX5_takeOther_19 : decode cX5_takeOther 19 = .ok (.getfield 21, 3) := by decide +kernel
theorem dX5_takeOther_22 : decode cX5_takeOther 22 = .ok (.iconst 1, 1) := by decide +kernel
theorem dX5_takeOther_23 : decode cX5_takeOther 23 = .ok (.isub, 1) := by decide +kernel
theorem dX5_takeOther_24 : decode cX5_takeOther 24 = .ok (.iload_n 1, 1) := by decide +kernel
theorem dX5_takeOther_25 : decode cX5_takeOther 25 = .ok (.iastore, 1) := by decide +kernel
theorem dX5_takeOther_26 : decode cX5_takeOther 26 = .ok (.aload_n 0, 1) := by decide +kernel
theorem dX5_takeOther_27 : decode cX5_takeOther 27 = .ok (.iload_n 2, 1) := by decide +kernel
theorem dX5_takeOther_28 : decode cX5_takeOther 28 = .ok (.putfield 31, 3) := by decide +kernel
theorem dX5_takeOther_31 : decode cX5_takeOther 31 = .ok (.iconst 1, 1) := by decide +kernel
theorem dX5_takeOther_32 : decode cX5_takeOther 32 = .ok (.ireturn, 1) := by decide +kernel
theorem dX5_takeLastDigit_0 : decode cX5_takeLastDigit 0 = .ok (.iload_n 1, 1) := by decide +kernel
theorem dX5_takeLastDigit_1 : decode cX5_takeLastDigit 1 = .ok (.iload_n 2, 1) := by decide +kernel
theorem dX5_takeLastDigit_2 : decode cX5_takeLastDigit 2 = .ok (.if_icmp .lt 9, 3) := by decide +kernel
theorem dX5_takeLastDigit_5 : decode cX5_takeLastDigit 5 = .ok (.iload_n 1, 1) := by decide +kernel
theorem dX5_takeLastDigit_6 : decode cX5_takeLastDigit 6 = .ok (.bipush 57, 2) := by decide +kernel
theorem dX5_takeLastDigit_8 : decode cX5_takeLastDigit 8 = .ok (.if_icmp .le 5, 3) := by decide +kernel
theorem dX5_takeLastDigit_11 : decode cX5_takeLastDigit 11 = .ok (.iconst 0, 1) := by decide +kernel
theorem dX5_takeLastDigit_12 : decode cX5_takeLastDigit 12 = .ok (.ireturn, 1) := by decide +kernel
theorem dX5_takeLastDigit_13 : decode cX5_takeLastDigit 13 = .ok (.aload_n 0, 1) := by decide +kernel
theorem dX5_takeLastDigit_14 : decode cX5_takeLastDigit 14 = .ok (.getfield 18, 3) := by decide +kernel
theorem dX5_takeLastDigit_17 : decode cX5_takeLastDigit 17 = .ok (.aload_n 0, 1) := by decide +kernel
theorem dX5_takeLastDigit_18 : decode cX5_takeLastDigit 18 = .ok (.getfield 21, 3) := by decide +kernel
theorem dX5_takeLastDigit_21 : decode cX5_takeLastDigit 21 = .ok (.iconst 1, 1) := by decide +kernel
theorem dX5_takeLastDigit_22 : decode cX5_takeLastDigit 22 = .ok (.isub, 1) := by decide +kernel
theorem dX5_takeLastDigit_23 : decode cX5_takeLastDigit 23 = .ok (.iload_n 1, 1) := by decide +kernel
theorem dX5_takeLastDigit_24 : decode cX5_takeLastDigit 24 = .ok (.bipush 48, 2) := by decide +kernel
theorem dX5_takeLastDigit_26 : decode cX5_takeLastDigit 26 = .ok (.isub, 1) := by decide +kernel
theorem dX5_takeLastDigit_27 : decode cX5_takeLastDigit 27 = .ok (.iastore, 1) := by decide +kernel
theorem dX5_takeLastDigit_28 : decode cX5_takeLastDigit 28 = .ok (.aload_n 0, 1) := by decide +kernel
theorem dX5_takeLastDigit_29 : decode cX5_takeLastDigit 29 = .ok (.bipush 12, 2) := by decide +kernel
theorem dX5_takeLastDigit_31 : decode cX5_takeLastDigit 31 = .ok (.putfield 31, 3) := by decide +kernel
theorem dX5_takeLastDigit_34 : decode cX5_takeLastDigit 34 = .ok (.iconst 1, 1) := by decide +kernel
theorem dX5_takeLastDigit_35 : decode cX5_takeLastDigit 35 = .ok (.ireturn, 1) := by decide +kernel
theorem dX5_goesOn_0 : decode cX5_goesOn 0 = .ok (.aload_n 0, 1) := by decide +kernel
theorem dX5_goesOn_1 : decode cX5_goesOn 1 = .ok (.iload_n 1, 1) := by decide +kernel
theorem dX5_goesOn_2 : decode cX5_goesOn 2 = .ok (.bipush 59, 2) := by decide +kernel
theorem dX5_goesOn_4 : decode cX5_goesOn 4 = .ok (.if_icmp .ne 10, 3) := by decide +kernel
theorem dX5_goesOn_7 : decode cX5_goesOn 7 = .ok (.aload_n 0, 1) := by decide +kernel
theorem dX5_goesOn_8 : decode cX5_goesOn 8 = .ok (.getfield 28, 3) := by decide +kernel
theorem dX5_goesOn_11 : decode cX5_goesOn 11 = .ok (.goto 4, 3) := by decide +kernel
theorem dX5_goesOn_14 : decode cX5_goesOn 14 = .ok (.iload_n 3, 1) := by decide +kernel
theorem dX5_goesOn_15 : decode cX5_goesOn 15 = .ok (.putfield 31, 3) := by decide +kernel
theorem dX5_goesOn_18 : decode cX5_goesOn 18 = .ok (.iload_n 1, 1) := by decide +kernel
theorem dX5_goesOn_19 : decode cX5_goesOn 19 = .ok (.bipush 59, 2) := by decide +kernel
theorem dX5_goesOn_21 : decode cX5_goesOn 21 = .ok (.if_icmp .eq 8, 3) := by decide +kernel
theorem dX5_goesOn_24 : decode cX5_goesOn 24 = .ok (.iload_n 1, 1) := by decide +kernel
theorem dX5_goesOn_25 : decode cX5_goesOn 25 = .ok (.iload_n 2, 1) := by decide +kernel
theorem dX5_goesOn_26 : decode cX5_goesOn 26 = .ok (.if_icmp .ne 7, 3) := by decide +kernel
theorem dX5_goesOn_29 : decode cX5_goesOn 29 = .ok (.iconst 1, 1) := by decide +kernel
theorem dX5_goesOn_30 : decode cX5_goesOn 30 = .ok (.goto 4, 3) := by decide +kernel
theorem dX5_goesOn_33 : decode cX5_goesOn 33 = .ok (.iconst 0, 1) := by decide +kernel
theorem dX5_goesOn_34 : decode cX5_goesOn 34 = .ok (.ireturn, 1) := by decide +kernel
theorem dX6_init_0 : decode cX6_init 0 = .ok (.aload_n 0, 1) := by decide +kernel
theorem dX6_init_1 : decode cX6_init 1 = .ok (.invokespecial 3, 3) := by decide +kernel
theorem dX6_init_4 : decode cX6_init 4 = .ok (.aload_n 0, 1) := by decide +kernel
theorem dX6_init_5 : decode cX6_init 5 = .ok (.sipush 3000, 3) := by decide +kernel
theorem dX6_init_8 : decode cX6_init 8 = .ok (.newarray .long, 2) := by decide +kernel
theorem dX6_init_10 : decode cX6_init 10 = .ok (.putfield 9, 3) := by decide +kernel
theorem dX6_init_13 : decode cX6_init 13 = .ok (.aload_n 0, 1) := by decide +kernel
theorem dX6_init_14 : decode cX6_init 14 = .ok (.iconst 0, 1) := by decide +kernel
theorem dX6_init_15 : decode cX6_init 15 = .ok (.putfield 15, 3) := by decide +kernel
theorem dX6_init_18 : decode cX6_init 18 = .ok (.aload_n 0, 1) := by decide +kernel
theorem dX6_init_19 : decode cX6_init 19 = .ok (.sipush 2048, 3) := by decide +kernel
theorem dX6_init_22 : decode cX6_init 22 = .ok (.newarray .long, 2) := by decide +kernel
theorem dX6_init_24 : decode cX6_init 24 = .ok (.putfield 19, 3) := by decide +kernel
theorem dX6_init_27 : decode cX6_init 27 = .ok (.aload_n 0, 1) := by decide +kernel
theorem dX6_init_28 : decode cX6_init 28 = .ok (.iconst 0, 1) := by decide +kernel
theorem dX6_init_29 : decode cX6_init 29 = .ok (.putfield 22, 3) := by decide +kernel
theorem dX6_init_32 : decode cX6_init 32 = .ok (.aload_n 0, 1) := by decide +kernel
theorem dX6_init_33 : decode cX6_init 33 = .ok (.bipush 72, 2) := by decide +kernel
theorem dX6_init_35 : decode cX6_init 35 = .ok (.newarray .int, 2) := by decide +kernel
theorem dX6_init_37 : decode cX6_init 37 = .ok (.putfield 25, 3) := by decide +kernel
theorem dX6_init_40 : decode cX6_init 40 = .ok (.aload_n 0, 1) := by decide +kernel
theorem dX6_init_41 : decode cX6_init 41 = .ok (.bipush 72, 2) := by decide +kernel
theorem dX6_init_43 : decode cX6_init 43 = .ok (.newarray .int, 2) := by decide +kernel
theorem dX6_init_45 : decode cX6_init 45 = .ok (.putfield 29, 3) := by decide +kernel
theorem dX6_init_48 : decode cX6_init 48 = .ok (.aload_n 0, 1) := by decide +kernel
theorem dX6_init_49 : decode cX6_init 49 = .ok (.iconst 0, 1) := by decide +kernel
theorem dX6_init_50 : decode cX6_init 50 = .ok (.putfield 32, 3) := by decide +kernel
theorem dX6_init_53 : decode cX6_init 53 = .ok (.aload_n 0, 1) := by decide +kernel
theorem dX6_init_54 : decode cX6_init 54 = .ok (.iconst 1, 1) := by decide +kernel
theorem dX6_init_55 : decode cX6_init 55 = .ok (.putfield 35, 3) := by decide +kernel
theorem dX6_init_58 : decode cX6_init 58 = .ok (.aload_n 0, 1) := by decide +kernel
theorem dX6_init_59 : decode cX6_init 59 = .ok (.iconst 0, 1) := by decide +kernel
theorem dX6_init_60 : decode cX6_init 60 = .ok (.putfield 38, 3) := by decide +kernel
theorem dX6_init_63 : decode cX6_init 63 = .ok (.aload_n 0, 1) := by decide +kernel
theorem dX6_init_64 : decode cX6_init 64 = .ok (.iconst 0, 1) := by decide +kernel
theorem dX6_init_65 : decode cX6_init 65 = .ok (.putfield 41, 3) := by decide +kernel
theorem dX6_init_68 : decode cX6_init 68 = .ok (.aload_n 0, 1) := by decide +kernel
theorem dX6_init_69 : decode cX6_init 69 = .ok (.iconst 0, 1) := by decide +kernel
theorem dX6_init_70 : decode cX6_init 70 = .ok (.putfield 44, 3) := by decide +kernel
theorem dX6_init_73 : decode cX6_init 73 = .ok (.return_, 1) := by decide +kernel
theorem dX6_prepare_0 : decode cX6_prepare 0 = .ok (.aload_n 0, 1) := by decide +kernel
theorem dX6_prepare_1 : decode cX6_prepare 1 = .ok (.aload_n 1, 1) := by decide +kernel
theorem dX6_prepare_2 : decode cX6_prepare 2 = .ok (.getfield 48, 3) := by decide +kernel
theorem dX6_prepare_5 : decode cX6_prepare 5 = .ok (.iconst 2, 1) := by decide +kernel
theorem dX6_prepare_6 : decode cX6_prepare 6 = .ok (.iaload, 1) := by decide +kernel
theorem dX6_prepare_7 : decode cX6_prepare 7 = .ok (.putfield 35, 3) := by decide +kernel
theorem dX6_prepare_10 : decode cX6_prepare 10 = .ok (.aload_n 0, 1) := by decide +kernel
theorem dX6_prepare_11 : decode cX6_prepare 11 = .ok (.iconst 0, 1) := by decide +kernel
theorem dX6_prepare_12 : decode cX6_prepare 12 = .ok (.putfield 32, 3) := by decide +kernel
theorem dX6_prepare_15 : decode cX6_prepare 15 = .ok (.iconst 0, 1) := by decide +kernel
theorem dX6_prepare_16 : decode cX6_prepare 16 = .ok (.istore_n 2, 1) := by decide +kernel
theorem dX6_prepare_17 : decode cX6_prepare 17 = .ok (.iload_n 2, 1) := by decide +kernel
theorem dX6_prepare_18 : decode cX6_prepare 18 = .ok (.aload_n 1, 1) := by decide +kernel
theorem dX6_prepare_19 : decode cX6_prepare 19 = .ok (.getfield 53, 3) := by decide +kernel
theorem dX6_prepare_22 : decode cX6_prepare 22 = .ok (.if_icmp .ge 65, 3) := by decide +kernel
theorem dX6_prepare_25 : decode cX6_prepare 25 = .ok (.iconst 0, 1) := by decide +kernel
theorem dX6_prepare_26 : decode cX6_prepare 26 = .ok (.istore_n 3, 1) := by decide +kernel
theorem dX6_prepare_27 : decode cX6_prepare 27 = .ok (.iload_n 3, 1) := by decide +kernel
theorem dX6_prepare_28 : decode cX6_prepare 28 = .ok (.aload_n 1, 1) := by decide +kernel
theorem dX6_prepare_29 : decode cX6_prepare 29 = .ok (.getfield 53, 3) := by decide +kernel
theorem dX6_prepare_32 : decode cX6_prepare 32 = .ok (.if_icmp .ge 49, 3) := by decide +kernel
theorem dX6_prepare_35 : decode cX6_prepare 35 = .ok (.aload_n 1, 1) := by decide +kernel
theorem dX6_prepare_36 : decode cX6_prepare 36 = .ok (.iload_n 2, 1) := by decide +kernel
theorem dX6_prepare_37 : decode cX6_prepare 37 = .ok (.iload_n 3, 1) := by decide +kernel
theorem dX6_prepare_38 : decode cX6_prepare 38 = .ok (.invokevirtual 56, 3) := by decide +kernel
theorem dX6_prepare_41 : decode cX6_prepare 41 = .ok (.iconst (-1), 1) := by decide +kernel
theorem dX6_prepare_42 : decode cX6_prepare 42 = .ok (.if_icmp .eq 33, 3) := by decide +kernel
theorem dX6_prepare_45 : decode cX6_prepare 45 = .ok (.aload_n 0, 1) := by decide +kernel
theorem dX6_prepare_46 : decode cX6_prepare 46 = .ok (.getfield 25, 3) := by decide +kernel
theorem dX6_prepare_49 : decode cX6_prepare 49 = .ok (.aload_n 0, 1) := by decide +kernel
theorem dX6_prepare_50 : decode cX6_prepare 50 = .ok (.getfield 32, 3) := by decide +kernel
theorem dX6_prepare_53 : decode cX6_prepare 53 = .ok (.iload_n 2, 1) := by decide +kernel
theorem dX6_prepare_54 : decode cX6_prepare 54 = .ok (.iastore, 1) := by decide +kernel
theorem dX6_prepare_55 : decode cX6_prepare 55 = .ok (.aload_n 0, 1) := by decide +kernel
theorem dX6_prepare_56 : decode cX6_prepare 56 = .ok (.getfield 29, 3) := by decide +kernel
theorem dX6_prepare_59 : decode cX6_prepare 59 = .ok (.aload_n 0, 1) := by decide +kernel
theorem dX6_prepare_60 : decode cX6_prepare 60 = .ok (.getfield 32, 3) := by decide +kernel
theorem dX6_prepare_63 : decode cX6_prepare 63 = .ok (.iload_n 3, 1) := by decide +kernel
theorem dX6_prepare_64 : decode cX6_prepare 64 = .ok (.iastore, 1) := by decide +kernel
theorem dX6_prepare_65 : decode cX6_prepare 65 = .ok (.aload_n 0, 1) := by decide +kernel
theorem dX6_prepare_66 : decode cX6_prepare 66 = .ok (.dup, 1) := by decide +kernel
theorem dX6_prepare_67 : decode cX6_prepare 67 = .ok (.getfield 32, 3) := by decide +kernel
theorem dX6_prepare_70 : decode cX6_prepare 70 = .ok (.iconst 1, 1) := by decide +kernel
theorem dX6_prepare_71 : decode cX6_prepare 71 = .ok (.iadd, 1) := by decide +kernel
theorem dX6_prepare_72 : decode cX6_prepare 72 = .ok (.putfield 32, 3) := by decide +kernel
theorem dX6_prepare_75 : decode cX6_prepare 75 = .ok (.iinc 3 1, 3) := by decide +kernel
theorem dX6_prepare_78 : decode cX6_prepare 78 = .ok (.goto (-51), 3) := by decide +kernel
theorem dX6_prepare_81 : decode cX6_prepare 81 = .ok (.iinc 2 1, 3) := by decide +kernel
theorem dX6_prepare_84 : decode cX6_prepare 84 = .ok (.goto (-67), 3) := by decide +kernel
theorem dX6_prepare_87 : decode cX6_prepare 87 = .ok (.return_, 1) := by decide +kernel
theorem dX6_start_0 : decode cX6_start 0 = .ok (.aload_n 0, 1) := by decide +kernel
theorem dX6_start_1 : decode cX6_start 1 = .ok (.getfield 19, 3) := by decide +kernel
theorem dX6_start_4 : decode cX6_start 4 = .ok (.lconst 0, 1) := by decide +kernel
theorem dX6_start_5 : decode cX6_start 5 = .ok (.invokestatic 60, 3) := by decide +kernel
theorem dX6_start_8 : decode cX6_start 8 = .ok (.aload_n 0, 1) := by decide +kernel
theorem dX6_start_9 : decode cX6_start 9 = .ok (.iconst 0, 1) := by decide +kernel
theorem dX6_start_10 : decode cX6_start 10 = .ok (.putfield 15, 3) := by decide +kernel
theorem dX6_start_13 : decode cX6_start 13 = .ok (.aload_n 0, 1) := by decide +kernel
theorem dX6_start_14 : decode cX6_start 14 = .ok (.iconst 0, 1) := by decide +kernel
theorem dX6_start_15 : decode cX6_start 15 = .ok (.putfield 38, 3) := by decide +kernel
theorem dX6_start_18 : decode cX6_start 18 = .ok (.aload_n 0, 1) := by decide +kernel
theorem dX6_start_19 : decode cX6_start 19 = .ok (.iconst 0, 1) := by decide +kernel
theorem dX6_start_20 : decode cX6_start 20 = .ok (.putfield 41, 3) := by decide +kernel
theorem dX6_start_23 : decode cX6_start 23 = .ok (.aload_n 0, 1) := by decide +kernel
theorem dX6_start_24 : decode cX6_start 24 = .ok (.iconst 0, 1) := by decide +kernel
theorem dX6_start_25 : decode cX6_start 25 = .ok (.putfield 44, 3) := by decide +kernel
theorem dX6_start_28 : decode cX6_start 28 = .ok (.aload_n 0, 1) := by decide +kernel
theorem dX6_start_29 : decode cX6_start 29 = .ok (.lload_n 1, 1) := by decide +kernel
theorem dX6_start_30 : decode cX6_start 30 = .ok (.invokevirtual 66, 3) := by decide +kernel
theorem dX6_start_33 : decode cX6_start 33 = .ok (.pop, 1) := by decide +kernel
theorem dX6_start_34 : decode cX6_start 34 = .ok (.return_, 1) := by decide +kernel
theorem dX6_firstSuch_0 : decode cX6_firstSuch 0 = .ok (.aload_n 0, 1) := by decide +kernel
theorem dX6_firstSuch_1 : decode cX6_firstSuch 1 = .ok (.aload_n 1, 1) := by decide +kernel
theorem dX6_firstSuch_2 : decode cX6_firstSuch 2 = .ok (.invokevirtual 70, 3) := by decide +kernel
theorem dX6_firstSuch_5 : decode cX6_firstSuch 5 = .ok (.invokevirtual 76, 3) := by decide +kernel
theorem dX6_firstSuch_8 : decode cX6_firstSuch 8 = .ok (.iconst 0, 1) := by decide +kernel
theorem dX6_firstSuch_9 : decode cX6_firstSuch 9 = .ok (.istore 4, 2) := by decide +kernel
theorem dX6_firstSuch_11 : decode cX6_firstSuch 11 = .ok (.iload 4, 2) := by decide +kernel
theorem dX6_firstSuch_13 : decode cX6_firstSuch 13 = .ok (.sipush 3000, 3) := by decide +kernel
theorem dX6_firstSuch_16 : decode cX6_firstSuch 16 = .ok (.if_icmp .ge 67, 3) := by decide +kernel
theorem dX6_firstSuch_19 : decode cX6_firstSuch 19 = .ok (.iload 4, 2) := by decide +kernel
theorem dX6_firstSuch_21 : decode cX6_firstSuch 21 = .ok (.aload_n 0, 1) := by decide +kernel
theorem dX6_firstSuch_22 : decode cX6_firstSuch 22 = .ok (.getfield 15, 3) := by decide +kernel
theorem dX6_firstSuch_25 : decode cX6_firstSuch 25 = .ok (.if_icmp .lt 13, 3) := by decide +kernel
theorem dX6_firstSuch_28 : decode cX6_firstSuch 28 = .ok (.aload_n 0, 1) := by decide +kernel
theorem dX6_firstSuch_29 : decode cX6_firstSuch 29 = .ok (.sipush 3000, 3) := by decide +kernel
theorem dX6_firstSuch_32 : decode cX6_firstSuch 32 = .ok (.invokevirtual 80, 3) := by decide +kernel
theorem dX6_firstSuch_35 : decode cX6_firstSuch 35 = .ok (.ifCond .eq 48, 3) := by decide +kernel
theorem dX6_firstSuch_38 : decode cX6_firstSuch 38 = .ok (.aload_n 1, 1) := by decide +kernel
theorem dX6_firstSuch_39 : decode cX6_firstSuch 39 = .ok (.aload_n 0, 1) := by decide +kernel
theorem dX6_firstSuch_40 : decode cX6_firstSuch 40 = .ok (.getfield 9, 3) := by decide +kernel
theorem dX6_firstSuch_43 : decode cX6_firstSuch 43 = .ok (.iload 4, 2) := by decide +kernel
theorem dX6_firstSuch_45 : decode cX6_firstSuch 45 = .ok (.laload, 1) := by decide +kernel
theorem dX6_firstSuch_46 : decode cX6_firstSuch 46 = .ok (.invokevirtual 84, 3) := by decide +kernel
theorem dX6_firstSuch_49 : decode cX6_firstSuch 49 = .ok (.iload_n 2, 1) := by decide +kernel
theorem dX6_firstSuch_50 : decode cX6_firstSuch 50 = .ok (.iconst (-1), 1) := by decide +kernel
theorem dX6_firstSuch_51 : decode cX6_firstSuch 51 = .ok (.if_icmp .ne 13, 3) := by decide +kernel
theorem dX6_firstSuch_54 : decode cX6_firstSuch 54 = .ok (.aload_n 1, 1) := by decide +kernel
theorem dX6_firstSuch_55 : decode cX6_firstSuch 55 = .ok (.invokevirtual 87, 3) := by decide +kernel
theorem dX6_firstSuch_58 : decode cX6_firstSuch 58 = .ok (.ifCond .eq 19, 3) := by decide +kernel
theorem dX6_firstSuch_61 : decode cX6_firstSuch 61 = .ok (.goto 13, 3) := by decide +kernel
theorem dX6_firstSuch_64 : decode cX6_firstSuch 64 = .ok (.aload_n 1, 1) := by decide +kernel
theorem dX6_firstSuch_65 : decode cX6_firstSuch 65 = .ok (.getfield 91, 3) := by decide +kernel
theorem dX6_firstSuch_68 : decode cX6_firstSuch 68 = .ok (.iload_n 2, 1) := by decide +kernel
theorem dX6_firstSuch_69 : decode cX6_firstSuch 69 = .ok (.iaload, 1) := by decide +kernel
theorem dX6_firstSuch_70 : decode cX6_firstSuch 70 = .ok (.iload_n 3, 1) := by decide +kernel
theorem dX6_firstSuch_71 : decode cX6_firstSuch 71 = .ok (.if_icmp .lt 6, 3) := by decide +kernel
theorem dX6_firstSuch_74 : decode cX6_firstSuch 74 = .ok (.iload 4, 2) := by decide +kernel
theorem dX6_firstSuch_76 : decode cX6_firstSuch 76 = .ok (.ireturn, 1) := by decide +kernel
theorem dX6_firstSuch_77 : decode cX6_firstSuch 77 = .ok (.iinc 4 1, 3) := by decide +kernel
theorem dX6_firstSuch_80 : decode cX6_firstSuch 80 = .ok (.goto (-69), 3) := by decide +kernel
theorem dX6_firstSuch_83 : decode cX6_firstSuch 83 = .ok (.aload_n 0, 1) := by decide +kernel
theorem dX6_firstSuch_84 : decode cX6_firstSuch 84 = .ok (.sipush 3000, 3) := by decide +kernel
theorem dX6_firstSuch_87 : decode cX6_firstSuch 87 = .ok (.invokevirtual 80, 3) := by decide +kernel
theorem dX6_firstSuch_90 : decode cX6_firstSuch 90 = .ok (.pop, 1) := by decide +kernel
theorem dX6_firstSuch_91 : decode cX6_firstSuch 91 = .ok (.aload_n 0, 1) := by decide +kernel
theorem dX6_firstSuch_92 : decode cX6_firstSuch 92 = .ok (.getfield 44, 3) := by decide +kernel
theorem dX6_firstSuch_95 : decode cX6_firstSuch 95 = .ok (.ifCond .eq 8, 3) := by decide +kernel
theorem dX6_firstSuch_98 : decode cX6_firstSuch 98 = .ok (.bipush (-3), 2) := by decide +kernel
theorem dX6_firstSuch_100 : decode cX6_firstSuch 100 = .ok (.goto 5, 3) := by decide +kernel
theorem dX6_firstSuch_103 : decode cX6_firstSuch 103 = .ok (.bipush (-2), 2) := by decide +kernel
theorem dX6_firstSuch_105 : decode cX6_firstSuch 105 = .ok (.ireturn, 1) := by decide +kernel
theorem dX6_findWithin_0 : decode cX6_findWithin 0 = .ok (.aload_n 0, 1) := by decide +kernel
theorem dX6_findWithin_1 : decode cX6_findWithin 1 = .ok (.lload_n 1, 1) := by decide +kernel
theorem dX6_findWithin_2 : decode cX6_findWithin 2 = .ok (.invokevirtual 76, 3) := by decide +kernel
theorem dX6_findWithin_5 : decode cX6_findWithin 5 = .ok (.iconst 0, 1) := by decide +kernel
theorem dX6_findWithin_6 : decode cX6_findWithin 6 = .ok (.istore 4, 2) := by decide +kernel
theorem dX6_findWithin_8 : decode cX6_findWithin 8 = .ok (.iload 4, 2) := by decide +kernel
theorem dX6_findWithin_10 : decode cX6_findWithin 10 = .ok (.iload_n 3, 1) := by decide +kernel
theorem dX6_findWithin_11 : decode cX6_findWithin 11 = .ok (.if_icmp .ge 55, 3) := by decide +kernel
theorem dX6_findWithin_14 : decode cX6_findWithin 14 = .ok (.aload_n 0, 1) := by decide +kernel
theorem dX6_findWithin_15 : decode cX6_findWithin 15 = .ok (.getfield 44, 3) := by decide +kernel
theorem dX6_findWithin_18 : decode cX6_findWithin 18 = .ok (.ifCond .ne 48, 3) := by decide +kernel
theorem dX6_findWithin_21 : decode cX6_findWithin 21 = .ok (.aload_n 0, 1) := by decide +kernel
theorem dX6_findWithin_22 : decode cX6_findWithin 22 = .ok (.getfield 15, 3) := by decide +kernel
theorem dX6_findWithin_25 : decode cX6_findWithin 25 = .ok (.istore 5, 2) := by decide +kernel
theorem dX6_findWithin_27 : decode cX6_findWithin 27 = .ok (.iconst 1, 1) := by decide +kernel
theorem dX6_findWithin_28 : decode cX6_findWithin 28 = .ok (.istore 6, 2) := by decide +kernel
theorem dX6_findWithin_30 : decode cX6_findWithin 30 = .ok (.iconst 0, 1) := by decide +kernel
theorem dX6_findWithin_31 : decode cX6_findWithin 31 = .ok (.istore 7, 2) := by decide +kernel
theorem dX6_findWithin_33 : decode cX6_findWithin 33 = .ok (.iload 7, 2) := by decide +kernel
theorem dX6_findWithin_35 : decode cX6_findWithin 35 = .ok (.sipush 3000, 3) := by decide +kernel
theorem dX6_findWithin_38 : decode cX6_findWithin 38 = .ok (.if_icmp .gt 22, 3) := by decide +kernel
theorem dX6_findWithin_41 : decode cX6_findWithin 41 = .ok (.iload 6, 2) := by decide +kernel
theorem dX6_findWithin_43 : decode cX6_findWithin 43 = .ok (.ifCond .eq 17, 3) := by decide +kernel
theorem dX6_findWithin_46 : decode cX6_findWithin 46 = .ok (.aload_n 0, 1) := by decide +kernel
theorem dX6_findWithin_47 : decode cX6_findWithin 47 = .ok (.iload 5, 2) := by decide +kernel
theorem dX6_findWithin_49 : decode cX6_findWithin 49 = .ok (.invokevirtual 80, 3) := by decide +kernel
theorem dX6_findWithin_52 : decode cX6_findWithin 52 = .ok (.istore 6, 2) := by decide +kernel
theorem dX6_findWithin_54 : decode cX6_findWithin 54 = .ok (.iinc 7 1, 3) := by decide +kernel
theorem dX6_findWithin_57 : decode cX6_findWithin 57 = .ok (.goto (-24), 3) := by decide +kernel
theorem dX6_findWithin_60 : decode cX6_findWithin 60 = .ok (.iinc 4 1, 3) := by decide +kernel
theorem dX6_findWithin_63 : decode cX6_findWithin 63 = .ok (.goto (-55), 3) := by decide +kernel
theorem dX6_findWithin_66 : decode cX6_findWithin 66 = .ok (.aload_n 0, 1) := by decide +kernel
theorem dX6_findWithin_67 : decode cX6_findWithin 67 = .ok (.getfield 44, 3) := by decide +kernel
theorem dX6_findWithin_70 : decode cX6_findWithin 70 = .ok (.ifCond .ne 7, 3) := by decide +kernel
theorem dX6_findWithin_73 : decode cX6_findWithin 73 = .ok (.iconst 1, 1) := by decide +kernel
theorem dX6_findWithin_74 : decode cX6_findWithin 74 = .ok (.goto 4, 3) := by decide +kernel
theorem dX6_findWithin_77 : decode cX6_findWithin 77 = .ok (.iconst 0, 1) := by decide +kernel
theorem dX6_findWithin_78 : decode cX6_findWithin 78 = .ok (.ireturn, 1) := by decide +kernel
theorem dX6_firstLawfulOnSunday_0 : decode cX6_firstLawfulOnSunday 0 = .ok (.iconst 0, 1) := by decide +kernel
theorem dX6_firstLawfulOnSunday_1 : decode cX6_firstLawfulOnSunday 1 = .ok (.istore_n 2, 1) := by decide +kernel
theorem dX6_firstLawfulOnSunday_2 : decode cX6_firstLawfulOnSunday 2 = .ok (.iload_n 2, 1) := by decide +kernel
theorem dX6_firstLawfulOnSunday_3 : decode cX6_firstLawfulOnSunday 3 = .ok (.aload_n 0, 1) := by decide +kernel
theorem dX6_firstLawfulOnSunday_4 : decode cX6_firstLawfulOnSunday 4 = .ok (.getfield 15, 3) := by decide +kernel
theorem dX6_firstLawfulOnSunday_7 : decode cX6_firstLawfulOnSunday 7 = .ok (.if_icmp .ge 34, 3) := by decide +kernel
theorem dX6_firstLawfulOnSunday_10 : decode cX6_firstLawfulOnSunday 10 = .ok (.aload_n 1, 1) := by decide +kernel
theorem dX6_firstLawfulOnSunday_11 : decode cX6_firstLawfulOnSunday 11 = .ok (.aload_n 0, 1) := by decide +kernel
theorem dX6_firstLawfulOnSunday_12 : decode cX6_firstLawfulOnSunday 12 = .ok (.getfield 9, 3) := by decide +kernel
theorem dX6_firstLawfulOnSunday_15 : decode cX6_firstLawfulOnSunday 15 = .ok (.iload_n 2, 1) := by decide +kernel
theorem dX6_firstLawfulOnSunday_16 : decode cX6_firstLawfulOnSunday 16 = .ok (.laload, 1) := by decide +kernel
theorem dX6_firstLawfulOnSunday_17 : decode cX6_firstLawfulOnSunday 17 = .ok (.invokevirtual 84, 3) := by decide +kernel
theorem dX6_firstLawfulOnSunday_20 : decode cX6_firstLawfulOnSunday 20 = .ok (.aload_n 1, 1) := by decide +kernel
theorem dX6_firstLawfulOnSunday_21 : decode cX6_firstLawfulOnSunday 21 = .ok (.iconst 0, 1) := by decide +kernel
theorem dX6_firstLawfulOnSunday_22 : decode cX6_firstLawfulOnSunday 22 = .ok (.iconst 0, 1) := by decide +kernel
theorem dX6_firstLawfulOnSunday_23 : decode cX6_firstLawfulOnSunday 23 = .ok (.invokevirtual 94, 3) := by decide +kernel
theorem dX6_firstLawfulOnSunday_26 : decode cX6_firstLawfulOnSunday 26 = .ok (.aload_n 1, 1) := by decide +kernel
theorem dX6_firstLawfulOnSunday_27 : decode cX6_firstLawfulOnSunday 27 = .ok (.invokevirtual 87, 3) := by decide +kernel
theorem dX6_firstLawfulOnSunday_30 : decode cX6_firstLawfulOnSunday 30 = .ok (.ifCond .eq 5, 3) := by decide +kernel
theorem dX6_firstLawfulOnSunday_33 : decode cX6_firstLawfulOnSunday 33 = .ok (.iload_n 2, 1) := by decide +kernel
theorem dX6_firstLawfulOnSunday_34 : decode cX6_firstLawfulOnSunday 34 = .ok (.ireturn, 1) := by decide +kernel
theorem dX6_firstLawfulOnSunday_35 : decode cX6_firstLawfulOnSunday 35 = .ok (.iinc 2 1, 3) := by decide +kernel
theorem dX6_firstLawfulOnSunday_38 : decode cX6_firstLawfulOnSunday 38 = .ok (.goto (-36), 3) := by decide +kernel
theorem dX6_firstLawfulOnSunday_41 : decode cX6_firstLawfulOnSunday 41 = .ok (.iconst (-1), 1) := by decide +kernel
theorem dX6_firstLawfulOnSunday_42 : decode cX6_firstLawfulOnSunday 42 = .ok (.ireturn, 1) := by decide +kernel
theorem dX6_findOne_0 : decode cX6_findOne 0 = .ok (.aload_n 0, 1) := by decide +kernel
theorem dX6_findOne_1 : decode cX6_findOne 1 = .ok (.getfield 38, 3) := by decide +kernel
theorem dX6_findOne_4 : decode cX6_findOne 4 = .ok (.iload_n 1, 1) := by decide +kernel
theorem dX6_findOne_5 : decode cX6_findOne 5 = .ok (.if_icmp .ge 131, 3) := by decide +kernel
theorem dX6_findOne_8 : decode cX6_findOne 8 = .ok (.aload_n 0, 1) := by decide +kernel
theorem dX6_findOne_9 : decode cX6_findOne 9 = .ok (.getfield 38, 3) := by decide +kernel
theorem dX6_findOne_12 : decode cX6_findOne 12 = .ok (.aload_n 0, 1) := by decide +kernel
theorem dX6_findOne_13 : decode cX6_findOne 13 = .ok (.getfield 15, 3) := by decide +kernel
theorem dX6_findOne_16 : decode cX6_findOne 16 = .ok (.if_icmp .ge 120, 3) := by decide +kernel
theorem dX6_findOne_19 : decode cX6_findOne 19 = .ok (.aload_n 0, 1) := by decide +kernel
theorem dX6_findOne_20 : decode cX6_findOne 20 = .ok (.getfield 41, 3) := by decide +kernel
theorem dX6_findOne_23 : decode cX6_findOne 23 = .ok (.aload_n 0, 1) := by decide +kernel
theorem dX6_findOne_24 : decode cX6_findOne 24 = .ok (.getfield 32, 3) := by decide +kernel
theorem dX6_findOne_27 : decode cX6_findOne 27 = .ok (.if_icmp .ge 91, 3) := by decide +kernel
theorem dX6_findOne_30 : decode cX6_findOne 30 = .ok (.aload_n 0, 1) := by decide +kernel
theorem dX6_findOne_31 : decode cX6_findOne 31 = .ok (.aload_n 0, 1) := by decide +kernel
theorem dX6_findOne_32 : decode cX6_findOne 32 = .ok (.getfield 9, 3) := by decide +kernel
theorem dX6_findOne_35 : decode cX6_findOne 35 = .ok (.aload_n 0, 1) := by decide +kernel
theorem dX6_findOne_36 : decode cX6_findOne 36 = .ok (.getfield 38, 3) := by decide +kernel
theorem dX6_findOne_39 : decode cX6_findOne 39 = .ok (.laload, 1) := by decide +kernel
theorem dX6_findOne_40 : decode cX6_findOne 40 = .ok (.aload_n 0, 1) := by decide +kernel
theorem dX6_findOne_41 : decode cX6_findOne 41 = .ok (.getfield 41, 3) := by decide +kernel
theorem dX6_findOne_44 : decode cX6_findOne 44 = .ok (.invokevirtual 98, 3) := by decide +kernel
theorem dX6_findOne_47 : decode cX6_findOne 47 = .ok (.lstore_n 2, 1) := by decide +kernel
theorem dX6_findOne_48 : decode cX6_findOne 48 = .ok (.lload_n 2, 1) := by decide +kernel
theorem dX6_findOne_49 : decode cX6_findOne 49 = .ok (.ldc2_w 102, 3) := by decide +kernel
theorem dX6_findOne_52 : decode cX6_findOne 52 = .ok (.lcmp, 1) := by decide +kernel
theorem dX6_findOne_53 : decode cX6_findOne 53 = .ok (.ifCond .eq 52, 3) := by decide +kernel
theorem dX6_findOne_56 : decode cX6_findOne 56 = .ok (.aload_n 0, 1) := by decide +kernel
theorem dX6_findOne_57 : decode cX6_findOne 57 = .ok (.lload_n 2, 1) := by decide +kernel
theorem dX6_findOne_58 : decode cX6_findOne 58 = .ok (.invokevirtual 104, 3) := by decide +kernel
theorem dX6_findOne_61 : decode cX6_findOne 61 = .ok (.iconst (-1), 1) := by decide +kernel
theorem dX6_findOne_62 : decode cX6_findOne 62 = .ok (.if_icmp .ne 43, 3) := by decide +kernel
theorem dX6_findOne_65 : decode cX6_findOne 65 = .ok (.aload_n 0, 1) := by decide +kernel
theorem dX6_findOne_66 : decode cX6_findOne 66 = .ok (.aload_n 0, 1) := by decide +kernel
theorem dX6_findOne_67 : decode cX6_findOne 67 = .ok (.getfield 15, 3) := by decide +kernel
theorem dX6_findOne_70 : decode cX6_findOne 70 = .ok (.sipush 3000, 3) := by decide +kernel
theorem dX6_findOne_73 : decode cX6_findOne 73 = .ok (.if_icmp .ne 7, 3) := by decide +kernel
theorem dX6_findOne_76 : decode cX6_findOne 76 = .ok (.iconst 1, 1) := by decide +kernel
theorem dX6_findOne_77 : decode cX6_findOne 77 = .ok (.goto 4, 3) := by decide +kernel
theorem dX6_findOne_80 : decode cX6_findOne 80 = .ok (.iconst 0, 1) := by decide +kernel
theorem dX6_findOne_81 : decode cX6_findOne 81 = .ok (.putfield 44, 3) := by decide +kernel
theorem dX6_findOne_84 : decode cX6_findOne 84 = .ok (.aload_n 0, 1) := by decide +kernel
theorem dX6_findOne_85 : decode cX6_findOne 85 = .ok (.getfield 44, 3) := by decide +kernel
theorem dX6_findOne_88 : decode cX6_findOne 88 = .ok (.ifCond .ne 15, 3) := by decide +kernel
theorem dX6_findOne_91 : decode cX6_findOne 91 = .ok (.aload_n 0, 1) := by decide +kernel
theorem dX6_findOne_92 : decode cX6_findOne 92 = .ok (.lload_n 2, 1) := by decide +kernel
theorem dX6_findOne_93 : decode cX6_findOne 93 = .ok (.invokevirtual 66, 3) := by decide +kernel
theorem dX6_findOne_96 : decode cX6_findOne 96 = .ok (.ifCond .eq 7, 3) := by decide +kernel
theorem dX6_findOne_99 : decode cX6_findOne 99 = .ok (.iconst 1, 1) := by decide +kernel
theorem dX6_findOne_100 : decode cX6_findOne 100 = .ok (.goto 4, 3) := by decide +kernel
theorem dX6_findOne_103 : decode cX6_findOne 103 = .ok (.iconst 0, 1) := by decide +kernel
theorem dX6_findOne_104 : decode cX6_findOne 104 = .ok (.ireturn, 1) := by decide +kernel
theorem dX6_findOne_105 : decode cX6_findOne 105 = .ok (.aload_n 0, 1) := by decide +kernel
theorem dX6_findOne_106 : decode cX6_findOne 106 = .ok (.dup, 1) := by decide +kernel
theorem dX6_findOne_107 : decode cX6_findOne 107 = .ok (.getfield 41, 3) := by decide +kernel
theorem dX6_findOne_110 : decode cX6_findOne 110 = .ok (.iconst 1, 1) := by decide +kernel
theorem dX6_findOne_111 : decode cX6_findOne 111 = .ok (.iadd, 1) := by decide +kernel
theorem dX6_findOne_112 : decode cX6_findOne 112 = .ok (.putfield 41, 3) := by decide +kernel
theorem dX6_findOne_115 : decode cX6_findOne 115 = .ok (.goto (-96), 3) := by decide +kernel
theorem dX6_findOne_118 : decode cX6_findOne 118 = .ok (.aload_n 0, 1) := by decide +kernel
theorem dX6_findOne_119 : decode cX6_findOne 119 = .ok (.iconst 0, 1) := by decide +kernel
theorem dX6_findOne_120 : decode cX6_findOne 120 = .ok (.putfield 41, 3) := by decide +kernel
theorem dX6_findOne_123 : decode cX6_findOne 123 = .ok (.aload_n 0, 1) := by decide +kernel
theorem dX6_findOne_124 : decode cX6_findOne 124 = .ok (.dup, 1) := by decide +kernel
theorem dX6_findOne_125 : decode cX6_findOne 125 = .ok (.getfield 38, 3) := by decide +kernel
theorem dX6_findOne_128 : decode cX6_findOne 128 = .ok (.iconst 1, 1) := by decide +kernel
theorem dX6_findOne_129 : decode cX6_findOne 129 = .ok (.iadd, 1) := by decide +kernel
theorem dX6_findOne_130 : decode cX6_findOne 130 = .ok (.putfield 38, 3) := by decide +kernel
theorem dX6_findOne_133 : decode cX6_findOne 133 = .ok (.goto (-133), 3) := by decide +kernel
theorem dX6_findOne_136 : decode cX6_findOne 136 = .ok (.iconst 0, 1) := by decide +kernel
theorem dX6_findOne_137 : decode cX6_findOne 137 = .ok (.ireturn, 1) := by decide +kernel
theorem dX6_add_0 : decode cX6_add 0 = .ok (.aload_n 0, 1) := by decide +kernel
theorem dX6_add_1 : decode cX6_add 1 = .ok (.getfield 15, 3) := by decide +kernel
theorem dX6_add_4 : decode cX6_add 4 = .ok (.sipush 3000, 3) := by decide +kernel
theorem dX6_add_7 : decode cX6_add 7 = .ok (.if_icmp .ge 12, 3) := by decide +kernel
theorem dX6_add_10 : decode cX6_add 10 = .ok (.aload_n 0, 1) := by decide +kernel
theorem dX6_add_11 : decode cX6_add 11 = .ok (.lload_n 1, 1) := by decide +kernel
theorem dX6_add_12 : decode cX6_add 12 = .ok (.invokevirtual 104, 3) := by decide +kernel
theorem dX6_add_15 : decode cX6_add 15 = .ok (.iconst (-1), 1) := by decide +kernel
theorem dX6_add_16 : decode cX6_add 16 = .ok (.if_icmp .eq 5, 3) := by decide +kernel
theorem dX6_add_19 : decode cX6_add 19 = .ok (.iconst 0, 1) := by decide +kernel
theorem dX6_add_20 : decode cX6_add 20 = .ok (.ireturn, 1) := by decide +kernel
theorem dX6_add_21 : decode cX6_add 21 = .ok (.aload_n 0, 1) := by decide +kernel
theorem dX6_add_22 : decode cX6_add 22 = .ok (.getfield 19, 3) := by decide +kernel
theorem dX6_add_25 : decode cX6_add 25 = .ok (.aload_n 0, 1) := by decide +kernel
theorem dX6_add_26 : decode cX6_add 26 = .ok (.getfield 22, 3) := by decide +kernel
theorem dX6_add_29 : decode cX6_add 29 = .ok (.iconst 4, 1) := by decide +kernel
theorem dX6_add_30 : decode cX6_add 30 = .ok (.idiv, 1) := by decide +kernel
theorem dX6_add_31 : decode cX6_add 31 = .ok (.dup2, 1) := by decide +kernel
theorem dX6_add_32 : decode cX6_add 32 = .ok (.laload, 1) := by decide +kernel
theorem dX6_add_33 : decode cX6_add 33 = .ok (.aload_n 0, 1) := by decide +kernel
theorem dX6_add_34 : decode cX6_add 34 = .ok (.getfield 15, 3) := by decide +kernel
theorem dX6_add_37 : decode cX6_add 37 = .ok (.i2l, 1) := by decide +kernel
theorem dX6_add_38 : decode cX6_add 38 = .ok (.lconst 1, 1) := by decide +kernel
theorem dX6_add_39 : decode cX6_add 39 = .ok (.ladd, 1) := by decide +kernel
theorem dX6_add_40 : decode cX6_add 40 = .ok (.aload_n 0, 1) := by decide +kernel
theorem dX6_add_41 : decode cX6_add 41 = .ok (.getfield 22, 3) := by decide +kernel
theorem dX6_add_44 : decode cX6_add 44 = .ok (.iconst 4, 1) := by decide +kernel
theorem dX6_add_45 : decode cX6_add 45 = .ok (.irem, 1) := by decide +kernel
theorem dX6_add_46 : decode cX6_add 46 = .ok (.bipush 16, 2) := by decide +kernel
theorem dX6_add_48 : decode cX6_add 48 = .ok (.imul, 1) := by decide +kernel
theorem dX6_add_49 : decode cX6_add 49 = .ok (.lshl, 1) := by decide +kernel
theorem dX6_add_50 : decode cX6_add 50 = .ok (.lor, 1) := by decide +kernel
theorem dX6_add_51 : decode cX6_add 51 = .ok (.lastore, 1) := by decide +kernel
theorem dX6_add_52 : decode cX6_add 52 = .ok (.aload_n 0, 1) := by decide +kernel
theorem dX6_add_53 : decode cX6_add 53 = .ok (.getfield 9, 3) := by decide +kernel
theorem dX6_add_56 : decode cX6_add 56 = .ok (.aload_n 0, 1) := by decide +kernel
theorem dX6_add_57 : decode cX6_add 57 = .ok (.getfield 15, 3) := by decide +kernel
theorem dX6_add_60 : decode cX6_add 60 = .ok (.lload_n 1, 1) := by decide +kernel
theorem dX6_add_61 : decode cX6_add 61 = .ok (.lastore, 1) := by decide +kernel
theorem dX6_add_62 : decode cX6_add 62 = .ok (.aload_n 0, 1) := by decide +kernel
theorem dX6_add_63 : decode cX6_add 63 = .ok (.dup, 1) := by decide +kernel
theorem dX6_add_64 : decode cX6_add 64 = .ok (.getfield 15, 3) := by decide +kernel
theorem dX6_add_67 : decode cX6_add 67 = .ok (.iconst 1, 1) := by decide +kernel
theorem dX6_add_68 : decode cX6_add 68 = .ok (.iadd, 1) := by decide +kernel
theorem dX6_add_69 : decode cX6_add 69 = .ok (.putfield 15, 3) := by decide +kernel
theorem dX6_add_72 : decode cX6_add 72 = .ok (.iconst 1, 1) := by decide +kernel
theorem dX6_add_73 : decode cX6_add 73 = .ok (.ireturn, 1) := by decide +kernel
theorem dX6_carried_0 : decode cX6_carried 0 = .ok (.bipush 7, 2) := by decide +kernel
theorem dX6_carried_2 : decode cX6_carried 2 = .ok (.aload_n 0, 1) := by decide +kernel
theorem dX6_carried_3 : decode cX6_carried 3 = .ok (.getfield 25, 3) := by decide +kernel
theorem dX6_carried_6 : decode cX6_carried 6 = .ok (.iload_n 3, 1) := by decide +kernel
theorem dX6_carried_7 : decode cX6_carried 7 = .ok (.iaload, 1) := by decide +kernel
theorem dX6_carried_8 : decode cX6_carried 8 = .ok (.imul, 1) := by decide +kernel
theorem dX6_carried_9 : decode cX6_carried 9 = .ok (.istore 4, 2) := by decide +kernel
theorem dX6_carried_11 : decode cX6_carried 11 = .ok (.bipush 7, 2) := by decide +kernel
theorem dX6_carried_13 : decode cX6_carried 13 = .ok (.aload_n 0, 1) := by decide +kernel
theorem dX6_carried_14 : decode cX6_carried 14 = .ok (.getfield 29, 3) := by decide +kernel
theorem dX6_carried_17 : decode cX6_carried 17 = .ok (.iload_n 3, 1) := by decide +kernel
theorem dX6_carried_18 : decode cX6_carried 18 = .ok (.iaload, 1) := by decide +kernel
theorem dX6_carried_19 : decode cX6_carried 19 = .ok (.imul, 1) := by decide +kernel
theorem dX6_carried_20 : decode cX6_carried 20 = .ok (.istore 5, 2) := by decide +kernel
theorem dX6_carried_22 : decode cX6_carried 22 = .ok (.lload_n 1, 1) := by decide +kernel
theorem dX6_carried_23 : decode cX6_carried 23 = .ok (.iload 4, 2) := by decide +kernel
theorem dX6_carried_25 : decode cX6_carried 25 = .ok (.lushr, 1) := by decide +kernel
theorem dX6_carried_26 : decode cX6_carried 26 = .ok (.l2i, 1) := by decide +kernel
theorem dX6_carried_27 : decode cX6_carried 27 = .ok (.bipush 127, 2) := by decide +kernel
theorem dX6_carried_29 : decode cX6_carried 29 = .ok (.iand, 1) := by decide +kernel
theorem dX6_carried_30 : decode cX6_carried 30 = .ok (.istore 6, 2) := by decide +kernel
theorem dX6_carried_32 : decode cX6_carried 32 = .ok (.lload_n 1, 1) := by decide +kernel
theorem dX6_carried_33 : decode cX6_carried 33 = .ok (.iload 5, 2) := by decide +kernel
theorem dX6_carried_35 : decode cX6_carried 35 = .ok (.lushr, 1) := by decide +kernel
theorem dX6_carried_36 : decode cX6_carried 36 = .ok (.l2i, 1) := by decide +kernel
theorem dX6_carried_37 : decode cX6_carried 37 = .ok (.bipush 127, 2) := by decide +kernel
theorem dX6_carried_39 : decode cX6_carried 39 = .ok (.iand, 1) := by decide +kernel
theorem dX6_carried_40 : decode cX6_carried 40 = .ok (.istore 7, 2) := by decide +kernel
theorem dX6_carried_42 : decode cX6_carried 42 = .ok (.iload 6, 2) := by decide +kernel
theorem dX6_carried_44 : decode cX6_carried 44 = .ok (.aload_n 0, 1) := by decide +kernel
theorem dX6_carried_45 : decode cX6_carried 45 = .ok (.getfield 35, 3) := by decide +kernel
theorem dX6_carried_48 : decode cX6_carried 48 = .ok (.if_icmp .lt 15, 3) := by decide +kernel
theorem dX6_carried_51 : decode cX6_carried 51 = .ok (.iload 7, 2) := by decide +kernel
theorem dX6_carried_53 : decode cX6_carried 53 = .ok (.bipush 99, 2) := by decide +kernel
theorem dX6_carried_55 : decode cX6_carried 55 = .ok (.aload_n 0, 1) := by decide +kernel
theorem dX6_carried_56 : decode cX6_carried 56 = .ok (.getfield 35, 3) := by decide +kernel
theorem dX6_carried_59 : decode cX6_carried 59 = .ok (.isub, 1) := by decide +kernel
theorem dX6_carried_60 : decode cX6_carried 60 = .ok (.if_icmp .le 7, 3) := by decide +kernel
theorem dX6_carried_63 : decode cX6_carried 63 = .ok (.ldc2_w 102, 3) := by decide +kernel
theorem dX6_carried_66 : decode cX6_carried 66 = .ok (.lreturn, 1) := by decide +kernel
theorem dX6_carried_67 : decode cX6_carried 67 = .ok (.lload_n 1, 1) := by decide +kernel
theorem dX6_carried_68 : decode cX6_carried 68 = .ok (.aload_n 0, 1) := by decide +kernel
theorem dX6_carried_69 : decode cX6_carried 69 = .ok (.getfield 35, 3) := by decide +kernel
theorem dX6_carried_72 : decode cX6_carried 72 = .ok (.i2l, 1) := by decide +kernel
theorem dX6_carried_73 : decode cX6_carried 73 = .ok (.iload 4, 2) := by decide +kernel
theorem dX6_carried_75 : decode cX6_carried 75 = .ok (.lshl, 1) := by decide +kernel
theorem dX6_carried_76 : decode cX6_carried 76 = .ok (.lsub, 1) := by decide +kernel
theorem dX6_carried_77 : decode cX6_carried 77 = .ok (.aload_n 0, 1) := by decide +kernel
theorem dX6_carried_78 : decode cX6_carried 78 = .ok (.getfield 35, 3) := by decide +kernel
theorem dX6_carried_81 : decode cX6_carried 81 = .ok (.i2l, 1) := by decide +kernel
theorem dX6_carried_82 : decode cX6_carried 82 = .ok (.iload 5, 2) := by decide +kernel
theorem dX6_carried_84 : decode cX6_carried 84 = .ok (.lshl, 1) := by decide +kernel
theorem dX6_carried_85 : decode cX6_carried 85 = .ok (.ladd, 1) := by decide +kernel
theorem dX6_carried_86 : decode cX6_carried 86 = .ok (.lreturn, 1) := by decide +kernel
theorem dX6_indexOf_0 : decode cX6_indexOf 0 = .ok (.aload_n 0, 1) := by decide +kernel
theorem dX6_indexOf_1 : decode cX6_indexOf 1 = .ok (.lload_n 1, 1) := by decide +kernel
theorem dX6_indexOf_2 : decode cX6_indexOf 2 = .ok (.ldc2_w 108, 3) := by decide +kernel
theorem dX6_indexOf_5 : decode cX6_indexOf 5 = .ok (.lmul, 1) := by decide +kernel
theorem dX6_indexOf_6 : decode cX6_indexOf 6 = .ok (.bipush 51, 2) := by decide +kernel
theorem dX6_indexOf_8 : decode cX6_indexOf 8 = .ok (.lushr, 1) := by decide +kernel
theorem dX6_indexOf_9 : decode cX6_indexOf 9 = .ok (.l2i, 1) := by decide +kernel
theorem dX6_indexOf_10 : decode cX6_indexOf 10 = .ok (.putfield 22, 3) := by decide +kernel
theorem dX6_indexOf_13 : decode cX6_indexOf 13 = .ok (.iconst 0, 1) := by decide +kernel
theorem dX6_indexOf_14 : decode cX6_indexOf 14 = .ok (.istore_n 3, 1) := by decide +kernel
theorem dX6_indexOf_15 : decode cX6_indexOf 15 = .ok (.iload_n 3, 1) := by decide +kernel
theorem dX6_indexOf_16 : decode cX6_indexOf 16 = .ok (.sipush 8192, 3) := by decide +kernel
theorem dX6_indexOf_19 : decode cX6_indexOf 19 = .ok (.if_icmp .ge 86, 3) := by decide +kernel
theorem dX6_indexOf_22 : decode cX6_indexOf 22 = .ok (.aload_n 0, 1) := by decide +kernel
theorem dX6_indexOf_23 : decode cX6_indexOf 23 = .ok (.getfield 19, 3) := by decide +kernel
theorem dX6_indexOf_26 : decode cX6_indexOf 26 = .ok (.aload_n 0, 1) := by decide +kernel
theorem dX6_indexOf_27 : decode cX6_indexOf 27 = .ok (.getfield 22, 3) := by decide +kernel
theorem dX6_indexOf_30 : decode cX6_indexOf 30 = .ok (.iconst 4, 1) := by decide +kernel
theorem dX6_indexOf_31 : decode cX6_indexOf 31 = .ok (.idiv, 1) := by decide +kernel
theorem dX6_indexOf_32 : decode cX6_indexOf 32 = .ok (.laload, 1) := by decide +kernel
theorem dX6_indexOf_33 : decode cX6_indexOf 33 = .ok (.aload_n 0, 1) := by decide +kernel
theorem dX6_indexOf_34 : decode cX6_indexOf 34 = .ok (.getfield 22, 3) := by decide +kernel
theorem dX6_indexOf_37 : decode cX6_indexOf 37 = .ok (.iconst 4, 1) := by decide +kernel
theorem dX6_indexOf_38 : decode cX6_indexOf 38 = .ok (.irem, 1) := by decide +kernel
theorem dX6_indexOf_39 : decode cX6_indexOf 39 = .ok (.bipush 16, 2) := by decide +kernel
theorem dX6_indexOf_41 : decode cX6_indexOf 41 = .ok (.imul, 1) := by decide +kernel
theorem dX6_indexOf_42 : decode cX6_indexOf 42 = .ok (.lushr, 1) := by decide +kernel
theorem dX6_indexOf_43 : decode cX6_indexOf 43 = .ok (.lstore 4, 2) := by decide +kernel
theorem dX6_indexOf_45 : decode cX6_indexOf 45 = .ok (.lload 4, 2) := by decide +kernel
theorem dX6_indexOf_47 : decode cX6_indexOf 47 = .ok (.ldc2_w 110, 3) := by decide +kernel
theorem dX6_indexOf_50 : decode cX6_indexOf 50 = .ok (.land, 1) := by decide +kernel
theorem dX6_indexOf_51 : decode cX6_indexOf 51 = .ok (.l2i, 1) := by decide +kernel
theorem dX6_indexOf_52 : decode cX6_indexOf 52 = .ok (.iconst 1, 1) := by decide +kernel
theorem dX6_indexOf_53 : decode cX6_indexOf 53 = .ok (.isub, 1) := by decide +kernel
theorem dX6_indexOf_54 : decode cX6_indexOf 54 = .ok (.istore 6, 2) := by decide +kernel
theorem dX6_indexOf_56 : decode cX6_indexOf 56 = .ok (.iload 6, 2) := by decide +kernel
theorem dX6_indexOf_58 : decode cX6_indexOf 58 = .ok (.ifCond .lt 24, 3) := by decide +kernel
theorem dX6_indexOf_61 : decode cX6_indexOf 61 = .ok (.iload 6, 2) := by decide +kernel
theorem dX6_indexOf_63 : decode cX6_indexOf 63 = .ok (.aload_n 0, 1) := by decide +kernel
theorem dX6_indexOf_64 : decode cX6_indexOf 64 = .ok (.getfield 15, 3) := by decide +kernel
theorem dX6_indexOf_67 : decode cX6_indexOf 67 = .ok (.if_icmp .ge 18, 3) := by decide +kernel
theorem dX6_indexOf_70 : decode cX6_indexOf 70 = .ok (.aload_n 0, 1) := by decide +kernel
theorem dX6_indexOf_71 : decode cX6_indexOf 71 = .ok (.getfield 9, 3) := by decide +kernel
theorem dX6_indexOf_74 : decode cX6_indexOf 74 = .ok (.iload 6, 2) := by decide +kernel
theorem dX6_indexOf_76 : decode cX6_indexOf 76 = .ok (.laload, 1) := by decide +kernel
theorem dX6_indexOf_77 : decode cX6_indexOf 77 = .ok (.lload_n 1, 1) := by decide +kernel
theorem dX6_indexOf_78 : decode cX6_indexOf 78 = .ok (.lcmp, 1) := by decide +kernel
theorem dX6_indexOf_79 : decode cX6_indexOf 79 = .ok (.ifCond .ne 6, 3) := by decide +kernel
theorem dX6_indexOf_82 : decode cX6_indexOf 82 = .ok (.iload 6, 2) := by decide +kernel
theorem dX6_indexOf_84 : decode cX6_indexOf 84 = .ok (.ireturn, 1) := by decide +kernel
theorem dX6_indexOf_85 : decode cX6_indexOf 85 = .ok (.aload_n 0, 1) := by decide +kernel
theorem dX6_indexOf_86 : decode cX6_indexOf 86 = .ok (.aload_n 0, 1) := by decide +kernel
theorem dX6_indexOf_87 : decode cX6_indexOf 87 = .ok (.getfield 22, 3) := by decide +kernel
theorem dX6_indexOf_90 : decode cX6_indexOf 90 = .ok (.iconst 1, 1) := by decide +kernel
theorem dX6_indexOf_91 : decode cX6_indexOf 91 = .ok (.iadd, 1) := by decide +kernel
theorem dX6_indexOf_92 : decode cX6_indexOf 92 = .ok (.sipush 8191, 3) := by decide +kernel
theorem dX6_indexOf_95 : decode cX6_indexOf 95 = .ok (.iand, 1) := by decide +kernel
theorem dX6_indexOf_96 : decode cX6_indexOf 96 = .ok (.putfield 22, 3) := by decide +kernel
theorem dX6_indexOf_99 : decode cX6_indexOf 99 = .ok (.iinc 3 1, 3) := by decide +kernel
theorem dX6_indexOf_102 : decode cX6_indexOf 102 = .ok (.goto (-87), 3) := by decide +kernel
theorem dX6_indexOf_105 : decode cX6_indexOf 105 = .ok (.iconst (-1), 1) := by decide +kernel
theorem dX6_indexOf_106 : decode cX6_indexOf 106 = .ok (.ireturn, 1) := by decide +kernel
theorem dX6_stepsTo_0 : decode cX6_stepsTo 0 = .ok (.iconst 0, 1) := by decide +kernel
theorem dX6_stepsTo_1 : decode cX6_stepsTo 1 = .ok (.istore_n 2, 1) := by decide +kernel
theorem dX6_stepsTo_2 : decode cX6_stepsTo 2 = .ok (.iload_n 1, 1) := by decide +kernel
theorem dX6_stepsTo_3 : decode cX6_stepsTo 3 = .ok (.istore_n 3, 1) := by decide +kernel
theorem dX6_stepsTo_4 : decode cX6_stepsTo 4 = .ok (.iload_n 3, 1) := by decide +kernel
theorem dX6_stepsTo_5 : decode cX6_stepsTo 5 = .ok (.ifCond .le 22, 3) := by decide +kernel
theorem dX6_stepsTo_8 : decode cX6_stepsTo 8 = .ok (.iload_n 2, 1) := by decide +kernel
theorem dX6_stepsTo_9 : decode cX6_stepsTo 9 = .ok (.sipush 3000, 3) := by decide +kernel
theorem dX6_stepsTo_12 : decode cX6_stepsTo 12 = .ok (.if_icmp .ge 15, 3) := by decide +kernel
theorem dX6_stepsTo_15 : decode cX6_stepsTo 15 = .ok (.iinc 2 1, 3) := by decide +kernel
theorem dX6_stepsTo_18 : decode cX6_stepsTo 18 = .ok (.aload_n 0, 1) := by decide +kernel
theorem dX6_stepsTo_19 : decode cX6_stepsTo 19 = .ok (.iload_n 3, 1) := by decide +kernel
theorem dX6_stepsTo_20 : decode cX6_stepsTo 20 = .ok (.invokevirtual 112, 3) := by decide +kernel
theorem dX6_stepsTo_23 : decode cX6_stepsTo 23 = .ok (.istore_n 3, 1) := by decide +kernel
theorem dX6_stepsTo_24 : decode cX6_stepsTo 24 = .ok (.goto (-20), 3) := by decide +kernel
theorem dX6_stepsTo_27 : decode cX6_stepsTo 27 = .ok (.iload_n 2, 1) := by decide +kernel
theorem dX6_stepsTo_28 : decode cX6_stepsTo 28 = .ok (.ireturn, 1) := by decide +kernel
theorem dX6_cameFrom_0 : decode cX6_cameFrom 0 = .ok (.aload_n 0, 1) := by decide +kernel
theorem dX6_cameFrom_1 : decode cX6_cameFrom 1 = .ok (.iload_n 1, 1) := by decide +kernel
theorem dX6_cameFrom_2 : decode cX6_cameFrom 2 = .ok (.invokevirtual 116, 3) := by decide +kernel
theorem dX6_cameFrom_5 : decode cX6_cameFrom 5 = .ok (.istore_n 2, 1) := by decide +kernel
theorem dX6_cameFrom_6 : decode cX6_cameFrom 6 = .ok (.iload_n 2, 1) := by decide +kernel
theorem dX6_cameFrom_7 : decode cX6_cameFrom 7 = .ok (.iconst (-1), 1) := by decide +kernel
theorem dX6_cameFrom_8 : decode cX6_cameFrom 8 = .ok (.if_icmp .ne 7, 3) := by decide +kernel
theorem dX6_cameFrom_11 : decode cX6_cameFrom 11 = .ok (.iconst 0, 1) := by decide +kernel
theorem dX6_cameFrom_12 : decode cX6_cameFrom 12 = .ok (.goto 18, 3) := by decide +kernel
theorem dX6_cameFrom_15 : decode cX6_cameFrom 15 = .ok (.aload_n 0, 1) := by decide +kernel
theorem dX6_cameFrom_16 : decode cX6_cameFrom 16 = .ok (.aload_n 0, 1) := by decide +kernel
theorem dX6_cameFrom_17 : decode cX6_cameFrom 17 = .ok (.aload_n 0, 1) := by decide +kernel
theorem dX6_cameFrom_18 : decode cX6_cameFrom 18 = .ok (.getfield 9, 3) := by decide +kernel
theorem dX6_cameFrom_21 : decode cX6_cameFrom 21 = .ok (.iload_n 1, 1) := by decide +kernel
theorem dX6_cameFrom_22 : decode cX6_cameFrom 22 = .ok (.laload, 1) := by decide +kernel
theorem dX6_cameFrom_23 : decode cX6_cameFrom 23 = .ok (.iload_n 2, 1) := by decide +kernel
theorem dX6_cameFrom_24 : decode cX6_cameFrom 24 = .ok (.invokevirtual 98, 3) := by decide +kernel
theorem dX6_cameFrom_27 : decode cX6_cameFrom 27 = .ok (.invokevirtual 104, 3) := by decide +kernel
theorem dX6_cameFrom_30 : decode cX6_cameFrom 30 = .ok (.ireturn, 1) := by decide +kernel
theorem dX6_moveBack_0 : decode cX6_moveBack 0 = .ok (.iconst (-1), 1) := by decide +kernel
theorem dX6_moveBack_1 : decode cX6_moveBack 1 = .ok (.istore_n 2, 1) := by decide +kernel
theorem dX6_moveBack_2 : decode cX6_moveBack 2 = .ok (.iload_n 1, 1) := by decide +kernel
theorem dX6_moveBack_3 : decode cX6_moveBack 3 = .ok (.istore_n 3, 1) := by decide +kernel
theorem dX6_moveBack_4 : decode cX6_moveBack 4 = .ok (.iconst 0, 1) := by decide +kernel
theorem dX6_moveBack_5 : decode cX6_moveBack 5 = .ok (.istore 4, 2) := by decide +kernel
theorem dX6_moveBack_7 : decode cX6_moveBack 7 = .ok (.iload 4, 2) := by decide +kernel
theorem dX6_moveBack_9 : decode cX6_moveBack 9 = .ok (.aload_n 0, 1) := by decide +kernel
theorem dX6_moveBack_10 : decode cX6_moveBack 10 = .ok (.getfield 32, 3) := by decide +kernel
theorem dX6_moveBack_13 : decode cX6_moveBack 13 = .ok (.if_icmp .ge 62, 3) := by decide +kernel
theorem dX6_moveBack_16 : decode cX6_moveBack 16 = .ok (.aload_n 0, 1) := by decide +kernel
theorem dX6_moveBack_17 : decode cX6_moveBack 17 = .ok (.aload_n 0, 1) := by decide +kernel
theorem dX6_moveBack_18 : decode cX6_moveBack 18 = .ok (.getfield 9, 3) := by decide +kernel
theorem dX6_moveBack_21 : decode cX6_moveBack 21 = .ok (.iload_n 1, 1) := by decide +kernel
theorem dX6_moveBack_22 : decode cX6_moveBack 22 = .ok (.laload, 1) := by decide +kernel
theorem dX6_moveBack_23 : decode cX6_moveBack 23 = .ok (.iload 4, 2) := by decide +kernel
theorem dX6_moveBack_25 : decode cX6_moveBack 25 = .ok (.invokevirtual 98, 3) := by decide +kernel
theorem dX6_moveBack_28 : decode cX6_moveBack 28 = .ok (.lstore 5, 2) := by decide +kernel
theorem dX6_moveBack_30 : decode cX6_moveBack 30 = .ok (.lload 5, 2) := by decide +kernel
theorem dX6_moveBack_32 : decode cX6_moveBack 32 = .ok (.ldc2_w 102, 3) := by decide +kernel
theorem dX6_moveBack_35 : decode cX6_moveBack 35 = .ok (.lcmp, 1) := by decide +kernel
theorem dX6_moveBack_36 : decode cX6_moveBack 36 = .ok (.ifCond .ne 7, 3) := by decide +kernel
theorem dX6_moveBack_39 : decode cX6_moveBack 39 = .ok (.iconst (-1), 1) := by decide +kernel
theorem dX6_moveBack_40 : decode cX6_moveBack 40 = .ok (.goto 9, 3) := by decide +kernel
theorem dX6_moveBack_43 : decode cX6_moveBack 43 = .ok (.aload_n 0, 1) := by decide +kernel
theorem dX6_moveBack_44 : decode cX6_moveBack 44 = .ok (.lload 5, 2) := by decide +kernel
theorem dX6_moveBack_46 : decode cX6_moveBack 46 = .ok (.invokevirtual 104, 3) := by decide +kernel
theorem dX6_moveBack_49 : decode cX6_moveBack 49 = .ok (.istore 7, 2) := by decide +kernel
theorem dX6_moveBack_51 : decode cX6_moveBack 51 = .ok (.iload 7, 2) := by decide +kernel
theorem dX6_moveBack_53 : decode cX6_moveBack 53 = .ok (.iconst (-1), 1) := by decide +kernel
theorem dX6_moveBack_54 : decode cX6_moveBack 54 = .ok (.if_icmp .eq 15, 3) := by decide +kernel
theorem dX6_moveBack_57 : decode cX6_moveBack 57 = .ok (.iload 7, 2) := by decide +kernel
theorem dX6_moveBack_59 : decode cX6_moveBack 59 = .ok (.iload_n 3, 1) := by decide +kernel
theorem dX6_moveBack_60 : decode cX6_moveBack 60 = .ok (.if_icmp .ge 9, 3) := by decide +kernel
theorem dX6_moveBack_63 : decode cX6_moveBack 63 = .ok (.iload 7, 2) := by decide +kernel
theorem dX6_moveBack_65 : decode cX6_moveBack 65 = .ok (.istore_n 3, 1) := by decide +kernel
theorem dX6_moveBack_66 : decode cX6_moveBack 66 = .ok (.iload 4, 2) := by decide +kernel
theorem dX6_moveBack_68 : decode cX6_moveBack 68 = .ok (.istore_n 2, 1) := by decide +kernel
theorem dX6_moveBack_69 : decode cX6_moveBack 69 = .ok (.iinc 4 1, 3) := by decide +kernel
theorem dX6_moveBack_72 : decode cX6_moveBack 72 = .ok (.goto (-65), 3) := by decide +kernel
theorem dX6_moveBack_75 : decode cX6_moveBack 75 = .ok (.iload_n 2, 1) := by decide +kernel
theorem dX6_moveBack_76 : decode cX6_moveBack 76 = .ok (.ireturn, 1) := by decide +kernel
theorem dX6_tellWay_0 : decode cX6_tellWay 0 = .ok (.aload_n 2, 1) := by decide +kernel
theorem dX6_tellWay_1 : decode cX6_tellWay 1 = .ok (.invokevirtual 119, 3) := by decide +kernel
theorem dX6_tellWay_4 : decode cX6_tellWay 4 = .ok (.iconst 0, 1) := by decide +kernel
theorem dX6_tellWay_5 : decode cX6_tellWay 5 = .ok (.istore_n 3, 1) := by decide +kernel
theorem dX6_tellWay_6 : decode cX6_tellWay 6 = .ok (.iload_n 1, 1) := by decide +kernel
theorem dX6_tellWay_7 : decode cX6_tellWay 7 = .ok (.istore 4, 2) := by decide +kernel
theorem dX6_tellWay_9 : decode cX6_tellWay 9 = .ok (.iload 4, 2) := by decide +kernel
theorem dX6_tellWay_11 : decode cX6_tellWay 11 = .ok (.ifCond .le 60, 3) := by decide +kernel
theorem dX6_tellWay_14 : decode cX6_tellWay 14 = .ok (.iload_n 3, 1) := by decide +kernel
theorem dX6_tellWay_15 : decode cX6_tellWay 15 = .ok (.sipush 3000, 3) := by decide +kernel
theorem dX6_tellWay_18 : decode cX6_tellWay 18 = .ok (.if_icmp .ge 53, 3) := by decide +kernel
theorem dX6_tellWay_21 : decode cX6_tellWay 21 = .ok (.aload_n 0, 1) := by decide +kernel
theorem dX6_tellWay_22 : decode cX6_tellWay 22 = .ok (.iload 4, 2) := by decide +kernel
theorem dX6_tellWay_24 : decode cX6_tellWay 24 = .ok (.invokevirtual 116, 3) := by decide +kernel
theorem dX6_tellWay_27 : decode cX6_tellWay 27 = .ok (.istore 5, 2) := by decide +kernel
theorem dX6_tellWay_29 : decode cX6_tellWay 29 = .ok (.iload 5, 2) := by decide +kernel
theorem dX6_tellWay_31 : decode cX6_tellWay 31 = .ok (.iconst (-1), 1) := by decide +kernel
theorem dX6_tellWay_32 : decode cX6_tellWay 32 = .ok (.if_icmp .eq 25, 3) := by decide +kernel
theorem dX6_tellWay_35 : decode cX6_tellWay 35 = .ok (.aload_n 2, 1) := by decide +kernel
theorem dX6_tellWay_36 : decode cX6_tellWay 36 = .ok (.bipush 10, 2) := by decide +kernel
theorem dX6_tellWay_38 : decode cX6_tellWay 38 = .ok (.aload_n 0, 1) := by decide +kernel
theorem dX6_tellWay_39 : decode cX6_tellWay 39 = .ok (.getfield 29, 3) := by decide +kernel
theorem dX6_tellWay_42 : decode cX6_tellWay 42 = .ok (.iload 5, 2) := by decide +kernel
theorem dX6_tellWay_44 : decode cX6_tellWay 44 = .ok (.iaload, 1) := by decide +kernel
theorem dX6_tellWay_45 : decode cX6_tellWay 45 = .ok (.imul, 1) := by decide +kernel
theorem dX6_tellWay_46 : decode cX6_tellWay 46 = .ok (.aload_n 0, 1) := by decide +kernel
theorem dX6_tellWay_47 : decode cX6_tellWay 47 = .ok (.getfield 25, 3) := by decide +kernel
theorem dX6_tellWay_50 : decode cX6_tellWay 50 = .ok (.iload 5, 2) := by decide +kernel
theorem dX6_tellWay_52 : decode cX6_tellWay 52 = .ok (.iaload, 1) := by decide +kernel
theorem dX6_tellWay_53 : decode cX6_tellWay 53 = .ok (.iadd, 1) := by decide +kernel
theorem dX6_tellWay_54 : decode cX6_tellWay 54 = .ok (.invokevirtual 124, 3) := by decide +kernel
theorem dX6_tellWay_57 : decode cX6_tellWay 57 = .ok (.iinc 3 1, 3) := by decide +kernel
theorem dX6_tellWay_60 : decode cX6_tellWay 60 = .ok (.aload_n 0, 1) := by decide +kernel
theorem dX6_tellWay_61 : decode cX6_tellWay 61 = .ok (.iload 4, 2) := by decide +kernel
theorem dX6_tellWay_63 : decode cX6_tellWay 63 = .ok (.invokevirtual 112, 3) := by decide +kernel
theorem dX6_tellWay_66 : decode cX6_tellWay 66 = .ok (.istore 4, 2) := by decide +kernel
theorem dX6_tellWay_68 : decode cX6_tellWay 68 = .ok (.goto (-59), 3) := by decide +kernel
theorem dX6_tellWay_71 : decode cX6_tellWay 71 = .ok (.iload_n 3, 1) := by decide +kernel
theorem dX6_tellWay_72 : decode cX6_tellWay 72 = .ok (.ireturn, 1) := by decide +kernel
theorem dX7_init_0 : decode cX7_init 0 = .ok (.aload_n 0, 1) := by decide +kernel
theorem dX7_init_1 : decode cX7_init 1 = .ok (.invokespecial 3, 3) := by decide +kernel
theorem dX7_init_4 : decode cX7_init 4 = .ok (.aload_n 0, 1) := by decide +kernel
theorem dX7_init_5 : decode cX7_init 5 = .ok (.iconst 0, 1) := by decide +kernel
theorem dX7_init_6 : decode cX7_init 6 = .ok (.putfield 9, 3) := by decide +kernel
theorem dX7_init_9 : decode cX7_init 9 = .ok (.aload_n 0, 1) := by decide +kernel
theorem dX7_init_10 : decode cX7_init 10 = .ok (.bipush 10, 2) := by decide +kernel
theorem dX7_init_12 : decode cX7_init 12 = .ok (.newarray .int, 2) := by decide +kernel
theorem dX7_init_14 : decode cX7_init 14 = .ok (.putfield 15, 3) := by decide +kernel
theorem dX7_init_17 : decode cX7_init 17 = .ok (.aload_n 0, 1) := by decide +kernel
theorem dX7_init_18 : decode cX7_init 18 = .ok (.bipush 10, 2) := by decide +kernel
theorem dX7_init_20 : decode cX7_init 20 = .ok (.newarray .int, 2) := by decide +kernel
theorem dX7_init_22 : decode cX7_init 22 = .ok (.putfield 19, 3) := by decide +kernel
theorem dX7_init_25 : decode cX7_init 25 = .ok (.return_, 1) := by decide +kernel
theorem dX7_add_0 : decode cX7_add 0 = .ok (.aload_n 0, 1) := by decide +kernel
theorem dX7_add_1 : decode cX7_add 1 = .ok (.getfield 9, 3) := by decide +kernel
theorem dX7_add_4 : decode cX7_add 4 = .ok (.bipush 10, 2) := by decide +kernel
theorem dX7_add_6 : decode cX7_add 6 = .ok (.if_icmp .ge 33, 3) := by decide +kernel
theorem dX7_add_9 : decode cX7_add 9 = .ok (.aload_n 0, 1) := by decide +kernel
theorem dX7_add_10 : decode cX7_add 10 = .ok (.getfield 15, 3) := by decide +kernel
theorem dX7_add_13 : decode cX7_add 13 = .ok (.aload_n 0, 1) := by decide +kernel
theorem dX7_add_14 : decode cX7_add 14 = .ok (.getfield 9, 3) := by decide +kernel
theorem dX7_add_17 : decode cX7_add 17 = .ok (.iload_n 1, 1) := by decide +kernel
theorem dX7_add_18 : decode cX7_add 18 = .ok (.iastore, 1) := by decide +kernel
theorem dX7_add_19 : decode cX7_add 19 = .ok (.aload_n 0, 1) := by decide +kernel
theorem dX7_add_20 : decode cX7_add 20 = .ok (.getfield 19, 3) := by decide +kernel
theorem dX7_add_23 : decode cX7_add 23 = .ok (.aload_n 0, 1) := by decide +kernel
theorem dX7_add_24 : decode cX7_add 24 = .ok (.getfield 9, 3) := by decide +kernel
theorem dX7_add_27 : decode cX7_add 27 = .ok (.iload_n 2, 1) := by decide +kernel
theorem dX7_add_28 : decode cX7_add 28 = .ok (.iastore, 1) := by decide +kernel
theorem dX7_add_29 : decode cX7_add 29 = .ok (.aload_n 0, 1) := by decide +kernel
theorem dX7_add_30 : decode cX7_add 30 = .ok (.dup, 1) := by decide +kernel
theorem dX7_add_31 : decode cX7_add 31 = .ok (.getfield 9, 3) := by decide +kernel
theorem dX7_add_34 : decode cX7_add 34 = .ok (.iconst 1, 1) := by decide +kernel
theorem dX7_add_35 : decode cX7_add 35 = .ok (.iadd, 1) := by decide +kernel
theorem dX7_add_36 : decode cX7_add 36 = .ok (.putfield 9, 3) := by decide +kernel
theorem dX7_add_39 : decode cX7_add 39 = .ok (.return_, 1) := by decide +kernel
theorem dX7_holdFor_0 : decode cX7_holdFor 0 = .ok (.iconst 0, 1) := by decide +kernel
theorem dX7_holdFor_1 : decode cX7_holdFor 1 = .ok (.istore_n 2, 1) := by decide +kernel
theorem dX7_holdFor_2 : decode cX7_holdFor 2 = .ok (.iconst 0, 1) := by decide +kernel
theorem dX7_holdFor_3 : decode cX7_holdFor 3 = .ok (.istore_n 3, 1) := by decide +kernel
theorem dX7_holdFor_4 : decode cX7_holdFor 4 = .ok (.iload_n 3, 1) := by decide +kernel
theorem dX7_holdFor_5 : decode cX7_holdFor 5 = .ok (.aload_n 0, 1) := by decide +kernel
theorem dX7_holdFor_6 : decode cX7_holdFor 6 = .ok (.getfield 9, 3) := by decide +kernel
theorem dX7_holdFor_9 : decode cX7_holdFor 9 = .ok (.if_icmp .ge 20, 3) := by decide +kernel
theorem dX7_holdFor_12 : decode cX7_holdFor 12 = .ok (.iload_n 2, 1) := by decide +kernel
theorem dX7_holdFor_13 : decode cX7_holdFor 13 = .ok (.aload_n 0, 1) := by decide +kernel
theorem dX7_holdFor_14 : decode cX7_holdFor 14 = .ok (.getfield 15, 3) := by decide +kernel
theorem dX7_holdFor_17 : decode cX7_holdFor 17 = .ok (.iload_n 3, 1) := by decide +kernel
theorem dX7_holdFor_18 : decode cX7_holdFor 18 = .ok (.iaload, 1) := by decide +kernel
theorem dX7_holdFor_19 : decode cX7_holdFor 19 = .ok (.invokestatic 22, 3) := by decide +kernel
theorem dX7_holdFor_22 : decode cX7_holdFor 22 = .ok (.istore_n 2, 1) := by decide +kernel
theorem dX7_holdFor_23 : decode cX7_holdFor 23 = .ok (.iinc 3 1, 3) := by decide +kernel
theorem dX7_holdFor_26 : decode cX7_holdFor 26 = .ok (.goto (-22), 3) := by decide +kernel
theorem dX7_holdFor_29 : decode cX7_holdFor 29 = .ok (.iconst 1, 1) := by decide +kernel
theorem dX7_holdFor_30 : decode cX7_holdFor 30 = .ok (.istore_n 3, 1) := by decide +kernel
theorem dX7_holdFor_31 : decode cX7_holdFor 31 = .ok (.iload_n 3, 1) := by decide +kernel
theorem dX7_holdFor_32 : decode cX7_holdFor 32 = .ok (.iload_n 2, 1) := by decide +kernel
theorem dX7_holdFor_33 : decode cX7_holdFor 33 = .ok (.if_icmp .gt 60, 3) := by decide +kernel
theorem dX7_holdFor_36 : decode cX7_holdFor 36 = .ok (.aload_n 1, 1) := by decide +kernel
theorem dX7_holdFor_37 : decode cX7_holdFor 37 = .ok (.iconst 0, 1) := by decide +kernel
theorem dX7_holdFor_38 : decode cX7_holdFor 38 = .ok (.iconst 0, 1) := by decide +kernel
theorem dX7_holdFor_39 : decode cX7_holdFor 39 = .ok (.invokevirtual 28, 3) := by decide +kernel
theorem dX7_holdFor_42 : decode cX7_holdFor 42 = .ok (.iconst 0, 1) := by decide +kernel
theorem dX7_holdFor_43 : decode cX7_holdFor 43 = .ok (.istore 4, 2) := by decide +kernel
theorem dX7_holdFor_45 : decode cX7_holdFor 45 = .ok (.iload 4, 2) := by decide +kernel
theorem dX7_holdFor_47 : decode cX7_holdFor 47 = .ok (.aload_n 0, 1) := by decide +kernel
theorem dX7_holdFor_48 : decode cX7_holdFor 48 = .ok (.getfield 9, 3) := by decide +kernel
theorem dX7_holdFor_51 : decode cX7_holdFor 51 = .ok (.if_icmp .ge 36, 3) := by decide +kernel
theorem dX7_holdFor_54 : decode cX7_holdFor 54 = .ok (.aload_n 0, 1) := by decide +kernel
theorem dX7_holdFor_55 : decode cX7_holdFor 55 = .ok (.getfield 15, 3) := by decide +kernel
theorem dX7_holdFor_58 : decode cX7_holdFor 58 = .ok (.iload 4, 2) := by decide +kernel
theorem dX7_holdFor_60 : decode cX7_holdFor 60 = .ok (.iaload, 1) := by decide +kernel
theorem dX7_holdFor_61 : decode cX7_holdFor 61 = .ok (.iload_n 3, 1) := by decide +kernel
theorem dX7_holdFor_62 : decode cX7_holdFor 62 = .ok (.if_icmp .ne 19, 3) := by decide +kernel
theorem dX7_holdFor_65 : decode cX7_holdFor 65 = .ok (.aload_n 0, 1) := by decide +kernel
theorem dX7_holdFor_66 : decode cX7_holdFor 66 = .ok (.getfield 19, 3) := by decide +kernel
theorem dX7_holdFor_69 : decode cX7_holdFor 69 = .ok (.iload 4, 2) := by decide +kernel
theorem dX7_holdFor_71 : decode cX7_holdFor 71 = .ok (.iaload, 1) := by decide +kernel
theorem dX7_holdFor_72 : decode cX7_holdFor 72 = .ok (.aload_n 1, 1) := by decide +kernel
theorem dX7_holdFor_73 : decode cX7_holdFor 73 = .ok (.invokevirtual 34, 3) := by decide +kernel
theorem dX7_holdFor_76 : decode cX7_holdFor 76 = .ok (.if_icmp .eq 5, 3) := by decide +kernel
theorem dX7_holdFor_79 : decode cX7_holdFor 79 = .ok (.iconst 0, 1) := by decide +kernel
theorem dX7_holdFor_80 : decode cX7_holdFor 80 = .ok (.ireturn, 1) := by decide +kernel
theorem dX7_holdFor_81 : decode cX7_holdFor 81 = .ok (.iinc 4 1, 3) := by decide +kernel
theorem dX7_holdFor_84 : decode cX7_holdFor 84 = .ok (.goto (-39), 3) := by decide +kernel
theorem dX7_holdFor_87 : decode cX7_holdFor 87 = .ok (.iinc 3 1, 3) := by decide +kernel
theorem dX7_holdFor_90 : decode cX7_holdFor 90 = .ok (.goto (-59), 3) := by decide +kernel
theorem dX7_holdFor_93 : decode cX7_holdFor 93 = .ok (.iconst 1, 1) := by decide +kernel
theorem dX7_holdFor_94 : decode cX7_holdFor 94 = .ok (.ireturn, 1) := by decide +kernel
theorem dX8_init_0 : decode cX8_init 0 = .ok (.aload_n 0, 1) := by decide +kernel
theorem dX8_init_1 : decode cX8_init 1 = .ok (.invokespecial 3, 3) := by decide +kernel
theorem dX8_init_4 : decode cX8_init 4 = .ok (.aload_n 0, 1) := by decide +kernel
theorem dX8_init_5 : decode cX8_init 5 = .ok (.bipush 9, 2) := by decide +kernel
theorem dX8_init_7 : decode cX8_init 7 = .ok (.newarray .int, 2) := by decide +kernel
theorem dX8_init_9 : decode cX8_init 9 = .ok (.putfield 9, 3) := by decide +kernel
theorem dX8_init_12 : decode cX8_init 12 = .ok (.aload_n 0, 1) := by decide +kernel
theorem dX8_init_13 : decode cX8_init 13 = .ok (.bipush 9, 2) := by decide +kernel
theorem dX8_init_15 : decode cX8_init 15 = .ok (.newarray .int, 2) := by decide +kernel
theorem dX8_init_17 : decode cX8_init 17 = .ok (.putfield 15, 3) := by decide +kernel
theorem dX8_init_20 : decode cX8_init 20 = .ok (.aload_n 0, 1) := by decide +kernel
theorem dX8_init_21 : decode cX8_init 21 = .ok (.bipush 9, 2) := by decide +kernel
theorem dX8_init_23 : decode cX8_init 23 = .ok (.newarray .int, 2) := by decide +kernel
theorem dX8_init_25 : decode cX8_init 25 = .ok (.putfield 18, 3) := by decide +kernel
theorem dX8_init_28 : decode cX8_init 28 = .ok (.aload_n 0, 1) := by decide +kernel
theorem dX8_init_29 : decode cX8_init 29 = .ok (.iconst 3, 1) := by decide +kernel
theorem dX8_init_30 : decode cX8_init 30 = .ok (.newarray .int, 2) := by decide +kernel
theorem dX8_init_32 : decode cX8_init 32 = .ok (.putfield 21, 3) := by decide +kernel
theorem dX8_init_35 : decode cX8_init 35 = .ok (.aload_n 0, 1) := by decide +kernel
theorem dX8_init_36 : decode cX8_init 36 = .ok (.iconst 0, 1) := by decide +kernel
theorem dX8_init_37 : decode cX8_init 37 = .ok (.putfield 24, 3) := by decide +kernel
theorem dX8_init_40 : decode cX8_init 40 = .ok (.aload_n 0, 1) := by decide +kernel
theorem dX8_init_41 : decode cX8_init 41 = .ok (.iconst (-1), 1) := by decide +kernel
theorem dX8_init_42 : decode cX8_init 42 = .ok (.putfield 28, 3) := by decide +kernel
theorem dX8_init_45 : decode cX8_init 45 = .ok (.return_, 1) := by decide +kernel
theorem dX8_take_0 : decode cX8_take 0 = .ok (.aload_n 1, 1) := by decide +kernel
theorem dX8_take_1 : decode cX8_take 1 = .ok (.getfield 31, 3) := by decide +kernel
theorem dX8_take_4 : decode cX8_take 4 = .ok (.iconst 0, 1) := by decide +kernel
theorem dX8_take_5 : decode cX8_take 5 = .ok (.aload_n 0, 1) := by decide +kernel
theorem dX8_take_6 : decode cX8_take 6 = .ok (.getfield 9, 3) := by decide +kernel
theorem dX8_take_9 : decode cX8_take 9 = .ok (.iconst 0, 1) := by decide +kernel
theorem dX8_take_10 : decode cX8_take 10 = .ok (.bipush 9, 2) := by decide +kernel
theorem dX8_take_12 : decode cX8_take 12 = .ok (.invokestatic 34, 3) := by decide +kernel
theorem dX8_take_15 : decode cX8_take 15 = .ok (.aload_n 1, 1) := by decide +kernel
theorem dX8_take_16 : decode cX8_take 16 = .ok (.getfield 40, 3) := by decide +kernel
theorem dX8_take_19 : decode cX8_take 19 = .ok (.iconst 0, 1) := by decide +kernel
theorem dX8_take_20 : decode cX8_take 20 = .ok (.aload_n 0, 1) := by decide +kernel
theorem dX8_take_21 : decode cX8_take 21 = .ok (.getfield 15, 3) := by decide +kernel
theorem dX8_take_24 : decode cX8_take 24 = .ok (.iconst 0, 1) := by decide +kernel
theorem dX8_take_25 : decode cX8_take 25 = .ok (.bipush 9, 2) := by decide +kernel
theorem dX8_take_27 : decode cX8_take 27 = .ok (.invokestatic 34, 3) := by decide +kernel
theorem dX8_take_30 : decode cX8_take 30 = .ok (.aload_n 1, 1) := by decide +kernel
theorem dX8_take_31 : decode cX8_take 31 = .ok (.getfield 41, 3) := by decide +kernel
theorem dX8_take_34 : decode cX8_take 34 = .ok (.iconst 0, 1) := by decide +kernel
theorem dX8_take_35 : decode cX8_take 35 = .ok (.aload_n 0, 1) := by decide +kernel
theorem dX8_take_36 : decode cX8_take 36 = .ok (.getfield 18, 3) := by decide +kernel
theorem dX8_take_39 : decode cX8_take 39 = .ok (.iconst 0, 1) := by decide +kernel
theorem dX8_take_40 : decode cX8_take 40 = .ok (.bipush 9, 2) := by decide +kernel
theorem dX8_take_42 : decode cX8_take 42 = .ok (.invokestatic 34, 3) := by decide +kernel
theorem dX8_take_45 : decode cX8_take 45 = .ok (.aload_n 1, 1) := by decide +kernel
theorem dX8_take_46 : decode cX8_take 46 = .ok (.getfield 42, 3) := by decide +kernel
theorem dX8_take_49 : decode cX8_take 49 = .ok (.iconst 0, 1) := by decide +kernel
theorem dX8_take_50 : decode cX8_take 50 = .ok (.aload_n 0, 1) := by decide +kernel
theorem dX8_take_51 : decode cX8_take 51 = .ok (.getfield 21, 3) := by decide +kernel
theorem dX8_take_54 : decode cX8_take 54 = .ok (.iconst 0, 1) := by decide +kernel
theorem dX8_take_55 : decode cX8_take 55 = .ok (.iconst 3, 1) := by decide +kernel
theorem dX8_take_56 : decode cX8_take 56 = .ok (.invokestatic 34, 3) := by decide +kernel
theorem dX8_take_59 : decode cX8_take 59 = .ok (.aload_n 0, 1) := by decide +kernel
theorem dX8_take_60 : decode cX8_take 60 = .ok (.aload_n 1, 1) := by decide +kernel
theorem dX8_take_61 : decode cX8_take 61 = .ok (.getfield 43, 3) := by decide +kernel
theorem dX8_take_64 : decode cX8_take 64 = .ok (.putfield 24, 3) := by decide +kernel
theorem dX8_take_67 : decode cX8_take 67 = .ok (.aload_n 0, 1) := by decide +kernel
theorem dX8_take_68 : decode cX8_take 68 = .ok (.aload_n 1, 1) := by decide +kernel
theorem dX8_take_69 : decode cX8_take 69 = .ok (.getfield 44, 3) := by decide +kernel
theorem dX8_take_72 : decode cX8_take 72 = .ok (.putfield 28, 3) := by decide +kernel
theorem dX8_take_75 : decode cX8_take 75 = .ok (.return_, 1) := by decide +kernel
theorem dX8_giveWeeks_0 : decode cX8_giveWeeks 0 = .ok (.aload_n 0, 1) := by decide +kernel
theorem dX8_giveWeeks_1 : decode cX8_giveWeeks 1 = .ok (.getfield 9, 3) := by decide +kernel
theorem dX8_giveWeeks_4 : decode cX8_giveWeeks 4 = .ok (.iconst 0, 1) := by decide +kernel
theorem dX8_giveWeeks_5 : decode cX8_giveWeeks 5 = .ok (.aload_n 1, 1) := by decide +kernel
theorem dX8_giveWeeks_6 : decode cX8_giveWeeks 6 = .ok (.getfield 31, 3) := by decide +kernel
theorem dX8_giveWeeks_9 : decode cX8_giveWeeks 9 = .ok (.iconst 0, 1) := by decide +kernel
theorem dX8_giveWeeks_10 : decode cX8_giveWeeks 10 = .ok (.bipush 9, 2) := by decide +kernel
theorem dX8_giveWeeks_12 : decode cX8_giveWeeks 12 = .ok (.invokestatic 34, 3) := by decide +kernel
theorem dX8_giveWeeks_15 : decode cX8_giveWeeks 15 = .ok (.aload_n 0, 1) := by decide +kernel
theorem dX8_giveWeeks_16 : decode cX8_giveWeeks 16 = .ok (.getfield 18, 3) := by decide +kernel
theorem dX8_giveWeeks_19 : decode cX8_giveWeeks 19 = .ok (.iconst 0, 1) := by decide +kernel
theorem dX8_giveWeeks_20 : decode cX8_giveWeeks 20 = .ok (.aload_n 1, 1) := by decide +kernel
theorem dX8_giveWeeks_21 : decode cX8_giveWeeks 21 = .ok (.getfield 41, 3) := by decide +kernel
theorem dX8_giveWeeks_24 : decode cX8_giveWeeks 24 = .ok (.iconst 0, 1) := by decide +kernel
theorem dX8_giveWeeks_25 : decode cX8_giveWeeks 25 = .ok (.bipush 9, 2) := by decide +kernel
theorem dX8_giveWeeks_27 : decode cX8_giveWeeks 27 = .ok (.invokestatic 34, 3) := by decide +kernel
theorem dX8_giveWeeks_30 : decode cX8_giveWeeks 30 = .ok (.aload_n 1, 1) := by decide +kernel
theorem dX8_giveWeeks_31 : decode cX8_giveWeeks 31 = .ok (.aload_n 0, 1) := by decide +kernel
theorem dX8_giveWeeks_32 : decode cX8_giveWeeks 32 = .ok (.getfield 24, 3) := by decide +kernel
theorem dX8_giveWeeks_35 : decode cX8_giveWeeks 35 = .ok (.putfield 43, 3) := by decide +kernel
theorem dX8_giveWeeks_38 : decode cX8_giveWeeks 38 = .ok (.return_, 1) := by decide +kernel
theorem dX8_giveSpringsAndLaw_0 : decode cX8_giveSpringsAndLaw 0 = .ok (.aload_n 0, 1) := by decide +kernel
theorem dX8_giveSpringsAndLaw_1 : decode cX8_giveSpringsAndLaw 1 = .ok (.getfield 15, 3) := by decide +kernel
theorem dX8_giveSpringsAndLaw_4 : decode cX8_giveSpringsAndLaw 4 = .ok (.iconst 0, 1) := by decide +kernel
theorem dX8_giveSpringsAndLaw_5 : decode cX8_giveSpringsAndLaw 5 = .ok (.aload_n 1, 1) := by decide +kernel
theorem dX8_giveSpringsAndLaw_6 : decode cX8_giveSpringsAndLaw 6 = .ok (.getfield 40, 3) := by decide +kernel
theorem dX8_giveSpringsAndLaw_9 : decode cX8_giveSpringsAndLaw 9 = .ok (.iconst 0, 1) := by decide +kernel
theorem dX8_giveSpringsAndLaw_10 : decode cX8_giveSpringsAndLaw 10 = .ok (.bipush 9, 2) := by decide +kernel
theorem dX8_giveSpringsAndLaw_12 : decode cX8_giveSpringsAndLaw 12 = .ok (.invokestatic 34, 3) := by decide +kernel
theorem dX8_giveSpringsAndLaw_15 : decode cX8_giveSpringsAndLaw 15 = .ok (.aload_n 0, 1) := by decide +kernel
theorem dX8_giveSpringsAndLaw_16 : decode cX8_giveSpringsAndLaw 16 = .ok (.getfield 21, 3) := by decide +kernel
theorem dX8_giveSpringsAndLaw_19 : decode cX8_giveSpringsAndLaw 19 = .ok (.iconst 0, 1) := by decide +kernel
theorem dX8_giveSpringsAndLaw_20 : decode cX8_giveSpringsAndLaw 20 = .ok (.aload_n 1, 1) := by decide +kernel
theorem dX8_giveSpringsAndLaw_21 : decode cX8_giveSpringsAndLaw 21 = .ok (.getfield 42, 3) := by decide +kernel
theorem dX8_giveSpringsAndLaw_24 : decode cX8_giveSpringsAndLaw 24 = .ok (.iconst 0, 1) := by decide +kernel
theorem dX8_giveSpringsAndLaw_25 : decode cX8_giveSpringsAndLaw 25 = .ok (.iconst 3, 1) := by decide +kernel
theorem dX8_giveSpringsAndLaw_26 : decode cX8_giveSpringsAndLaw 26 = .ok (.invokestatic 34, 3) := by decide +kernel
theorem dX8_giveSpringsAndLaw_29 : decode cX8_giveSpringsAndLaw 29 = .ok (.return_, 1) := by decide +kernel
theorem dX9_init_0 : decode cX9_init 0 = .ok (.aload_n 0, 1) := by decide +kernel
theorem dX9_init_1 : decode cX9_init 1 = .ok (.invokespecial 3, 3) := by decide +kernel
theorem dX9_init_4 : decode cX9_init 4 = .ok (.aload_n 0, 1) := by decide +kernel
theorem dX9_init_5 : decode cX9_init 5 = .ok (.bipush 80, 2) := by decide +kernel
theorem dX9_init_7 : decode cX9_init 7 = .ok (.newarray .char, 2) := by decide +kernel
theorem dX9_init_9 : decode cX9_init 9 = .ok (.putfield 9, 3) := by decide +kernel
theorem dX9_init_12 : decode cX9_init 12 = .ok (.aload_n 0, 1) := by decide +kernel
theorem dX9_init_13 : decode cX9_init 13 = .ok (.iconst 0, 1) := by decide +kernel
theorem dX9_init_14 : decode cX9_init 14 = .ok (.putfield 15, 3) := by decide +kernel
theorem dX9_init_17 : decode cX9_init 17 = .ok (.return_, 1) := by decide +kernel
theorem dX9_append_0 : decode cX9_append 0 = .ok (.aload_n 0, 1) := by decide +kernel
theorem dX9_append_1 : decode cX9_append 1 = .ok (.getfield 15, 3) := by decide +kernel
theorem dX9_append_4 : decode cX9_append 4 = .ok (.iconst 4, 1) := by decide +kernel
theorem dX9_append_5 : decode cX9_append 5 = .ok (.iadd, 1) := by decide +kernel
theorem dX9_append_6 : decode cX9_append 6 = .ok (.bipush 80, 2) := by decide +kernel
theorem dX9_append_8 : decode cX9_append 8 = .ok (.if_icmp .le 5, 3) := by decide +kernel
theorem dX9_append_11 : decode cX9_append 11 = .ok (.iconst 0, 1) := by decide +kernel
theorem dX9_append_12 : decode cX9_append 12 = .ok (.ireturn, 1) := by decide +kernel
theorem dX9_append_13 : decode cX9_append 13 = .ok (.bipush 24, 2) := by decide +kernel
theorem dX9_append_15 : decode cX9_append 15 = .ok (.istore_n 2, 1) := by decide +kernel
theorem dX9_append_16 : decode cX9_append 16 = .ok (.iload_n 2, 1) := by decide +kernel
theorem dX9_append_17 : decode cX9_append 17 = .ok (.ifCond .lt 36, 3) := by decide +kernel
theorem dX9_append_20 : decode cX9_append 20 = .ok (.aload_n 0, 1) := by decide +kernel
theorem dX9_append_21 : decode cX9_append 21 = .ok (.getfield 9, 3) := by decide +kernel
theorem dX9_append_24 : decode cX9_append 24 = .ok (.aload_n 0, 1) := by decide +kernel
theorem dX9_append_25 : decode cX9_append 25 = .ok (.getfield 15, 3) := by decide +kernel
theorem dX9_append_28 : decode cX9_append 28 = .ok (.iload_n 1, 1) := by decide +kernel
theorem dX9_append_29 : decode cX9_append 29 = .ok (.iload_n 2, 1) := by decide +kernel
theorem dX9_append_30 : decode cX9_append 30 = .ok (.iushr, 1) := by decide +kernel
theorem dX9_append_31 : decode cX9_append 31 = .ok (.sipush 255, 3) := by decide +kernel
theorem dX9_append_34 : decode cX9_append 34 = .ok (.iand, 1) := by decide +kernel
theorem dX9_append_35 : decode cX9_append 35 = .ok (.i2c, 1) := by decide +kernel
theorem dX9_append_36 : decode cX9_append 36 = .ok (.castore, 1) := by decide +kernel
theorem dX9_append_37 : decode cX9_append 37 = .ok (.aload_n 0, 1) := by decide +kernel
theorem dX9_append_38 : decode cX9_append 38 = .ok (.dup, 1) := by decide +kernel
theorem dX9_append_39 : decode cX9_append 39 = .ok (.getfield 15, 3) := by decide +kernel
theorem dX9_append_42 : decode cX9_append 42 = .ok (.iconst 1, 1) := by decide +kernel
theorem dX9_append_43 : decode cX9_append 43 = .ok (.iadd, 1) := by decide +kernel
theorem dX9_append_44 : decode cX9_append 44 = .ok (.putfield 15, 3) := by decide +kernel
theorem dX9_append_47 : decode cX9_append 47 = .ok (.iinc 2 (-8), 3) := by decide +kernel
theorem dX9_append_50 : decode cX9_append 50 = .ok (.goto (-34), 3) := by decide +kernel
theorem dX9_append_53 : decode cX9_append 53 = .ok (.iconst 1, 1) := by decide +kernel
theorem dX9_append_54 : decode cX9_append 54 = .ok (.ireturn, 1) := by decide +kernel
theorem dX9_cut_0 : decode cX9_cut 0 = .ok (.iload_n 1, 1) := by decide +kernel
theorem dX9_cut_1 : decode cX9_cut 1 = .ok (.ifCond .lt 11, 3) := by decide +kernel
theorem dX9_cut_4 : decode cX9_cut 4 = .ok (.iload_n 1, 1) := by decide +kernel
theorem dX9_cut_5 : decode cX9_cut 5 = .ok (.aload_n 0, 1) := by decide +kernel
theorem dX9_cut_6 : decode cX9_cut 6 = .ok (.getfield 15, 3) := by decide +kernel
theorem dX9_cut_9 : decode cX9_cut 9 = .ok (.if_icmp .le 5, 3) := by decide +kernel
theorem dX9_cut_12 : decode cX9_cut 12 = .ok (.iconst 0, 1) := by decide +kernel
theorem dX9_cut_13 : decode cX9_cut 13 = .ok (.ireturn, 1) := by decide +kernel
theorem dX9_cut_14 : decode cX9_cut 14 = .ok (.aload_n 0, 1) := by decide +kernel
theorem dX9_cut_15 : decode cX9_cut 15 = .ok (.iload_n 1, 1) := by decide +kernel
theorem dX9_cut_16 : decode cX9_cut 16 = .ok (.putfield 15, 3) := by decide +kernel
theorem dX9_cut_19 : decode cX9_cut 19 = .ok (.iconst 1, 1) := by decide +kernel
theorem dX9_cut_20 : decode cX9_cut 20 = .ok (.ireturn, 1) := by decide +kernel
theorem dX10_init_0 : decode cX10_init 0 = .ok (.aload_n 0, 1) := by decide +kernel
theorem dX10_init_1 : decode cX10_init 1 = .ok (.invokespecial 3, 3) := by decide +kernel
theorem dX10_init_4 : decode cX10_init 4 = .ok (.aload_n 0, 1) := by decide +kernel
theorem dX10_init_5 : decode cX10_init 5 = .ok (.new 9, 3) := by decide +kernel
theorem dX10_init_8 : decode cX10_init 8 = .ok (.dup, 1) := by decide +kernel
theorem dX10_init_9 : decode cX10_init 9 = .ok (.invokespecial 11, 3) := by decide +kernel
theorem dX10_init_12 : decode cX10_init 12 = .ok (.putfield 12, 3) := by decide +kernel
theorem dX10_init_15 : decode cX10_init 15 = .ok (.aload_n 0, 1) := by decide +kernel
theorem dX10_init_16 : decode cX10_init 16 = .ok (.new 16, 3) := by decide +kernel
theorem dX10_init_19 : decode cX10_init 19 = .ok (.dup, 1) := by decide +kernel
theorem dX10_init_20 : decode cX10_init 20 = .ok (.invokespecial 18, 3) := by decide +kernel
theorem dX10_init_23 : decode cX10_init 23 = .ok (.putfield 19, 3) := by decide +kernel
theorem dX10_init_26 : decode cX10_init 26 = .ok (.aload_n 0, 1) := by decide +kernel
theorem dX10_init_27 : decode cX10_init 27 = .ok (.new 23, 3) := by decide +kernel
theorem dX10_init_30 : decode cX10_init 30 = .ok (.dup, 1) := by decide +kernel
theorem dX10_init_31 : decode cX10_init 31 = .ok (.invokespecial 25, 3) := by decide +kernel
theorem dX10_init_34 : decode cX10_init 34 = .ok (.putfield 26, 3) := by decide +kernel
theorem dX10_init_37 : decode cX10_init 37 = .ok (.aload_n 0, 1) := by decide +kernel
theorem dX10_init_38 : decode cX10_init 38 = .ok (.new 30, 3) := by decide +kernel
theorem dX10_init_41 : decode cX10_init 41 = .ok (.dup, 1) := by decide +kernel
theorem dX10_init_42 : decode cX10_init 42 = .ok (.invokespecial 32, 3) := by decide +kernel
theorem dX10_init_45 : decode cX10_init 45 = .ok (.putfield 33, 3) := by decide +kernel
theorem dX10_init_48 : decode cX10_init 48 = .ok (.aload_n 0, 1) := by decide +kernel
theorem dX10_init_49 : decode cX10_init 49 = .ok (.new 37, 3) := by decide +kernel
theorem dX10_init_52 : decode cX10_init 52 = .ok (.dup, 1) := by decide +kernel
theorem dX10_init_53 : decode cX10_init 53 = .ok (.invokespecial 39, 3) := by decide +kernel
theorem dX10_init_56 : decode cX10_init 56 = .ok (.putfield 40, 3) := by decide +kernel
theorem dX10_init_59 : decode cX10_init 59 = .ok (.aload_n 0, 1) := by decide +kernel
theorem dX10_init_60 : decode cX10_init 60 = .ok (.new 44, 3) := by decide +kernel
theorem dX10_init_63 : decode cX10_init 63 = .ok (.dup, 1) := by decide +kernel
theorem dX10_init_64 : decode cX10_init 64 = .ok (.invokespecial 46, 3) := by decide +kernel
theorem dX10_init_67 : decode cX10_init 67 = .ok (.putfield 47, 3) := by decide +kernel
theorem dX10_init_70 : decode cX10_init 70 = .ok (.aload_n 0, 1) := by decide +kernel
theorem dX10_init_71 : decode cX10_init 71 = .ok (.new 51, 3) := by decide +kernel
theorem dX10_init_74 : decode cX10_init 74 = .ok (.dup, 1) := by decide +kernel
theorem dX10_init_75 : decode cX10_init 75 = .ok (.invokespecial 53, 3) := by decide +kernel
theorem dX10_init_78 : decode cX10_init 78 = .ok (.putfield 54, 3) := by decide +kernel
theorem dX10_init_81 : decode cX10_init 81 = .ok (.aload_n 0, 1) := by decide +kernel
theorem dX10_init_82 : decode cX10_init 82 = .ok (.new 58, 3) := by decide +kernel
theorem dX10_init_85 : decode cX10_init 85 = .ok (.dup, 1) := by decide +kernel
theorem dX10_init_86 : decode cX10_init 86 = .ok (.invokespecial 60, 3) := by decide +kernel
theorem dX10_init_89 : decode cX10_init 89 = .ok (.putfield 61, 3) := by decide +kernel
theorem dX10_init_92 : decode cX10_init 92 = .ok (.aload_n 0, 1) := by decide +kernel
theorem dX10_init_93 : decode cX10_init 93 = .ok (.iconst 3, 1) := by decide +kernel
theorem dX10_init_94 : decode cX10_init 94 = .ok (.anewarray 65, 3) := by decide +kernel
theorem dX10_init_97 : decode cX10_init 97 = .ok (.putfield 67, 3) := by decide +kernel
theorem dX10_init_100 : decode cX10_init 100 = .ok (.aload_n 0, 1) := by decide +kernel
theorem dX10_init_101 : decode cX10_init 101 = .ok (.new 71, 3) := by decide +kernel
theorem dX10_init_104 : decode cX10_init 104 = .ok (.dup, 1) := by decide +kernel
theorem dX10_init_105 : decode cX10_init 105 = .ok (.invokespecial 73, 3) := by decide +kernel
theorem dX10_init_108 : decode cX10_init 108 = .ok (.putfield 74, 3) := by decide +kernel
theorem dX10_init_111 : decode cX10_init 111 = .ok (.aload_n 0, 1) := by decide +kernel
theorem dX10_init_112 : decode cX10_init 112 = .ok (.sipush 200, 3) := by decide +kernel
theorem dX10_init_115 : decode cX10_init 115 = .ok (.newarray .int, 2) := by decide +kernel
theorem dX10_init_117 : decode cX10_init 117 = .ok (.putfield 78, 3) := by decide +kernel
theorem dX10_init_120 : decode cX10_init 120 = .ok (.iconst 0, 1) := by decide +kernel
theorem dX10_init_121 : decode cX10_init 121 = .ok (.istore_n 1, 1) := by decide +kernel
theorem dX10_init_122 : decode cX10_init 122 = .ok (.iload_n 1, 1) := by decide +kernel
theorem dX10_init_123 : decode cX10_init 123 = .ok (.iconst 3, 1) := by decide +kernel
theorem dX10_init_124 : decode cX10_init 124 = .ok (.if_icmp .ge 22, 3) := by decide +kernel
theorem dX10_init_127 : decode cX10_init 127 = .ok (.aload_n 0, 1) := by decide +kernel
theorem dX10_init_128 : decode cX10_init 128 = .ok (.getfield 67, 3) := by decide +kernel
theorem dX10_init_131 : decode cX10_init 131 = .ok (.iload_n 1, 1) := by decide +kernel
theorem dX10_init_132 : decode cX10_init 132 = .ok (.new 65, 3) := by decide +kernel
theorem dX10_init_135 : decode cX10_init 135 = .ok (.dup, 1) := by decide +kernel
theorem dX10_init_136 : decode cX10_init 136 = .ok (.invokespecial 82, 3) := by decide +kernel
theorem dX10_init_139 : decode cX10_init 139 = .ok (.aastore, 1) := by decide +kernel
theorem dX10_init_140 : decode cX10_init 140 = .ok (.iinc 1 1, 3) := by decide +kernel
theorem dX10_init_143 : decode cX10_init 143 = .ok (.goto (-21), 3) := by decide +kernel
theorem dX10_init_146 : decode cX10_init 146 = .ok (.return_, 1) := by decide +kernel
theorem dX10_sign_0 : decode cX10_sign 0 = .ok (.aload_n 0, 1) := by decide +kernel
theorem dX10_sign_1 : decode cX10_sign 1 = .ok (.getfield 12, 3) := by decide +kernel
theorem dX10_sign_4 : decode cX10_sign 4 = .ok (.iload_n 1, 1) := by decide +kernel
theorem dX10_sign_5 : decode cX10_sign 5 = .ok (.invokevirtual 83, 3) := by decide +kernel
theorem dX10_sign_8 : decode cX10_sign 8 = .ok (.ifCond .eq 13, 3) := by decide +kernel
theorem dX10_sign_11 : decode cX10_sign 11 = .ok (.aload_n 0, 1) := by decide +kernel
theorem dX10_sign_12 : decode cX10_sign 12 = .ok (.getfield 12, 3) := by decide +kernel
theorem dX10_sign_15 : decode cX10_sign 15 = .ok (.getfield 87, 3) := by decide +kernel
theorem dX10_sign_18 : decode cX10_sign 18 = .ok (.goto 4, 3) := by decide +kernel
theorem dX10_sign_21 : decode cX10_sign 21 = .ok (.iconst (-1), 1) := by decide +kernel
theorem dX10_sign_22 : decode cX10_sign 22 = .ok (.ireturn, 1) := by decide +kernel
theorem dX10_end_0 : decode cX10_end 0 = .ok (.aload_n 0, 1) := by decide +kernel
theorem dX10_end_1 : decode cX10_end 1 = .ok (.getfield 12, 3) := by decide +kernel
theorem dX10_end_4 : decode cX10_end 4 = .ok (.iload_n 1, 1) := by decide +kernel
theorem dX10_end_5 : decode cX10_end 5 = .ok (.invokevirtual 91, 3) := by decide +kernel
theorem dX10_end_8 : decode cX10_end 8 = .ok (.ireturn, 1) := by decide +kernel
theorem dX10_county_0 : decode cX10_county 0 = .ok (.aload_n 0, 1) := by decide +kernel
theorem dX10_county_1 : decode cX10_county 1 = .ok (.getfield 19, 3) := by decide +kernel
theorem dX10_county_4 : decode cX10_county 4 = .ok (.aload_n 0, 1) := by decide +kernel
theorem dX10_county_5 : decode cX10_county 5 = .ok (.getfield 12, 3) := by decide +kernel
theorem dX10_county_8 : decode cX10_county 8 = .ok (.aload_n 0, 1) := by decide +kernel
theorem dX10_county_9 : decode cX10_county 9 = .ok (.getfield 26, 3) := by decide +kernel
theorem dX10_county_12 : decode cX10_county 12 = .ok (.getfield 94, 3) := by decide +kernel
theorem dX10_county_15 : decode cX10_county 15 = .ok (.invokevirtual 97, 3) := by decide +kernel
theorem dX10_county_18 : decode cX10_county 18 = .ok (.istore_n 1, 1) := by decide +kernel
theorem dX10_county_19 : decode cX10_county 19 = .ok (.aload_n 0, 1) := by decide +kernel
theorem dX10_county_20 : decode cX10_county 20 = .ok (.getfield 12, 3) := by decide +kernel
theorem dX10_county_23 : decode cX10_county 23 = .ok (.iconst 0, 1) := by decide +kernel
theorem dX10_county_24 : decode cX10_county 24 = .ok (.invokevirtual 91, 3) := by decide +kernel
theorem dX10_county_27 : decode cX10_county 27 = .ok (.pop, 1) := by decide +kernel
theorem dX10_county_28 : decode cX10_county 28 = .ok (.iload_n 1, 1) := by decide +kernel
theorem dX10_county_29 : decode cX10_county 29 = .ok (.iconst (-1), 1) := by decide +kernel
theorem dX10_county_30 : decode cX10_county 30 = .ok (.if_icmp .eq 7, 3) := by decide +kernel
theorem dX10_county_33 : decode cX10_county 33 = .ok (.iconst (-1), 1) := by decide +kernel
theorem dX10_county_34 : decode cX10_county 34 = .ok (.iload_n 1, 1) := by decide +kernel
theorem dX10_county_35 : decode cX10_county 35 = .ok (.isub, 1) := by decide +kernel
theorem dX10_county_36 : decode cX10_county 36 = .ok (.ireturn, 1) := by decide +kernel
theorem dX10_county_37 : decode cX10_county 37 = .ok (.aload_n 0, 1) := by decide +kernel
theorem dX10_county_38 : decode cX10_county 38 = .ok (.getfield 19, 3) := by decide +kernel
theorem dX10_county_41 : decode cX10_county 41 = .ok (.getfield 101, 3) := by decide +kernel
theorem dX10_county_44 : decode cX10_county 44 = .ok (.ifCond .le 10, 3) := by decide +kernel
theorem dX10_county_47 : decode cX10_county 47 = .ok (.aload_n 0, 1) := by decide +kernel
theorem dX10_county_48 : decode cX10_county 48 = .ok (.getfield 61, 3) := by decide +kernel
theorem dX10_county_51 : decode cX10_county 51 = .ok (.invokevirtual 104, 3) := by decide +kernel
theorem dX10_county_54 : decode cX10_county 54 = .ok (.iconst 0, 1) := by decide +kernel
theorem dX10_county_55 : decode cX10_county 55 = .ok (.istore_n 2, 1) := by decide +kernel
theorem dX10_county_56 : decode cX10_county 56 = .ok (.iload_n 2, 1) := by decide +kernel
theorem dX10_county_57 : decode cX10_county 57 = .ok (.aload_n 0, 1) := by decide +kernel
theorem dX10_county_58 : decode cX10_county 58 = .ok (.getfield 19, 3) := by decide +kernel
theorem dX10_county_61 : decode cX10_county 61 = .ok (.getfield 101, 3) := by decide +kernel
theorem dX10_county_64 : decode cX10_county 64 = .ok (.if_icmp .ge 85, 3) := by decide +kernel
theorem dX10_county_67 : decode cX10_county 67 = .ok (.aload_n 0, 1) := by decide +kernel
theorem dX10_county_68 : decode cX10_county 68 = .ok (.getfield 19, 3) := by decide +kernel
theorem dX10_county_71 : decode cX10_county 71 = .ok (.getfield 107, 3) := by decide +kernel
theorem dX10_county_74 : decode cX10_county 74 = .ok (.iload_n 2, 1) := by decide +kernel
theorem dX10_county_75 : decode cX10_county 75 = .ok (.iaload, 1) := by decide +kernel
theorem dX10_county_76 : decode cX10_county 76 = .ok (.iconst (-1), 1) := by decide +kernel
theorem dX10_county_77 : decode cX10_county 77 = .ok (.if_icmp .ne 32, 3) := by decide +kernel
theorem dX10_county_80 : decode cX10_county 80 = .ok (.aload_n 0, 1) := by decide +kernel
theorem dX10_county_81 : decode cX10_county 81 = .ok (.getfield 26, 3) := by decide +kernel
theorem dX10_county_84 : decode cX10_county 84 = .ok (.aload_n 0, 1) := by decide +kernel
theorem dX10_county_85 : decode cX10_county 85 = .ok (.getfield 19, 3) := by decide +kernel
theorem dX10_county_88 : decode cX10_county 88 = .ok (.getfield 110, 3) := by decide +kernel
theorem dX10_county_91 : decode cX10_county 91 = .ok (.iload_n 2, 1) := by decide +kernel
theorem dX10_county_92 : decode cX10_county 92 = .ok (.iaload, 1) := by decide +kernel
theorem dX10_county_93 : decode cX10_county 93 = .ok (.aload_n 0, 1) := by decide +kernel
theorem dX10_county_94 : decode cX10_county 94 = .ok (.getfield 19, 3) := by decide +kernel
theorem dX10_county_97 : decode cX10_county 97 = .ok (.getfield 113, 3) := by decide +kernel
theorem dX10_county_100 : decode cX10_county 100 = .ok (.iload_n 2, 1) := by decide +kernel
theorem dX10_county_101 : decode cX10_county 101 = .ok (.iaload, 1) := by decide +kernel
theorem dX10_county_102 : decode cX10_county 102 = .ok (.invokevirtual 116, 3) := by decide +kernel
theorem dX10_county_105 : decode cX10_county 105 = .ok (.pop, 1) := by decide +kernel
theorem dX10_county_106 : decode cX10_county 106 = .ok (.goto 37, 3) := by decide +kernel
theorem dX10_county_109 : decode cX10_county 109 = .ok (.aload_n 0, 1) := by decide +kernel
theorem dX10_county_110 : decode cX10_county 110 = .ok (.getfield 26, 3) := by decide +kernel
theorem dX10_county_113 : decode cX10_county 113 = .ok (.aload_n 0, 1) := by decide +kernel
theorem dX10_county_114 : decode cX10_county 114 = .ok (.getfield 19, 3) := by decide +kernel
theorem dX10_county_117 : decode cX10_county 117 = .ok (.getfield 107, 3) := by decide +kernel
theorem dX10_county_120 : decode cX10_county 120 = .ok (.iload_n 2, 1) := by decide +kernel
theorem dX10_county_121 : decode cX10_county 121 = .ok (.iaload, 1) := by decide +kernel
theorem dX10_county_122 : decode cX10_county 122 = .ok (.aload_n 0, 1) := by decide +kernel
theorem dX10_county_123 : decode cX10_county 123 = .ok (.getfield 19, 3) := by decide +kernel
theorem dX10_county_126 : decode cX10_county 126 = .ok (.getfield 110, 3) := by decide +kernel
theorem dX10_county_129 : decode cX10_county 129 = .ok (.iload_n 2, 1) := by decide +kernel
theorem dX10_county_130 : decode cX10_county 130 = .ok (.iaload, 1) := by decide +kernel
theorem dX10_county_131 : decode cX10_county 131 = .ok (.aload_n 0, 1) := by decide +kernel
theorem dX10_county_132 : decode cX10_county 132 = .ok (.getfield 19, 3) := by decide +kernel
theorem dX10_county_135 : decode cX10_county 135 = .ok (.getfield 113, 3) := by decide +kernel
theorem dX10_county_138 : decode cX10_county 138 = .ok (.iload_n 2, 1) := by decide +kernel
theorem dX10_county_139 : decode cX10_county 139 = .ok (.iaload, 1) := by decide +kernel
theorem dX10_county_140 : decode cX10_county 140 = .ok (.invokevirtual 120, 3) := by decide +kernel
theorem dX10_county_143 : decode cX10_county 143 = .ok (.iinc 2 1, 3) := by decide +kernel
theorem dX10_county_146 : decode cX10_county 146 = .ok (.goto (-90), 3) := by decide +kernel
theorem dX10_county_149 : decode cX10_county 149 = .ok (.aload_n 0, 1) := by decide +kernel
theorem dX10_county_150 : decode cX10_county 150 = .ok (.getfield 19, 3) := by decide +kernel
theorem dX10_county_153 : decode cX10_county 153 = .ok (.getfield 101, 3) := by decide +kernel
theorem dX10_county_156 : decode cX10_county 156 = .ok (.ireturn, 1) := by decide +kernel
theorem dX10_farm_0 : decode cX10_farm 0 = .ok (.aload_n 0, 1) := by decide +kernel
theorem dX10_farm_1 : decode cX10_farm 1 = .ok (.getfield 26, 3) := by decide +kernel
theorem dX10_farm_4 : decode cX10_farm 4 = .ok (.iload_n 1, 1) := by decide +kernel
theorem dX10_farm_5 : decode cX10_farm 5 = .ok (.invokevirtual 124, 3) := by decide +kernel
theorem dX10_farm_8 : decode cX10_farm 8 = .ok (.ifCond .ne 13, 3) := by decide +kernel
theorem dX10_farm_11 : decode cX10_farm 11 = .ok (.new 127, 3) := by decide +kernel
theorem dX10_farm_14 : decode cX10_farm 14 = .ok (.dup, 1) := by decide +kernel
theorem dX10_farm_15 : decode cX10_farm 15 = .ok (.ldc 129, 2) := by decide +kernel
theorem dX10_farm_17 : decode cX10_farm 17 = .ok (.invokespecial 131, 3) := by decide +kernel
theorem dX10_farm_20 : decode cX10_farm 20 = .ok (.athrow, 1) := by decide +kernel
theorem dX10_farm_21 : decode cX10_farm 21 = .ok (.iload_n 2, 1) := by decide +kernel
theorem dX10_farm_22 : decode cX10_farm 22 = .ok (.tableswitch 82 0 4 #[34, 44, 54, 63, 72], 34) := by decide +kernel
theorem dX10_farm_56 : decode cX10_farm 56 = .ok (.aload_n 0, 1) := by decide +kernel
theorem dX10_farm_57 : decode cX10_farm 57 = .ok (.getfield 26, 3) := by decide +kernel
theorem dX10_farm_60 : decode cX10_farm 60 = .ok (.getfield 134, 3) := by decide +kernel
theorem dX10_farm_63 : decode cX10_farm 63 = .ok (.iload_n 1, 1) := by decide +kernel
theorem dX10_farm_64 : decode cX10_farm 64 = .ok (.iaload, 1) := by decide +kernel
theorem dX10_farm_65 : decode cX10_farm 65 = .ok (.ireturn, 1) := by decide +kernel
theorem dX10_farm_66 : decode cX10_farm 66 = .ok (.aload_n 0, 1) := by decide +kernel
theorem dX10_farm_67 : decode cX10_farm 67 = .ok (.getfield 26, 3) := by decide +kernel
theorem dX10_farm_70 : decode cX10_farm 70 = .ok (.getfield 137, 3) := by decide +kernel
theorem dX10_farm_73 : decode cX10_farm 73 = .ok (.iload_n 1, 1) := by decide +kernel
theorem dX10_farm_74 : decode cX10_farm 74 = .ok (.iaload, 1) := by decide +kernel
theorem dX10_farm_75 : decode cX10_farm 75 = .ok (.ireturn, 1) := by decide +kernel
theorem dX10_farm_76 : decode cX10_farm 76 = .ok (.aload_n 0, 1) := by decide +kernel
theorem dX10_farm_77 : decode cX10_farm 77 = .ok (.getfield 26, 3) := by decide +kernel
theorem dX10_farm_80 : decode cX10_farm 80 = .ok (.iload_n 1, 1) := by decide +kernel
theorem dX10_farm_81 : decode cX10_farm 81 = .ok (.invokevirtual 140, 3) := by decide +kernel
theorem dX10_farm_84 : decode cX10_farm 84 = .ok (.ireturn, 1) := by decide +kernel
theorem dX10_farm_85 : decode cX10_farm 85 = .ok (.aload_n 0, 1) := by decide +kernel
theorem dX10_farm_86 : decode cX10_farm 86 = .ok (.getfield 26, 3) := by decide +kernel
theorem dX10_farm_89 : decode cX10_farm 89 = .ok (.iload_n 1, 1) := by decide +kernel
theorem dX10_farm_90 : decode cX10_farm 90 = .ok (.invokevirtual 144, 3) := by decide +kernel
theorem dX10_farm_93 : decode cX10_farm 93 = .ok (.ireturn, 1) := by decide +kernel
theorem dX10_farm_94 : decode cX10_farm 94 = .ok (.aload_n 0, 1) := by decide +kernel
theorem dX10_farm_95 : decode cX10_farm 95 = .ok (.getfield 26, 3) := by decide +kernel
theorem dX10_farm_98 : decode cX10_farm 98 = .ok (.getfield 147, 3) := by decide +kernel
theorem dX10_farm_101 : decode cX10_farm 101 = .ok (.iload_n 1, 1) := by decide +kernel
theorem dX10_farm_102 : decode cX10_farm 102 = .ok (.iaload, 1) := by decide +kernel
theorem dX10_farm_103 : decode cX10_farm 103 = .ok (.ireturn, 1) := by decide +kernel
theorem dX10_farm_104 : decode cX10_farm 104 = .ok (.new 127, 3) := by decide +kernel
theorem dX10_farm_107 : decode cX10_farm 107 = .ok (.dup, 1) := by decide +kernel
theorem dX10_farm_108 : decode cX10_farm 108 = .ok (.ldc 150, 2) := by decide +kernel
theorem dX10_farm_110 : decode cX10_farm 110 = .ok (.invokespecial 131, 3) := by decide +kernel
theorem dX10_farm_113 : decode cX10_farm 113 = .ok (.athrow, 1) := by decide +kernel
theorem dX10_stone_0 : decode cX10_stone 0 = .ok (.aload_n 0, 1) := by decide +kernel
theorem dX10_stone_1 : decode cX10_stone 1 = .ok (.getfield 26, 3) := by decide +kernel
theorem dX10_stone_4 : decode cX10_stone 4 = .ok (.iload_n 1, 1) := by decide +kernel
theorem dX10_stone_5 : decode cX10_stone 5 = .ok (.iload_n 2, 1) := by decide +kernel
theorem dX10_stone_6 : decode cX10_stone 6 = .ok (.invokevirtual 152, 3) := by decide +kernel
theorem dX10_stone_9 : decode cX10_stone 9 = .ok (.ifCond .ne 5, 3) := by decide +kernel
theorem dX10_stone_12 : decode cX10_stone 12 = .ok (.iconst (-1), 1) := by decide +kernel
theorem dX10_stone_13 : decode cX10_stone 13 = .ok (.ireturn, 1) := by decide +kernel
theorem dX10_stone_14 : decode cX10_stone 14 = .ok (.aload_n 0, 1) := by decide +kernel
theorem dX10_stone_15 : decode cX10_stone 15 = .ok (.getfield 26, 3) := by decide +kernel
theorem dX10_stone_18 : decode cX10_stone 18 = .ok (.iload_n 1, 1) := by decide +kernel
theorem dX10_stone_19 : decode cX10_stone 19 = .ok (.iload_n 2, 1) := by decide +kernel
theorem dX10_stone_20 : decode cX10_stone 20 = .ok (.invokevirtual 156, 3) := by decide +kernel
theorem dX10_stone_23 : decode cX10_stone 23 = .ok (.istore_n 3, 1) := by decide +kernel
theorem dX10_stone_24 : decode cX10_stone 24 = .ok (.iload_n 3, 1) := by decide +kernel
theorem dX10_stone_25 : decode cX10_stone 25 = .ok (.iconst (-1), 1) := by decide +kernel
theorem dX10_stone_26 : decode cX10_stone 26 = .ok (.if_icmp .ne 8, 3) := by decide +kernel
theorem dX10_stone_29 : decode cX10_stone 29 = .ok (.bipush (-2), 2) := by decide +kernel
theorem dX10_stone_31 : decode cX10_stone 31 = .ok (.goto 4, 3) := by decide +kernel
theorem dX10_stone_34 : decode cX10_stone 34 = .ok (.iload_n 3, 1) := by decide +kernel
theorem dX10_stone_35 : decode cX10_stone 35 = .ok (.ireturn, 1) := by decide +kernel
theorem dX10_touch_0 : decode cX10_touch 0 = .ok (.aload_n 0, 1) := by decide +kernel
theorem dX10_touch_1 : decode cX10_touch 1 = .ok (.getfield 26, 3) := by decide +kernel
theorem dX10_touch_4 : decode cX10_touch 4 = .ok (.iload_n 1, 1) := by decide +kernel
theorem dX10_touch_5 : decode cX10_touch 5 = .ok (.iload_n 2, 1) := by decide +kernel
theorem dX10_touch_6 : decode cX10_touch 6 = .ok (.invokevirtual 152, 3) := by decide +kernel
theorem dX10_touch_9 : decode cX10_touch 9 = .ok (.ifCond .eq 13, 3) := by decide +kernel
theorem dX10_touch_12 : decode cX10_touch 12 = .ok (.iload_n 3, 1) := by decide +kernel
theorem dX10_touch_13 : decode cX10_touch 13 = .ok (.iconst (-1), 1) := by decide +kernel
theorem dX10_touch_14 : decode cX10_touch 14 = .ok (.bipush 9, 2) := by decide +kernel
theorem dX10_touch_16 : decode cX10_touch 16 = .ok (.invokestatic 159, 3) := by decide +kernel
theorem dX10_touch_19 : decode cX10_touch 19 = .ok (.ifCond .ne 5, 3) := by decide +kernel
theorem dX10_touch_22 : decode cX10_touch 22 = .ok (.iconst 0, 1) := by decide +kernel
theorem dX10_touch_23 : decode cX10_touch 23 = .ok (.ireturn, 1) := by decide +kernel
theorem dX10_touch_24 : decode cX10_touch 24 = .ok (.aload_n 0, 1) := by decide +kernel
theorem dX10_touch_25 : decode cX10_touch 25 = .ok (.getfield 26, 3) := by decide +kernel
theorem dX10_touch_28 : decode cX10_touch 28 = .ok (.iload_n 1, 1) := by decide +kernel
theorem dX10_touch_29 : decode cX10_touch 29 = .ok (.iload_n 2, 1) := by decide +kernel
theorem dX10_touch_30 : decode cX10_touch 30 = .ok (.iload_n 3, 1) := by decide +kernel
theorem dX10_touch_31 : decode cX10_touch 31 = .ok (.invokevirtual 120, 3) := by decide +kernel
theorem dX10_touch_34 : decode cX10_touch 34 = .ok (.iconst 1, 1) := by decide +kernel
theorem dX10_touch_35 : decode cX10_touch 35 = .ok (.ireturn, 1) := by decide +kernel
theorem dX10_law_0 : decode cX10_law 0 = .ok (.iload_n 1, 1) := by decide +kernel
theorem dX10_law_1 : decode cX10_law 1 = .ok (.iconst 0, 1) := by decide +kernel
theorem dX10_law_2 : decode cX10_law 2 = .ok (.iconst 2, 1) := by decide +kernel
theorem dX10_law_3 : decode cX10_law 3 = .ok (.invokestatic 159, 3) := by decide +kernel
theorem dX10_law_6 : decode cX10_law 6 = .ok (.ifCond .eq 22, 3) := by decide +kernel
theorem dX10_law_9 : decode cX10_law 9 = .ok (.iload_n 2, 1) := by decide +kernel
theorem dX10_law_10 : decode cX10_law 10 = .ok (.iload_n 1, 1) := by decide +kernel
theorem dX10_law_11 : decode cX10_law 11 = .ok (.iconst 1, 1) := by decide +kernel
theorem dX10_law_12 : decode cX10_law 12 = .ok (.if_icmp .ne 7, 3) := by decide +kernel
theorem dX10_law_15 : decode cX10_law 15 = .ok (.iconst 0, 1) := by decide +kernel
theorem dX10_law_16 : decode cX10_law 16 = .ok (.goto 4, 3) := by decide +kernel
theorem dX10_law_19 : decode cX10_law 19 = .ok (.iconst 1, 1) := by decide +kernel
theorem dX10_law_20 : decode cX10_law 20 = .ok (.bipush 9, 2) := by decide +kernel
theorem dX10_law_22 : decode cX10_law 22 = .ok (.invokestatic 159, 3) := by decide +kernel
theorem dX10_law_25 : decode cX10_law 25 = .ok (.ifCond .ne 5, 3) := by decide +kernel
theorem dX10_law_28 : decode cX10_law 28 = .ok (.iconst (-1), 1) := by decide +kernel
theorem dX10_law_29 : decode cX10_law 29 = .ok (.ireturn, 1) := by decide +kernel
theorem dX10_law_30 : decode cX10_law 30 = .ok (.aload_n 0, 1) := by decide +kernel
theorem dX10_law_31 : decode cX10_law 31 = .ok (.getfield 26, 3) := by decide +kernel
theorem dX10_law_34 : decode cX10_law 34 = .ok (.getfield 163, 3) := by decide +kernel
theorem dX10_law_37 : decode cX10_law 37 = .ok (.iload_n 1, 1) := by decide +kernel
theorem dX10_law_38 : decode cX10_law 38 = .ok (.iaload, 1) := by decide +kernel
theorem dX10_law_39 : decode cX10_law 39 = .ok (.istore_n 3, 1) := by decide +kernel
theorem dX10_law_40 : decode cX10_law 40 = .ok (.aload_n 0, 1) := by decide +kernel
theorem dX10_law_41 : decode cX10_law 41 = .ok (.getfield 26, 3) := by decide +kernel
theorem dX10_law_44 : decode cX10_law 44 = .ok (.getfield 163, 3) := by decide +kernel
theorem dX10_law_47 : decode cX10_law 47 = .ok (.iload_n 1, 1) := by decide +kernel
theorem dX10_law_48 : decode cX10_law 48 = .ok (.iload_n 2, 1) := by decide +kernel
theorem dX10_law_49 : decode cX10_law 49 = .ok (.iastore, 1) := by decide +kernel
theorem dX10_law_50 : decode cX10_law 50 = .ok (.iload_n 3, 1) := by decide +kernel
theorem dX10_law_51 : decode cX10_law 51 = .ok (.ireturn, 1) := by decide +kernel
theorem dX10_set_0 : decode cX10_set 0 = .ok (.aload_n 0, 1) := by decide +kernel
theorem dX10_set_1 : decode cX10_set 1 = .ok (.getfield 26, 3) := by decide +kernel
theorem dX10_set_4 : decode cX10_set 4 = .ok (.iload_n 2, 1) := by decide +kernel
theorem dX10_set_5 : decode cX10_set 5 = .ok (.invokevirtual 124, 3) := by decide +kernel
theorem dX10_set_8 : decode cX10_set 8 = .ok (.ifCond .eq 31, 3) := by decide +kernel
theorem dX10_set_11 : decode cX10_set 11 = .ok (.iload_n 1, 1) := by decide +kernel
theorem dX10_set_12 : decode cX10_set 12 = .ok (.iconst 0, 1) := by decide +kernel
theorem dX10_set_13 : decode cX10_set 13 = .ok (.iconst 1, 1) := by decide +kernel
theorem dX10_set_14 : decode cX10_set 14 = .ok (.invokestatic 159, 3) := by decide +kernel
theorem dX10_set_17 : decode cX10_set 17 = .ok (.ifCond .eq 22, 3) := by decide +kernel
theorem dX10_set_20 : decode cX10_set 20 = .ok (.iload_n 3, 1) := by decide +kernel
theorem dX10_set_21 : decode cX10_set 21 = .ok (.iconst 0, 1) := by decide +kernel
theorem dX10_set_22 : decode cX10_set 22 = .ok (.iload_n 1, 1) := by decide +kernel
theorem dX10_set_23 : decode cX10_set 23 = .ok (.ifCond .ne 8, 3) := by decide +kernel
theorem dX10_set_26 : decode cX10_set 26 = .ok (.bipush 99, 2) := by decide +kernel
theorem dX10_set_28 : decode cX10_set 28 = .ok (.goto 5, 3) := by decide +kernel
theorem dX10_set_31 : decode cX10_set 31 = .ok (.bipush 9, 2) := by decide +kernel
theorem dX10_set_33 : decode cX10_set 33 = .ok (.invokestatic 159, 3) := by decide +kernel
theorem dX10_set_36 : decode cX10_set 36 = .ok (.ifCond .ne 5, 3) := by decide +kernel
theorem dX10_set_39 : decode cX10_set 39 = .ok (.iconst (-1), 1) := by decide +kernel
theorem dX10_set_40 : decode cX10_set 40 = .ok (.ireturn, 1) := by decide +kernel
theorem dX10_set_41 : decode cX10_set 41 = .ok (.iload_n 1, 1) := by decide +kernel
theorem dX10_set_42 : decode cX10_set 42 = .ok (.ifCond .ne 13, 3) := by decide +kernel
theorem dX10_set_45 : decode cX10_set 45 = .ok (.aload_n 0, 1) := by decide +kernel
theorem dX10_set_46 : decode cX10_set 46 = .ok (.getfield 26, 3) := by decide +kernel
theorem dX10_set_49 : decode cX10_set 49 = .ok (.getfield 134, 3) := by decide +kernel
theorem dX10_set_52 : decode cX10_set 52 = .ok (.goto 10, 3) := by decide +kernel
theorem dX10_set_55 : decode cX10_set 55 = .ok (.aload_n 0, 1) := by decide +kernel
theorem dX10_set_56 : decode cX10_set 56 = .ok (.getfield 26, 3) := by decide +kernel
theorem dX10_set_59 : decode cX10_set 59 = .ok (.getfield 137, 3) := by decide +kernel
theorem dX10_set_62 : decode cX10_set 62 = .ok (.astore 4, 2) := by decide +kernel
theorem dX10_set_64 : decode cX10_set 64 = .ok (.aload 4, 2) := by decide +kernel
theorem dX10_set_66 : decode cX10_set 66 = .ok (.iload_n 2, 1) := by decide +kernel
theorem dX10_set_67 : decode cX10_set 67 = .ok (.iaload, 1) := by decide +kernel
theorem dX10_set_68 : decode cX10_set 68 = .ok (.istore 5, 2) := by decide +kernel
theorem dX10_set_70 : decode cX10_set 70 = .ok (.aload 4, 2) := by decide +kernel
theorem dX10_set_72 : decode cX10_set 72 = .ok (.iload_n 2, 1) := by decide +kernel
theorem dX10_set_73 : decode cX10_set 73 = .ok (.iload_n 3, 1) := by decide +kernel
theorem dX10_set_74 : decode cX10_set 74 = .ok (.iastore, 1) := by decide +kernel
theorem dX10_set_75 : decode cX10_set 75 = .ok (.iload 5, 2) := by decide +kernel
theorem dX10_set_77 : decode cX10_set 77 = .ok (.ireturn, 1) := by decide +kernel
theorem dX10_sheet_0 : decode cX10_sheet 0 = .ok (.iload_n 1, 1) := by decide +kernel
theorem dX10_sheet_1 : decode cX10_sheet 1 = .ok (.iconst 0, 1) := by decide +kernel
theorem dX10_sheet_2 : decode cX10_sheet 2 = .ok (.iconst 3, 1) := by decide +kernel
theorem dX10_sheet_3 : decode cX10_sheet 3 = .ok (.invokestatic 159, 3) := by decide +kernel
theorem dX10_sheet_6 : decode cX10_sheet 6 = .ok (.ifCond .eq 9, 3) := by decide +kernel
theorem dX10_sheet_9 : decode cX10_sheet 9 = .ok (.iload_n 2, 1) := by decide +kernel
theorem dX10_sheet_10 : decode cX10_sheet 10 = .ok (.bipush 9, 2) := by decide +kernel
theorem dX10_sheet_12 : decode cX10_sheet 12 = .ok (.if_icmp .le 5, 3) := by decide +kernel
theorem dX10_sheet_15 : decode cX10_sheet 15 = .ok (.iconst (-1), 1) := by decide +kernel
theorem dX10_sheet_16 : decode cX10_sheet 16 = .ok (.ireturn, 1) := by decide +kernel
theorem dX10_sheet_17 : decode cX10_sheet 17 = .ok (.iload_n 1, 1) := by decide +kernel
theorem dX10_sheet_18 : decode cX10_sheet 18 = .ok (.iconst 3, 1) := by decide +kernel
theorem dX10_sheet_19 : decode cX10_sheet 19 = .ok (.if_icmp .eq 10, 3) := by decide +kernel
theorem dX10_sheet_22 : decode cX10_sheet 22 = .ok (.iload_n 2, 1) := by decide +kernel
theorem dX10_sheet_23 : decode cX10_sheet 23 = .ok (.ifCond .ge 6, 3) := by decide +kernel
theorem dX10_sheet_26 : decode cX10_sheet 26 = .ok (.bipush (-2), 2) := by decide +kernel
theorem dX10_sheet_28 : decode cX10_sheet 28 = .ok (.ireturn, 1) := by decide +kernel
theorem dX10_sheet_29 : decode cX10_sheet 29 = .ok (.iload_n 1, 1) := by decide +kernel
theorem dX10_sheet_30 : decode cX10_sheet 30 = .ok (.iconst 3, 1) := by decide +kernel
theorem dX10_sheet_31 : decode cX10_sheet 31 = .ok (.if_icmp .ne 7, 3) := by decide +kernel
theorem dX10_sheet_34 : decode cX10_sheet 34 = .ok (.iconst 0, 1) := by decide +kernel
theorem dX10_sheet_35 : decode cX10_sheet 35 = .ok (.goto 4, 3) := by decide +kernel
theorem dX10_sheet_38 : decode cX10_sheet 38 = .ok (.iload_n 2, 1) := by decide +kernel
theorem dX10_sheet_39 : decode cX10_sheet 39 = .ok (.istore 5, 2) := by decide +kernel
theorem dX10_sheet_41 : decode cX10_sheet 41 = .ok (.iconst 0, 1) := by decide +kernel
theorem dX10_sheet_42 : decode cX10_sheet 42 = .ok (.istore 6, 2) := by decide +kernel
theorem dX10_sheet_44 : decode cX10_sheet 44 = .ok (.iload 6, 2) := by decide +kernel
theorem dX10_sheet_46 : decode cX10_sheet 46 = .ok (.aload_n 0, 1) := by decide +kernel
theorem dX10_sheet_47 : decode cX10_sheet 47 = .ok (.getfield 26, 3) := by decide +kernel
theorem dX10_sheet_50 : decode cX10_sheet 50 = .ok (.getfield 94, 3) := by decide +kernel
theorem dX10_sheet_53 : decode cX10_sheet 53 = .ok (.if_icmp .ge 44, 3) := by decide +kernel
theorem dX10_sheet_56 : decode cX10_sheet 56 = .ok (.aload_n 0, 1) := by decide +kernel
theorem dX10_sheet_57 : decode cX10_sheet 57 = .ok (.getfield 26, 3) := by decide +kernel
theorem dX10_sheet_60 : decode cX10_sheet 60 = .ok (.getfield 134, 3) := by decide +kernel
theorem dX10_sheet_63 : decode cX10_sheet 63 = .ok (.iload 6, 2) := by decide +kernel
theorem dX10_sheet_65 : decode cX10_sheet 65 = .ok (.iload 6, 2) := by decide +kernel
theorem dX10_sheet_67 : decode cX10_sheet 67 = .ok (.iload 5, 2) := by decide +kernel
theorem dX10_sheet_69 : decode cX10_sheet 69 = .ok (.if_icmp .ge 20, 3) := by decide +kernel
theorem dX10_sheet_72 : decode cX10_sheet 72 = .ok (.iload_n 1, 1) := by decide +kernel
theorem dX10_sheet_73 : decode cX10_sheet 73 = .ok (.iload_n 3, 1) := by decide +kernel
theorem dX10_sheet_74 : decode cX10_sheet 74 = .ok (.iload 6, 2) := by decide +kernel
theorem dX10_sheet_76 : decode cX10_sheet 76 = .ok (.iload 4, 2) := by decide +kernel
theorem dX10_sheet_78 : decode cX10_sheet 78 = .ok (.imul, 1) := by decide +kernel
theorem dX10_sheet_79 : decode cX10_sheet 79 = .ok (.iadd, 1) := by decide +kernel
theorem dX10_sheet_80 : decode cX10_sheet 80 = .ok (.invokestatic 166, 3) := by decide +kernel
theorem dX10_sheet_83 : decode cX10_sheet 83 = .ok (.invokestatic 169, 3) := by decide +kernel
theorem dX10_sheet_86 : decode cX10_sheet 86 = .ok (.goto 4, 3) := by decide +kernel
theorem dX10_sheet_89 : decode cX10_sheet 89 = .ok (.iconst 0, 1) := by decide +kernel
theorem dX10_sheet_90 : decode cX10_sheet 90 = .ok (.iastore, 1) := by decide +kernel
theorem dX10_sheet_91 : decode cX10_sheet 91 = .ok (.iinc 6 1, 3) := by decide +kernel
theorem dX10_sheet_94 : decode cX10_sheet 94 = .ok (.goto (-50), 3) := by decide +kernel
theorem dX10_sheet_97 : decode cX10_sheet 97 = .ok (.iload_n 1, 1) := by decide +kernel
theorem dX10_sheet_98 : decode cX10_sheet 98 = .ok (.iconst 3, 1) := by decide +kernel
theorem dX10_sheet_99 : decode cX10_sheet 99 = .ok (.if_icmp .ne 8, 3) := by decide +kernel
