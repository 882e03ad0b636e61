theorem dX9_order_104 : decode cX9_order 104 = .ok (.getfield 62, 3) := by decide +kernel
theorem dX9_order_107 : decode cX9_order 107 = .ok (.iload 5, 2) := by decide +kernel
theorem dX9_order_109 : decode cX9_order 109 = .ok (.iload_n 3, 1) := by decide +kernel
theorem dX9_order_110 : decode cX9_order 110 = .ok (.iload 4, 2) := by decide +kernel
theorem dX9_order_112 : decode cX9_order 112 = .ok (.invokestatic 200, 3) := by decide +kernel
theorem dX9_order_115 : decode cX9_order 115 = .ok (.iaload, 1) := by decide +kernel
theorem dX9_order_116 : decode cX9_order 116 = .ok (.istore 9, 2) := by decide +kernel
theorem dX9_order_118 : decode cX9_order 118 = .ok (.iconst 0, 1) := by decide +kernel
theorem dX9_order_119 : decode cX9_order 119 = .ok (.istore 7, 2) := by decide +kernel
theorem dX9_order_121 : decode cX9_order 121 = .ok (.iload 5, 2) := by decide +kernel
theorem dX9_order_123 : decode cX9_order 123 = .ok (.iload 7, 2) := by decide +kernel
theorem dX9_order_125 : decode cX9_order 125 = .ok (.invokestatic 203, 3) := by decide +kernel
theorem dX9_order_128 : decode cX9_order 128 = .ok (.ifCond .ne 20, 3) := by decide +kernel
theorem dX9_order_131 : decode cX9_order 131 = .ok (.aload_n 0, 1) := by decide +kernel
theorem dX9_order_132 : decode cX9_order 132 = .ok (.iload_n 1, 1) := by decide +kernel
theorem dX9_order_133 : decode cX9_order 133 = .ok (.iload 5, 2) := by decide +kernel
theorem dX9_order_135 : decode cX9_order 135 = .ok (.iload_n 3, 1) := by decide +kernel
theorem dX9_order_136 : decode cX9_order 136 = .ok (.iload 4, 2) := by decide +kernel
theorem dX9_order_138 : decode cX9_order 138 = .ok (.iload 7, 2) := by decide +kernel
theorem dX9_order_140 : decode cX9_order 140 = .ok (.invokevirtual 207, 3) := by decide +kernel
theorem dX9_order_143 : decode cX9_order 143 = .ok (.iload 9, 2) := by decide +kernel
theorem dX9_order_145 : decode cX9_order 145 = .ok (.if_icmp .eq 9, 3) := by decide +kernel
theorem dX9_order_148 : decode cX9_order 148 = .ok (.iinc 7 1, 3) := by decide +kernel
theorem dX9_order_151 : decode cX9_order 151 = .ok (.goto (-30), 3) := by decide +kernel
theorem dX9_order_154 : decode cX9_order 154 = .ok (.iload 5, 2) := by decide +kernel
theorem dX9_order_156 : decode cX9_order 156 = .ok (.iconst 1, 1) := by decide +kernel
theorem dX9_order_157 : decode cX9_order 157 = .ok (.iload 7, 2) := by decide +kernel
theorem dX9_order_159 : decode cX9_order 159 = .ok (.ishl, 1) := by decide +kernel
theorem dX9_order_160 : decode cX9_order 160 = .ok (.ior, 1) := by decide +kernel
theorem dX9_order_161 : decode cX9_order 161 = .ok (.istore 5, 2) := by decide +kernel
theorem dX9_order_163 : decode cX9_order 163 = .ok (.iload 4, 2) := by decide +kernel
theorem dX9_order_165 : decode cX9_order 165 = .ok (.istore_n 3, 1) := by decide +kernel
theorem dX9_order_166 : decode cX9_order 166 = .ok (.aload_n 0, 1) := by decide +kernel
theorem dX9_order_167 : decode cX9_order 167 = .ok (.getfield 28, 3) := by decide +kernel
theorem dX9_order_170 : decode cX9_order 170 = .ok (.iload 7, 2) := by decide +kernel
theorem dX9_order_172 : decode cX9_order 172 = .ok (.iaload, 1) := by decide +kernel
theorem dX9_order_173 : decode cX9_order 173 = .ok (.istore 4, 2) := by decide +kernel
theorem dX9_order_175 : decode cX9_order 175 = .ok (.iinc 8 1, 3) := by decide +kernel
theorem dX9_order_178 : decode cX9_order 178 = .ok (.goto (-81), 3) := by decide +kernel
theorem dX9_order_181 : decode cX9_order 181 = .ok (.iload 7, 2) := by decide +kernel
theorem dX9_order_183 : decode cX9_order 183 = .ok (.ireturn, 1) := by decide +kernel
theorem dX9_stand_0 : decode cX9_stand 0 = .ok (.bipush 64, 2) := by decide +kernel
theorem dX9_stand_2 : decode cX9_stand 2 = .ok (.iload_n 0, 1) := by decide +kernel
theorem dX9_stand_3 : decode cX9_stand 3 = .ok (.imul, 1) := by decide +kernel
theorem dX9_stand_4 : decode cX9_stand 4 = .ok (.bipush 8, 2) := by decide +kernel
theorem dX9_stand_6 : decode cX9_stand 6 = .ok (.iload_n 1, 1) := by decide +kernel
theorem dX9_stand_7 : decode cX9_stand 7 = .ok (.imul, 1) := by decide +kernel
theorem dX9_stand_8 : decode cX9_stand 8 = .ok (.iadd, 1) := by decide +kernel
theorem dX9_stand_9 : decode cX9_stand 9 = .ok (.iload_n 2, 1) := by decide +kernel
theorem dX9_stand_10 : decode cX9_stand 10 = .ok (.iadd, 1) := by decide +kernel
theorem dX9_stand_11 : decode cX9_stand 11 = .ok (.ireturn, 1) := by decide +kernel
theorem dX9_byQueue_0 : decode cX9_byQueue 0 = .ok (.aload_n 0, 1) := by decide +kernel
theorem dX9_byQueue_1 : decode cX9_byQueue 1 = .ok (.getfield 28, 3) := by decide +kernel
theorem dX9_byQueue_4 : decode cX9_byQueue 4 = .ok (.iload_n 2, 1) := by decide +kernel
theorem dX9_byQueue_5 : decode cX9_byQueue 5 = .ok (.iaload, 1) := by decide +kernel
theorem dX9_byQueue_6 : decode cX9_byQueue 6 = .ok (.istore 5, 2) := by decide +kernel
theorem dX9_byQueue_8 : decode cX9_byQueue 8 = .ok (.iload_n 1, 1) := by decide +kernel
theorem dX9_byQueue_9 : decode cX9_byQueue 9 = .ok (.iload_n 2, 1) := by decide +kernel
theorem dX9_byQueue_10 : decode cX9_byQueue 10 = .ok (.invokestatic 203, 3) := by decide +kernel
theorem dX9_byQueue_13 : decode cX9_byQueue 13 = .ok (.ifCond .eq 22, 3) := by decide +kernel
theorem dX9_byQueue_16 : decode cX9_byQueue 16 = .ok (.aload_n 0, 1) := by decide +kernel
theorem dX9_byQueue_17 : decode cX9_byQueue 17 = .ok (.iload_n 3, 1) := by decide +kernel
theorem dX9_byQueue_18 : decode cX9_byQueue 18 = .ok (.iload 4, 2) := by decide +kernel
theorem dX9_byQueue_20 : decode cX9_byQueue 20 = .ok (.iload 5, 2) := by decide +kernel
theorem dX9_byQueue_22 : decode cX9_byQueue 22 = .ok (.invokevirtual 197, 3) := by decide +kernel
theorem dX9_byQueue_25 : decode cX9_byQueue 25 = .ok (.iload 5, 2) := by decide +kernel
theorem dX9_byQueue_27 : decode cX9_byQueue 27 = .ok (.if_icmp .eq 8, 3) := by decide +kernel
theorem dX9_byQueue_30 : decode cX9_byQueue 30 = .ok (.bipush 99, 2) := by decide +kernel
theorem dX9_byQueue_32 : decode cX9_byQueue 32 = .ok (.goto 18, 3) := by decide +kernel
theorem dX9_byQueue_35 : decode cX9_byQueue 35 = .ok (.aload_n 0, 1) := by decide +kernel
theorem dX9_byQueue_36 : decode cX9_byQueue 36 = .ok (.getfield 65, 3) := by decide +kernel
theorem dX9_byQueue_39 : decode cX9_byQueue 39 = .ok (.iload_n 2, 1) := by decide +kernel
theorem dX9_byQueue_40 : decode cX9_byQueue 40 = .ok (.iconst 1, 1) := by decide +kernel
theorem dX9_byQueue_41 : decode cX9_byQueue 41 = .ok (.iadd, 1) := by decide +kernel
theorem dX9_byQueue_42 : decode cX9_byQueue 42 = .ok (.iload 4, 2) := by decide +kernel
theorem dX9_byQueue_44 : decode cX9_byQueue 44 = .ok (.iload 5, 2) := by decide +kernel
theorem dX9_byQueue_46 : decode cX9_byQueue 46 = .ok (.invokestatic 223, 3) := by decide +kernel
theorem dX9_byQueue_49 : decode cX9_byQueue 49 = .ok (.iaload, 1) := by decide +kernel
theorem dX9_byQueue_50 : decode cX9_byQueue 50 = .ok (.ireturn, 1) := by decide +kernel
theorem dX9_layNeeds_0 : decode cX9_layNeeds 0 = .ok (.aload_n 0, 1) := by decide +kernel
theorem dX9_layNeeds_1 : decode cX9_layNeeds 1 = .ok (.getfield 25, 3) := by decide +kernel
theorem dX9_layNeeds_4 : decode cX9_layNeeds 4 = .ok (.iconst 0, 1) := by decide +kernel
theorem dX9_layNeeds_5 : decode cX9_layNeeds 5 = .ok (.iaload, 1) := by decide +kernel
theorem dX9_layNeeds_6 : decode cX9_layNeeds 6 = .ok (.istore_n 2, 1) := by decide +kernel
theorem dX9_layNeeds_7 : decode cX9_layNeeds 7 = .ok (.iload_n 2, 1) := by decide +kernel
theorem dX9_layNeeds_8 : decode cX9_layNeeds 8 = .ok (.ifCond .lt 210, 3) := by decide +kernel
theorem dX9_layNeeds_11 : decode cX9_layNeeds 11 = .ok (.iconst 0, 1) := by decide +kernel
theorem dX9_layNeeds_12 : decode cX9_layNeeds 12 = .ok (.istore_n 3, 1) := by decide +kernel
theorem dX9_layNeeds_13 : decode cX9_layNeeds 13 = .ok (.iload_n 3, 1) := by decide +kernel
theorem dX9_layNeeds_14 : decode cX9_layNeeds 14 = .ok (.bipush 64, 2) := by decide +kernel
theorem dX9_layNeeds_16 : decode cX9_layNeeds 16 = .ok (.if_icmp .ge 36, 3) := by decide +kernel
theorem dX9_layNeeds_19 : decode cX9_layNeeds 19 = .ok (.aload_n 0, 1) := by decide +kernel
theorem dX9_layNeeds_20 : decode cX9_layNeeds 20 = .ok (.getfield 65, 3) := by decide +kernel
theorem dX9_layNeeds_23 : decode cX9_layNeeds 23 = .ok (.bipush 64, 2) := by decide +kernel
theorem dX9_layNeeds_25 : decode cX9_layNeeds 25 = .ok (.iload_n 2, 1) := by decide +kernel
theorem dX9_layNeeds_26 : decode cX9_layNeeds 26 = .ok (.imul, 1) := by decide +kernel
theorem dX9_layNeeds_27 : decode cX9_layNeeds 27 = .ok (.iload_n 3, 1) := by decide +kernel
theorem dX9_layNeeds_28 : decode cX9_layNeeds 28 = .ok (.iadd, 1) := by decide +kernel
theorem dX9_layNeeds_29 : decode cX9_layNeeds 29 = .ok (.iload_n 2, 1) := by decide +kernel
theorem dX9_layNeeds_30 : decode cX9_layNeeds 30 = .ok (.aload_n 0, 1) := by decide +kernel
theorem dX9_layNeeds_31 : decode cX9_layNeeds 31 = .ok (.getfield 25, 3) := by decide +kernel
theorem dX9_layNeeds_34 : decode cX9_layNeeds 34 = .ok (.iconst 0, 1) := by decide +kernel
theorem dX9_layNeeds_35 : decode cX9_layNeeds 35 = .ok (.iaload, 1) := by decide +kernel
theorem dX9_layNeeds_36 : decode cX9_layNeeds 36 = .ok (.if_icmp .ne 7, 3) := by decide +kernel
theorem dX9_layNeeds_39 : decode cX9_layNeeds 39 = .ok (.iconst 0, 1) := by decide +kernel
theorem dX9_layNeeds_40 : decode cX9_layNeeds 40 = .ok (.goto 5, 3) := by decide +kernel
theorem dX9_layNeeds_43 : decode cX9_layNeeds 43 = .ok (.bipush 99, 2) := by decide +kernel
theorem dX9_layNeeds_45 : decode cX9_layNeeds 45 = .ok (.iastore, 1) := by decide +kernel
theorem dX9_layNeeds_46 : decode cX9_layNeeds 46 = .ok (.iinc 3 1, 3) := by decide +kernel
theorem dX9_layNeeds_49 : decode cX9_layNeeds 49 = .ok (.goto (-36), 3) := by decide +kernel
theorem dX9_layNeeds_52 : decode cX9_layNeeds 52 = .ok (.iconst 0, 1) := by decide +kernel
theorem dX9_layNeeds_53 : decode cX9_layNeeds 53 = .ok (.istore_n 3, 1) := by decide +kernel
theorem dX9_layNeeds_54 : decode cX9_layNeeds 54 = .ok (.iload_n 3, 1) := by decide +kernel
theorem dX9_layNeeds_55 : decode cX9_layNeeds 55 = .ok (.bipush 12, 2) := by decide +kernel
theorem dX9_layNeeds_57 : decode cX9_layNeeds 57 = .ok (.if_icmp .gt 155, 3) := by decide +kernel
theorem dX9_layNeeds_60 : decode cX9_layNeeds 60 = .ok (.iload_n 2, 1) := by decide +kernel
theorem dX9_layNeeds_61 : decode cX9_layNeeds 61 = .ok (.aload_n 0, 1) := by decide +kernel
theorem dX9_layNeeds_62 : decode cX9_layNeeds 62 = .ok (.getfield 25, 3) := by decide +kernel
theorem dX9_layNeeds_65 : decode cX9_layNeeds 65 = .ok (.iconst 0, 1) := by decide +kernel
theorem dX9_layNeeds_66 : decode cX9_layNeeds 66 = .ok (.iaload, 1) := by decide +kernel
theorem dX9_layNeeds_67 : decode cX9_layNeeds 67 = .ok (.if_icmp .ge 145, 3) := by decide +kernel
theorem dX9_layNeeds_70 : decode cX9_layNeeds 70 = .ok (.iconst 0, 1) := by decide +kernel
theorem dX9_layNeeds_71 : decode cX9_layNeeds 71 = .ok (.istore 4, 2) := by decide +kernel
theorem dX9_layNeeds_73 : decode cX9_layNeeds 73 = .ok (.iload 4, 2) := by decide +kernel
theorem dX9_layNeeds_75 : decode cX9_layNeeds 75 = .ok (.bipush 64, 2) := by decide +kernel
theorem dX9_layNeeds_77 : decode cX9_layNeeds 77 = .ok (.if_icmp .ge 129, 3) := by decide +kernel
theorem dX9_layNeeds_80 : decode cX9_layNeeds 80 = .ok (.aload_n 0, 1) := by decide +kernel
theorem dX9_layNeeds_81 : decode cX9_layNeeds 81 = .ok (.iload_n 1, 1) := by decide +kernel
theorem dX9_layNeeds_82 : decode cX9_layNeeds 82 = .ok (.iload_n 2, 1) := by decide +kernel
theorem dX9_layNeeds_83 : decode cX9_layNeeds 83 = .ok (.iload 4, 2) := by decide +kernel
theorem dX9_layNeeds_85 : decode cX9_layNeeds 85 = .ok (.bipush 8, 2) := by decide +kernel
theorem dX9_layNeeds_87 : decode cX9_layNeeds 87 = .ok (.idiv, 1) := by decide +kernel
theorem dX9_layNeeds_88 : decode cX9_layNeeds 88 = .ok (.iload 4, 2) := by decide +kernel
theorem dX9_layNeeds_90 : decode cX9_layNeeds 90 = .ok (.bipush 8, 2) := by decide +kernel
theorem dX9_layNeeds_92 : decode cX9_layNeeds 92 = .ok (.irem, 1) := by decide +kernel
theorem dX9_layNeeds_93 : decode cX9_layNeeds 93 = .ok (.invokevirtual 226, 3) := by decide +kernel
theorem dX9_layNeeds_96 : decode cX9_layNeeds 96 = .ok (.istore 5, 2) := by decide +kernel
theorem dX9_layNeeds_98 : decode cX9_layNeeds 98 = .ok (.iconst 0, 1) := by decide +kernel
theorem dX9_layNeeds_99 : decode cX9_layNeeds 99 = .ok (.istore 6, 2) := by decide +kernel
theorem dX9_layNeeds_101 : decode cX9_layNeeds 101 = .ok (.iload 6, 2) := by decide +kernel
theorem dX9_layNeeds_103 : decode cX9_layNeeds 103 = .ok (.aload_n 0, 1) := by decide +kernel
theorem dX9_layNeeds_104 : decode cX9_layNeeds 104 = .ok (.getfield 13, 3) := by decide +kernel
theorem dX9_layNeeds_107 : decode cX9_layNeeds 107 = .ok (.iconst 0, 1) := by decide +kernel
theorem dX9_layNeeds_108 : decode cX9_layNeeds 108 = .ok (.iaload, 1) := by decide +kernel
theorem dX9_layNeeds_109 : decode cX9_layNeeds 109 = .ok (.if_icmp .ge 45, 3) := by decide +kernel
theorem dX9_layNeeds_112 : decode cX9_layNeeds 112 = .ok (.aload_n 0, 1) := by decide +kernel
theorem dX9_layNeeds_113 : decode cX9_layNeeds 113 = .ok (.getfield 65, 3) := by decide +kernel
theorem dX9_layNeeds_116 : decode cX9_layNeeds 116 = .ok (.iload_n 2, 1) := by decide +kernel
theorem dX9_layNeeds_117 : decode cX9_layNeeds 117 = .ok (.iload 4, 2) := by decide +kernel
theorem dX9_layNeeds_119 : decode cX9_layNeeds 119 = .ok (.bipush 8, 2) := by decide +kernel
theorem dX9_layNeeds_121 : decode cX9_layNeeds 121 = .ok (.irem, 1) := by decide +kernel
theorem dX9_layNeeds_122 : decode cX9_layNeeds 122 = .ok (.iload 6, 2) := by decide +kernel
theorem dX9_layNeeds_124 : decode cX9_layNeeds 124 = .ok (.invokestatic 223, 3) := by decide +kernel
theorem dX9_layNeeds_127 : decode cX9_layNeeds 127 = .ok (.iaload, 1) := by decide +kernel
theorem dX9_layNeeds_128 : decode cX9_layNeeds 128 = .ok (.iconst 1, 1) := by decide +kernel
theorem dX9_layNeeds_129 : decode cX9_layNeeds 129 = .ok (.iadd, 1) := by decide +kernel
theorem dX9_layNeeds_130 : decode cX9_layNeeds 130 = .ok (.istore 7, 2) := by decide +kernel
theorem dX9_layNeeds_132 : decode cX9_layNeeds 132 = .ok (.iload 7, 2) := by decide +kernel
theorem dX9_layNeeds_134 : decode cX9_layNeeds 134 = .ok (.iload 5, 2) := by decide +kernel
theorem dX9_layNeeds_136 : decode cX9_layNeeds 136 = .ok (.if_icmp .ge 8, 3) := by decide +kernel
theorem dX9_layNeeds_139 : decode cX9_layNeeds 139 = .ok (.iload 7, 2) := by decide +kernel
theorem dX9_layNeeds_141 : decode cX9_layNeeds 141 = .ok (.goto 5, 3) := by decide +kernel
theorem dX9_layNeeds_144 : decode cX9_layNeeds 144 = .ok (.iload 5, 2) := by decide +kernel
theorem dX9_layNeeds_146 : decode cX9_layNeeds 146 = .ok (.istore 5, 2) := by decide +kernel
theorem dX9_layNeeds_148 : decode cX9_layNeeds 148 = .ok (.iinc 6 1, 3) := by decide +kernel
theorem dX9_layNeeds_151 : decode cX9_layNeeds 151 = .ok (.goto (-50), 3) := by decide +kernel
theorem dX9_layNeeds_154 : decode cX9_layNeeds 154 = .ok (.aload_n 0, 1) := by decide +kernel
theorem dX9_layNeeds_155 : decode cX9_layNeeds 155 = .ok (.getfield 65, 3) := by decide +kernel
theorem dX9_layNeeds_158 : decode cX9_layNeeds 158 = .ok (.bipush 64, 2) := by decide +kernel
theorem dX9_layNeeds_160 : decode cX9_layNeeds 160 = .ok (.iload_n 2, 1) := by decide +kernel
theorem dX9_layNeeds_161 : decode cX9_layNeeds 161 = .ok (.imul, 1) := by decide +kernel
theorem dX9_layNeeds_162 : decode cX9_layNeeds 162 = .ok (.iload 4, 2) := by decide +kernel
theorem dX9_layNeeds_164 : decode cX9_layNeeds 164 = .ok (.iadd, 1) := by decide +kernel
theorem dX9_layNeeds_165 : decode cX9_layNeeds 165 = .ok (.iload 5, 2) := by decide +kernel
theorem dX9_layNeeds_167 : decode cX9_layNeeds 167 = .ok (.aload_n 0, 1) := by decide +kernel
theorem dX9_layNeeds_168 : decode cX9_layNeeds 168 = .ok (.getfield 65, 3) := by decide +kernel
theorem dX9_layNeeds_171 : decode cX9_layNeeds 171 = .ok (.bipush 64, 2) := by decide +kernel
theorem dX9_layNeeds_173 : decode cX9_layNeeds 173 = .ok (.iload_n 2, 1) := by decide +kernel
theorem dX9_layNeeds_174 : decode cX9_layNeeds 174 = .ok (.imul, 1) := by decide +kernel
theorem dX9_layNeeds_175 : decode cX9_layNeeds 175 = .ok (.iload 4, 2) := by decide +kernel
theorem dX9_layNeeds_177 : decode cX9_layNeeds 177 = .ok (.iadd, 1) := by decide +kernel
theorem dX9_layNeeds_178 : decode cX9_layNeeds 178 = .ok (.iaload, 1) := by decide +kernel
theorem dX9_layNeeds_179 : decode cX9_layNeeds 179 = .ok (.if_icmp .ge 8, 3) := by decide +kernel
theorem dX9_layNeeds_182 : decode cX9_layNeeds 182 = .ok (.iload 5, 2) := by decide +kernel
theorem dX9_layNeeds_184 : decode cX9_layNeeds 184 = .ok (.goto 15, 3) := by decide +kernel
theorem dX9_layNeeds_187 : decode cX9_layNeeds 187 = .ok (.aload_n 0, 1) := by decide +kernel
theorem dX9_layNeeds_188 : decode cX9_layNeeds 188 = .ok (.getfield 65, 3) := by decide +kernel
theorem dX9_layNeeds_191 : decode cX9_layNeeds 191 = .ok (.bipush 64, 2) := by decide +kernel
theorem dX9_layNeeds_193 : decode cX9_layNeeds 193 = .ok (.iload_n 2, 1) := by decide +kernel
theorem dX9_layNeeds_194 : decode cX9_layNeeds 194 = .ok (.imul, 1) := by decide +kernel
theorem dX9_layNeeds_195 : decode cX9_layNeeds 195 = .ok (.iload 4, 2) := by decide +kernel
theorem dX9_layNeeds_197 : decode cX9_layNeeds 197 = .ok (.iadd, 1) := by decide +kernel
theorem dX9_layNeeds_198 : decode cX9_layNeeds 198 = .ok (.iaload, 1) := by decide +kernel
theorem dX9_layNeeds_199 : decode cX9_layNeeds 199 = .ok (.iastore, 1) := by decide +kernel
theorem dX9_layNeeds_200 : decode cX9_layNeeds 200 = .ok (.iinc 4 1, 3) := by decide +kernel
theorem dX9_layNeeds_203 : decode cX9_layNeeds 203 = .ok (.goto (-130), 3) := by decide +kernel
theorem dX9_layNeeds_206 : decode cX9_layNeeds 206 = .ok (.iinc 3 1, 3) := by decide +kernel
theorem dX9_layNeeds_209 : decode cX9_layNeeds 209 = .ok (.goto (-155), 3) := by decide +kernel
theorem dX9_layNeeds_212 : decode cX9_layNeeds 212 = .ok (.iinc 2 (-1), 3) := by decide +kernel
theorem dX9_layNeeds_215 : decode cX9_layNeeds 215 = .ok (.goto (-208), 3) := by decide +kernel
theorem dX9_layNeeds_218 : decode cX9_layNeeds 218 = .ok (.return_, 1) := by decide +kernel
theorem dX9_layStrangers_0 : decode cX9_layStrangers 0 = .ok (.aload_n 0, 1) := by decide +kernel
theorem dX9_layStrangers_1 : decode cX9_layStrangers 1 = .ok (.iload_n 1, 1) := by decide +kernel
theorem dX9_layStrangers_2 : decode cX9_layStrangers 2 = .ok (.invokevirtual 230, 3) := by decide +kernel
theorem dX9_layStrangers_5 : decode cX9_layStrangers 5 = .ok (.aload_n 0, 1) := by decide +kernel
theorem dX9_layStrangers_6 : decode cX9_layStrangers 6 = .ok (.iconst 1, 1) := by decide +kernel
theorem dX9_layStrangers_7 : decode cX9_layStrangers 7 = .ok (.invokevirtual 220, 3) := by decide +kernel
theorem dX9_layStrangers_10 : decode cX9_layStrangers 10 = .ok (.istore_n 2, 1) := by decide +kernel
theorem dX9_layStrangers_11 : decode cX9_layStrangers 11 = .ok (.aload_n 0, 1) := by decide +kernel
theorem dX9_layStrangers_12 : decode cX9_layStrangers 12 = .ok (.iconst 0, 1) := by decide +kernel
theorem dX9_layStrangers_13 : decode cX9_layStrangers 13 = .ok (.invokevirtual 220, 3) := by decide +kernel
theorem dX9_layStrangers_16 : decode cX9_layStrangers 16 = .ok (.istore_n 3, 1) := by decide +kernel
theorem dX9_layStrangers_17 : decode cX9_layStrangers 17 = .ok (.iconst 0, 1) := by decide +kernel
theorem dX9_layStrangers_18 : decode cX9_layStrangers 18 = .ok (.istore 4, 2) := by decide +kernel
theorem dX9_layStrangers_20 : decode cX9_layStrangers 20 = .ok (.aload_n 0, 1) := by decide +kernel
theorem dX9_layStrangers_21 : decode cX9_layStrangers 21 = .ok (.getfield 65, 3) := by decide +kernel
theorem dX9_layStrangers_24 : decode cX9_layStrangers 24 = .ok (.iconst 0, 1) := by decide +kernel
theorem dX9_layStrangers_25 : decode cX9_layStrangers 25 = .ok (.iload_n 2, 1) := by decide +kernel
theorem dX9_layStrangers_26 : decode cX9_layStrangers 26 = .ok (.iload_n 3, 1) := by decide +kernel
theorem dX9_layStrangers_27 : decode cX9_layStrangers 27 = .ok (.invokestatic 223, 3) := by decide +kernel
theorem dX9_layStrangers_30 : decode cX9_layStrangers 30 = .ok (.iaload, 1) := by decide +kernel
theorem dX9_layStrangers_31 : decode cX9_layStrangers 31 = .ok (.istore 5, 2) := by decide +kernel
theorem dX9_layStrangers_33 : decode cX9_layStrangers 33 = .ok (.iload 5, 2) := by decide +kernel
theorem dX9_layStrangers_35 : decode cX9_layStrangers 35 = .ok (.bipush 12, 2) := by decide +kernel
theorem dX9_layStrangers_37 : decode cX9_layStrangers 37 = .ok (.if_icmp .le 6, 3) := by decide +kernel
theorem dX9_layStrangers_40 : decode cX9_layStrangers 40 = .ok (.bipush (-4), 2) := by decide +kernel
theorem dX9_layStrangers_42 : decode cX9_layStrangers 42 = .ok (.ireturn, 1) := by decide +kernel
theorem dX9_layStrangers_43 : decode cX9_layStrangers 43 = .ok (.aload_n 0, 1) := by decide +kernel
theorem dX9_layStrangers_44 : decode cX9_layStrangers 44 = .ok (.iconst 0, 1) := by decide +kernel
theorem dX9_layStrangers_45 : decode cX9_layStrangers 45 = .ok (.putfield 233, 3) := by decide +kernel
theorem dX9_layStrangers_48 : decode cX9_layStrangers 48 = .ok (.iload 4, 2) := by decide +kernel
theorem dX9_layStrangers_50 : decode cX9_layStrangers 50 = .ok (.aload_n 0, 1) := by decide +kernel
theorem dX9_layStrangers_51 : decode cX9_layStrangers 51 = .ok (.getfield 25, 3) := by decide +kernel
theorem dX9_layStrangers_54 : decode cX9_layStrangers 54 = .ok (.iconst 0, 1) := by decide +kernel
theorem dX9_layStrangers_55 : decode cX9_layStrangers 55 = .ok (.iaload, 1) := by decide +kernel
theorem dX9_layStrangers_56 : decode cX9_layStrangers 56 = .ok (.if_icmp .ge 165, 3) := by decide +kernel
theorem dX9_layStrangers_59 : decode cX9_layStrangers 59 = .ok (.aload_n 0, 1) := by decide +kernel
theorem dX9_layStrangers_60 : decode cX9_layStrangers 60 = .ok (.getfield 65, 3) := by decide +kernel
theorem dX9_layStrangers_63 : decode cX9_layStrangers 63 = .ok (.iload 4, 2) := by decide +kernel
theorem dX9_layStrangers_65 : decode cX9_layStrangers 65 = .ok (.iload_n 2, 1) := by decide +kernel
theorem dX9_layStrangers_66 : decode cX9_layStrangers 66 = .ok (.iload_n 3, 1) := by decide +kernel
theorem dX9_layStrangers_67 : decode cX9_layStrangers 67 = .ok (.invokestatic 223, 3) := by decide +kernel
theorem dX9_layStrangers_70 : decode cX9_layStrangers 70 = .ok (.iaload, 1) := by decide +kernel
theorem dX9_layStrangers_71 : decode cX9_layStrangers 71 = .ok (.istore 6, 2) := by decide +kernel
theorem dX9_layStrangers_73 : decode cX9_layStrangers 73 = .ok (.iconst 0, 1) := by decide +kernel
theorem dX9_layStrangers_74 : decode cX9_layStrangers 74 = .ok (.istore 7, 2) := by decide +kernel
theorem dX9_layStrangers_76 : decode cX9_layStrangers 76 = .ok (.iconst 0, 1) := by decide +kernel
theorem dX9_layStrangers_77 : decode cX9_layStrangers 77 = .ok (.istore 8, 2) := by decide +kernel
theorem dX9_layStrangers_79 : decode cX9_layStrangers 79 = .ok (.iconst 0, 1) := by decide +kernel
theorem dX9_layStrangers_80 : decode cX9_layStrangers 80 = .ok (.istore 9, 2) := by decide +kernel
theorem dX9_layStrangers_82 : decode cX9_layStrangers 82 = .ok (.iload 9, 2) := by decide +kernel
theorem dX9_layStrangers_84 : decode cX9_layStrangers 84 = .ok (.ifCond .ne 86, 3) := by decide +kernel
theorem dX9_layStrangers_87 : decode cX9_layStrangers 87 = .ok (.aload_n 0, 1) := by decide +kernel
theorem dX9_layStrangers_88 : decode cX9_layStrangers 88 = .ok (.getfield 28, 3) := by decide +kernel
theorem dX9_layStrangers_91 : decode cX9_layStrangers 91 = .ok (.iload 4, 2) := by decide +kernel
theorem dX9_layStrangers_93 : decode cX9_layStrangers 93 = .ok (.iaload, 1) := by decide +kernel
theorem dX9_layStrangers_94 : decode cX9_layStrangers 94 = .ok (.iload 8, 2) := by decide +kernel
theorem dX9_layStrangers_96 : decode cX9_layStrangers 96 = .ok (.if_icmp .ne 21, 3) := by decide +kernel
theorem dX9_layStrangers_99 : decode cX9_layStrangers 99 = .ok (.aload_n 0, 1) := by decide +kernel
theorem dX9_layStrangers_100 : decode cX9_layStrangers 100 = .ok (.iload_n 1, 1) := by decide +kernel
theorem dX9_layStrangers_101 : decode cX9_layStrangers 101 = .ok (.iload 4, 2) := by decide +kernel
theorem dX9_layStrangers_103 : decode cX9_layStrangers 103 = .ok (.iload_n 2, 1) := by decide +kernel
theorem dX9_layStrangers_104 : decode cX9_layStrangers 104 = .ok (.iload_n 3, 1) := by decide +kernel
theorem dX9_layStrangers_105 : decode cX9_layStrangers 105 = .ok (.invokevirtual 226, 3) := by decide +kernel
theorem dX9_layStrangers_108 : decode cX9_layStrangers 108 = .ok (.iload 6, 2) := by decide +kernel
theorem dX9_layStrangers_110 : decode cX9_layStrangers 110 = .ok (.if_icmp .ne 7, 3) := by decide +kernel
theorem dX9_layStrangers_113 : decode cX9_layStrangers 113 = .ok (.iconst 1, 1) := by decide +kernel
theorem dX9_layStrangers_114 : decode cX9_layStrangers 114 = .ok (.goto 4, 3) := by decide +kernel
theorem dX9_layStrangers_117 : decode cX9_layStrangers 117 = .ok (.iconst 0, 1) := by decide +kernel
theorem dX9_layStrangers_118 : decode cX9_layStrangers 118 = .ok (.istore 7, 2) := by decide +kernel
theorem dX9_layStrangers_120 : decode cX9_layStrangers 120 = .ok (.iload 7, 2) := by decide +kernel
theorem dX9_layStrangers_122 : decode cX9_layStrangers 122 = .ok (.ifCond .ne 23, 3) := by decide +kernel
theorem dX9_layStrangers_125 : decode cX9_layStrangers 125 = .ok (.aload_n 0, 1) := by decide +kernel
theorem dX9_layStrangers_126 : decode cX9_layStrangers 126 = .ok (.getfield 65, 3) := by decide +kernel
theorem dX9_layStrangers_129 : decode cX9_layStrangers 129 = .ok (.iload 4, 2) := by decide +kernel
theorem dX9_layStrangers_131 : decode cX9_layStrangers 131 = .ok (.iload_n 3, 1) := by decide +kernel
theorem dX9_layStrangers_132 : decode cX9_layStrangers 132 = .ok (.iload 8, 2) := by decide +kernel
theorem dX9_layStrangers_134 : decode cX9_layStrangers 134 = .ok (.invokestatic 223, 3) := by decide +kernel
theorem dX9_layStrangers_137 : decode cX9_layStrangers 137 = .ok (.iaload, 1) := by decide +kernel
theorem dX9_layStrangers_138 : decode cX9_layStrangers 138 = .ok (.iconst 1, 1) := by decide +kernel
theorem dX9_layStrangers_139 : decode cX9_layStrangers 139 = .ok (.iadd, 1) := by decide +kernel
theorem dX9_layStrangers_140 : decode cX9_layStrangers 140 = .ok (.iload 6, 2) := by decide +kernel
theorem dX9_layStrangers_142 : decode cX9_layStrangers 142 = .ok (.if_icmp .ne 7, 3) := by decide +kernel
theorem dX9_layStrangers_145 : decode cX9_layStrangers 145 = .ok (.iconst 1, 1) := by decide +kernel
theorem dX9_layStrangers_146 : decode cX9_layStrangers 146 = .ok (.goto 4, 3) := by decide +kernel
theorem dX9_layStrangers_149 : decode cX9_layStrangers 149 = .ok (.iconst 0, 1) := by decide +kernel
theorem dX9_layStrangers_150 : decode cX9_layStrangers 150 = .ok (.istore 9, 2) := by decide +kernel
theorem dX9_layStrangers_152 : decode cX9_layStrangers 152 = .ok (.iload 8, 2) := by decide +kernel
theorem dX9_layStrangers_154 : decode cX9_layStrangers 154 = .ok (.iload 9, 2) := by decide +kernel
theorem dX9_layStrangers_156 : decode cX9_layStrangers 156 = .ok (.ifCond .eq 7, 3) := by decide +kernel
theorem dX9_layStrangers_159 : decode cX9_layStrangers 159 = .ok (.iconst 0, 1) := by decide +kernel
theorem dX9_layStrangers_160 : decode cX9_layStrangers 160 = .ok (.goto 4, 3) := by decide +kernel
theorem dX9_layStrangers_163 : decode cX9_layStrangers 163 = .ok (.iconst 1, 1) := by decide +kernel
theorem dX9_layStrangers_164 : decode cX9_layStrangers 164 = .ok (.iadd, 1) := by decide +kernel
theorem dX9_layStrangers_165 : decode cX9_layStrangers 165 = .ok (.istore 8, 2) := by decide +kernel
theorem dX9_layStrangers_167 : decode cX9_layStrangers 167 = .ok (.goto (-85), 3) := by decide +kernel
theorem dX9_layStrangers_170 : decode cX9_layStrangers 170 = .ok (.iload 7, 2) := by decide +kernel
theorem dX9_layStrangers_172 : decode cX9_layStrangers 172 = .ok (.ifCond .eq 9, 3) := by decide +kernel
theorem dX9_layStrangers_175 : decode cX9_layStrangers 175 = .ok (.iinc 4 1, 3) := by decide +kernel
theorem dX9_layStrangers_178 : decode cX9_layStrangers 178 = .ok (.goto 35, 3) := by decide +kernel
theorem dX9_layStrangers_181 : decode cX9_layStrangers 181 = .ok (.aload_n 0, 1) := by decide +kernel
theorem dX9_layStrangers_182 : decode cX9_layStrangers 182 = .ok (.getfield 68, 3) := by decide +kernel
theorem dX9_layStrangers_185 : decode cX9_layStrangers 185 = .ok (.aload_n 0, 1) := by decide +kernel
theorem dX9_layStrangers_186 : decode cX9_layStrangers 186 = .ok (.getfield 233, 3) := by decide +kernel
theorem dX9_layStrangers_189 : decode cX9_layStrangers 189 = .ok (.iload 8, 2) := by decide +kernel
theorem dX9_layStrangers_191 : decode cX9_layStrangers 191 = .ok (.iastore, 1) := by decide +kernel
theorem dX9_layStrangers_192 : decode cX9_layStrangers 192 = .ok (.aload_n 0, 1) := by decide +kernel
theorem dX9_layStrangers_193 : decode cX9_layStrangers 193 = .ok (.getfield 71, 3) := by decide +kernel
theorem dX9_layStrangers_196 : decode cX9_layStrangers 196 = .ok (.aload_n 0, 1) := by decide +kernel
theorem dX9_layStrangers_197 : decode cX9_layStrangers 197 = .ok (.getfield 233, 3) := by decide +kernel
theorem dX9_layStrangers_200 : decode cX9_layStrangers 200 = .ok (.iload 4, 2) := by decide +kernel
theorem dX9_layStrangers_202 : decode cX9_layStrangers 202 = .ok (.iastore, 1) := by decide +kernel
theorem dX9_layStrangers_203 : decode cX9_layStrangers 203 = .ok (.aload_n 0, 1) := by decide +kernel
theorem dX9_layStrangers_204 : decode cX9_layStrangers 204 = .ok (.dup, 1) := by decide +kernel
theorem dX9_layStrangers_205 : decode cX9_layStrangers 205 = .ok (.getfield 233, 3) := by decide +kernel
theorem dX9_layStrangers_208 : decode cX9_layStrangers 208 = .ok (.iconst 1, 1) := by decide +kernel
theorem dX9_layStrangers_209 : decode cX9_layStrangers 209 = .ok (.iadd, 1) := by decide +kernel
theorem dX9_layStrangers_210 : decode cX9_layStrangers 210 = .ok (.putfield 233, 3) := by decide +kernel
theorem dX9_layStrangers_213 : decode cX9_layStrangers 213 = .ok (.iload_n 3, 1) := by decide +kernel
theorem dX9_layStrangers_214 : decode cX9_layStrangers 214 = .ok (.istore_n 2, 1) := by decide +kernel
theorem dX9_layStrangers_215 : decode cX9_layStrangers 215 = .ok (.iload 8, 2) := by decide +kernel
theorem dX9_layStrangers_217 : decode cX9_layStrangers 217 = .ok (.istore_n 3, 1) := by decide +kernel
theorem dX9_layStrangers_218 : decode cX9_layStrangers 218 = .ok (.goto (-170), 3) := by decide +kernel
theorem dX9_layStrangers_221 : decode cX9_layStrangers 221 = .ok (.aload_n 0, 1) := by decide +kernel
theorem dX9_layStrangers_222 : decode cX9_layStrangers 222 = .ok (.getfield 233, 3) := by decide +kernel
theorem dX9_layStrangers_225 : decode cX9_layStrangers 225 = .ok (.ireturn, 1) := by decide +kernel
theorem dX9_strangers_0 : decode cX9_strangers 0 = .ok (.aload_n 0, 1) := by decide +kernel
theorem dX9_strangers_1 : decode cX9_strangers 1 = .ok (.iload_n 1, 1) := by decide +kernel
theorem dX9_strangers_2 : decode cX9_strangers 2 = .ok (.invokevirtual 211, 3) := by decide +kernel
theorem dX9_strangers_5 : decode cX9_strangers 5 = .ok (.ifCond .eq 17, 3) := by decide +kernel
theorem dX9_strangers_8 : decode cX9_strangers 8 = .ok (.iload_n 2, 1) := by decide +kernel
theorem dX9_strangers_9 : decode cX9_strangers 9 = .ok (.i2l, 1) := by decide +kernel
theorem dX9_strangers_10 : decode cX9_strangers 10 = .ok (.ldc2_w 236, 3) := by decide +kernel
theorem dX9_strangers_13 : decode cX9_strangers 13 = .ok (.ldc2_w 238, 3) := by decide +kernel
theorem dX9_strangers_16 : decode cX9_strangers 16 = .ok (.invokestatic 102, 3) := by decide +kernel
theorem dX9_strangers_19 : decode cX9_strangers 19 = .ok (.ifCond .ne 5, 3) := by decide +kernel
theorem dX9_strangers_22 : decode cX9_strangers 22 = .ok (.iconst (-1), 1) := by decide +kernel
theorem dX9_strangers_23 : decode cX9_strangers 23 = .ok (.ireturn, 1) := by decide +kernel
theorem dX9_strangers_24 : decode cX9_strangers 24 = .ok (.aload_n 0, 1) := by decide +kernel
theorem dX9_strangers_25 : decode cX9_strangers 25 = .ok (.invokevirtual 214, 3) := by decide +kernel
theorem dX9_strangers_28 : decode cX9_strangers 28 = .ok (.ifCond .ne 6, 3) := by decide +kernel
theorem dX9_strangers_31 : decode cX9_strangers 31 = .ok (.bipush (-2), 2) := by decide +kernel
theorem dX9_strangers_33 : decode cX9_strangers 33 = .ok (.ireturn, 1) := by decide +kernel
theorem dX9_strangers_34 : decode cX9_strangers 34 = .ok (.aload_n 0, 1) := by decide +kernel
theorem dX9_strangers_35 : decode cX9_strangers 35 = .ok (.iload_n 1, 1) := by decide +kernel
theorem dX9_strangers_36 : decode cX9_strangers 36 = .ok (.invokevirtual 240, 3) := by decide +kernel
theorem dX9_strangers_39 : decode cX9_strangers 39 = .ok (.istore_n 3, 1) := by decide +kernel
theorem dX9_strangers_40 : decode cX9_strangers 40 = .ok (.iload_n 2, 1) := by decide +kernel
theorem dX9_strangers_41 : decode cX9_strangers 41 = .ok (.ifCond .lt 7, 3) := by decide +kernel
theorem dX9_strangers_44 : decode cX9_strangers 44 = .ok (.iload_n 3, 1) := by decide +kernel
theorem dX9_strangers_45 : decode cX9_strangers 45 = .ok (.ifCond .ge 7, 3) := by decide +kernel
theorem dX9_strangers_48 : decode cX9_strangers 48 = .ok (.iload_n 3, 1) := by decide +kernel
theorem dX9_strangers_49 : decode cX9_strangers 49 = .ok (.goto 19, 3) := by decide +kernel
theorem dX9_strangers_52 : decode cX9_strangers 52 = .ok (.iload_n 2, 1) := by decide +kernel
theorem dX9_strangers_53 : decode cX9_strangers 53 = .ok (.iload_n 3, 1) := by decide +kernel
theorem dX9_strangers_54 : decode cX9_strangers 54 = .ok (.if_icmp .ge 12, 3) := by decide +kernel
theorem dX9_strangers_57 : decode cX9_strangers 57 = .ok (.aload_n 0, 1) := by decide +kernel
theorem dX9_strangers_58 : decode cX9_strangers 58 = .ok (.getfield 68, 3) := by decide +kernel
theorem dX9_strangers_61 : decode cX9_strangers 61 = .ok (.iload_n 2, 1) := by decide +kernel
theorem dX9_strangers_62 : decode cX9_strangers 62 = .ok (.iaload, 1) := by decide +kernel
theorem dX9_strangers_63 : decode cX9_strangers 63 = .ok (.goto 5, 3) := by decide +kernel
theorem dX9_strangers_66 : decode cX9_strangers 66 = .ok (.bipush (-4), 2) := by decide +kernel
theorem dX9_strangers_68 : decode cX9_strangers 68 = .ok (.ireturn, 1) := by decide +kernel
theorem dX9_ahead_0 : decode cX9_ahead 0 = .ok (.aload_n 0, 1) := by decide +kernel
theorem dX9_ahead_1 : decode cX9_ahead 1 = .ok (.iload_n 1, 1) := by decide +kernel
theorem dX9_ahead_2 : decode cX9_ahead 2 = .ok (.invokevirtual 211, 3) := by decide +kernel
theorem dX9_ahead_5 : decode cX9_ahead 5 = .ok (.ifCond .eq 15, 3) := by decide +kernel
theorem dX9_ahead_8 : decode cX9_ahead 8 = .ok (.iload_n 2, 1) := by decide +kernel
theorem dX9_ahead_9 : decode cX9_ahead 9 = .ok (.i2l, 1) := by decide +kernel
theorem dX9_ahead_10 : decode cX9_ahead 10 = .ok (.lconst 0, 1) := by decide +kernel
theorem dX9_ahead_11 : decode cX9_ahead 11 = .ok (.ldc2_w 238, 3) := by decide +kernel
theorem dX9_ahead_14 : decode cX9_ahead 14 = .ok (.invokestatic 102, 3) := by decide +kernel
theorem dX9_ahead_17 : decode cX9_ahead 17 = .ok (.ifCond .ne 5, 3) := by decide +kernel
theorem dX9_ahead_20 : decode cX9_ahead 20 = .ok (.iconst (-1), 1) := by decide +kernel
theorem dX9_ahead_21 : decode cX9_ahead 21 = .ok (.ireturn, 1) := by decide +kernel
theorem dX9_ahead_22 : decode cX9_ahead 22 = .ok (.aload_n 0, 1) := by decide +kernel
theorem dX9_ahead_23 : decode cX9_ahead 23 = .ok (.invokevirtual 214, 3) := by decide +kernel
theorem dX9_ahead_26 : decode cX9_ahead 26 = .ok (.ifCond .ne 6, 3) := by decide +kernel
theorem dX9_ahead_29 : decode cX9_ahead 29 = .ok (.bipush (-2), 2) := by decide +kernel
theorem dX9_ahead_31 : decode cX9_ahead 31 = .ok (.ireturn, 1) := by decide +kernel
theorem dX9_ahead_32 : decode cX9_ahead 32 = .ok (.iload_n 2, 1) := by decide +kernel
theorem dX9_ahead_33 : decode cX9_ahead 33 = .ok (.aload_n 0, 1) := by decide +kernel
theorem dX9_ahead_34 : decode cX9_ahead 34 = .ok (.iload_n 1, 1) := by decide +kernel
theorem dX9_ahead_35 : decode cX9_ahead 35 = .ok (.invokevirtual 240, 3) := by decide +kernel
theorem dX9_ahead_38 : decode cX9_ahead 38 = .ok (.if_icmp .ge 12, 3) := by decide +kernel
theorem dX9_ahead_41 : decode cX9_ahead 41 = .ok (.aload_n 0, 1) := by decide +kernel
theorem dX9_ahead_42 : decode cX9_ahead 42 = .ok (.getfield 71, 3) := by decide +kernel
theorem dX9_ahead_45 : decode cX9_ahead 45 = .ok (.iload_n 2, 1) := by decide +kernel
theorem dX9_ahead_46 : decode cX9_ahead 46 = .ok (.iaload, 1) := by decide +kernel
theorem dX9_ahead_47 : decode cX9_ahead 47 = .ok (.goto 5, 3) := by decide +kernel
theorem dX9_ahead_50 : decode cX9_ahead 50 = .ok (.bipush (-4), 2) := by decide +kernel
theorem dX9_ahead_52 : decode cX9_ahead 52 = .ok (.ireturn, 1) := by decide +kernel
theorem dX9_askFor_0 : decode cX9_askFor 0 = .ok (.bipush (-4), 2) := by decide +kernel
theorem dX9_askFor_2 : decode cX9_askFor 2 = .ok (.istore_n 2, 1) := by decide +kernel
theorem dX9_askFor_3 : decode cX9_askFor 3 = .ok (.iconst (-1), 1) := by decide +kernel
theorem dX9_askFor_4 : decode cX9_askFor 4 = .ok (.istore_n 3, 1) := by decide +kernel
theorem dX9_askFor_5 : decode cX9_askFor 5 = .ok (.aload_n 0, 1) := by decide +kernel
theorem dX9_askFor_6 : decode cX9_askFor 6 = .ok (.iconst 0, 1) := by decide +kernel
theorem dX9_askFor_7 : decode cX9_askFor 7 = .ok (.invokevirtual 181, 3) := by decide +kernel
theorem dX9_askFor_10 : decode cX9_askFor 10 = .ok (.iconst (-1), 1) := by decide +kernel
theorem dX9_askFor_11 : decode cX9_askFor 11 = .ok (.istore 4, 2) := by decide +kernel
theorem dX9_askFor_13 : decode cX9_askFor 13 = .ok (.iload 4, 2) := by decide +kernel
theorem dX9_askFor_15 : decode cX9_askFor 15 = .ok (.aload_n 0, 1) := by decide +kernel
theorem dX9_askFor_16 : decode cX9_askFor 16 = .ok (.getfield 13, 3) := by decide +kernel
theorem dX9_askFor_19 : decode cX9_askFor 19 = .ok (.iconst 0, 1) := by decide +kernel
theorem dX9_askFor_20 : decode cX9_askFor 20 = .ok (.iaload, 1) := by decide +kernel
theorem dX9_askFor_21 : decode cX9_askFor 21 = .ok (.if_icmp .ge 69, 3) := by decide +kernel
theorem dX9_askFor_24 : decode cX9_askFor 24 = .ok (.iload 4, 2) := by decide +kernel
theorem dX9_askFor_26 : decode cX9_askFor 26 = .ok (.ifCond .ge 7, 3) := by decide +kernel
theorem dX9_askFor_29 : decode cX9_askFor 29 = .ok (.iload_n 1, 1) := by decide +kernel
theorem dX9_askFor_30 : decode cX9_askFor 30 = .ok (.goto 5, 3) := by decide +kernel
theorem dX9_askFor_33 : decode cX9_askFor 33 = .ok (.iload 4, 2) := by decide +kernel
theorem dX9_askFor_35 : decode cX9_askFor 35 = .ok (.istore 5, 2) := by decide +kernel
theorem dX9_askFor_37 : decode cX9_askFor 37 = .ok (.aload_n 0, 1) := by decide +kernel
theorem dX9_askFor_38 : decode cX9_askFor 38 = .ok (.getfield 58, 3) := by decide +kernel
theorem dX9_askFor_41 : decode cX9_askFor 41 = .ok (.aload_n 0, 1) := by decide +kernel
theorem dX9_askFor_42 : decode cX9_askFor 42 = .ok (.getfield 171, 3) := by decide +kernel
theorem dX9_askFor_45 : decode cX9_askFor 45 = .ok (.iconst 1, 1) := by decide +kernel
theorem dX9_askFor_46 : decode cX9_askFor 46 = .ok (.isub, 1) := by decide +kernel
theorem dX9_askFor_47 : decode cX9_askFor 47 = .ok (.iload 5, 2) := by decide +kernel
theorem dX9_askFor_49 : decode cX9_askFor 49 = .ok (.iastore, 1) := by decide +kernel
theorem dX9_askFor_50 : decode cX9_askFor 50 = .ok (.aload_n 0, 1) := by decide +kernel
theorem dX9_askFor_51 : decode cX9_askFor 51 = .ok (.getfield 31, 3) := by decide +kernel
theorem dX9_askFor_54 : decode cX9_askFor 54 = .ok (.bipush 7, 2) := by decide +kernel
theorem dX9_askFor_56 : decode cX9_askFor 56 = .ok (.iload_n 1, 1) := by decide +kernel
theorem dX9_askFor_57 : decode cX9_askFor 57 = .ok (.imul, 1) := by decide +kernel
theorem dX9_askFor_58 : decode cX9_askFor 58 = .ok (.aload_n 0, 1) := by decide +kernel
theorem dX9_askFor_59 : decode cX9_askFor 59 = .ok (.aload_n 0, 1) := by decide +kernel
theorem dX9_askFor_60 : decode cX9_askFor 60 = .ok (.getfield 16, 3) := by decide +kernel
theorem dX9_askFor_63 : decode cX9_askFor 63 = .ok (.iconst 0, 1) := by decide +kernel
theorem dX9_askFor_64 : decode cX9_askFor 64 = .ok (.iaload, 1) := by decide +kernel
theorem dX9_askFor_65 : decode cX9_askFor 65 = .ok (.invokevirtual 184, 3) := by decide +kernel
theorem dX9_askFor_68 : decode cX9_askFor 68 = .ok (.iadd, 1) := by decide +kernel
theorem dX9_askFor_69 : decode cX9_askFor 69 = .ok (.iaload, 1) := by decide +kernel
theorem dX9_askFor_70 : decode cX9_askFor 70 = .ok (.istore 6, 2) := by decide +kernel
theorem dX9_askFor_72 : decode cX9_askFor 72 = .ok (.iload 6, 2) := by decide +kernel
theorem dX9_askFor_74 : decode cX9_askFor 74 = .ok (.iload_n 3, 1) := by decide +kernel
theorem dX9_askFor_75 : decode cX9_askFor 75 = .ok (.if_icmp .le 9, 3) := by decide +kernel
theorem dX9_askFor_78 : decode cX9_askFor 78 = .ok (.iload 6, 2) := by decide +kernel
theorem dX9_askFor_80 : decode cX9_askFor 80 = .ok (.istore_n 3, 1) := by decide +kernel
theorem dX9_askFor_81 : decode cX9_askFor 81 = .ok (.iload 5, 2) := by decide +kernel
theorem dX9_askFor_83 : decode cX9_askFor 83 = .ok (.istore_n 2, 1) := by decide +kernel
theorem dX9_askFor_84 : decode cX9_askFor 84 = .ok (.iinc 4 1, 3) := by decide +kernel
theorem dX9_askFor_87 : decode cX9_askFor 87 = .ok (.goto (-74), 3) := by decide +kernel
theorem dX9_askFor_90 : decode cX9_askFor 90 = .ok (.aload_n 0, 1) := by decide +kernel
theorem dX9_askFor_91 : decode cX9_askFor 91 = .ok (.getfield 58, 3) := by decide +kernel
theorem dX9_askFor_94 : decode cX9_askFor 94 = .ok (.aload_n 0, 1) := by decide +kernel
theorem dX9_askFor_95 : decode cX9_askFor 95 = .ok (.getfield 171, 3) := by decide +kernel
theorem dX9_askFor_98 : decode cX9_askFor 98 = .ok (.iconst 1, 1) := by decide +kernel
theorem dX9_askFor_99 : decode cX9_askFor 99 = .ok (.isub, 1) := by decide +kernel
theorem dX9_askFor_100 : decode cX9_askFor 100 = .ok (.iload_n 2, 1) := by decide +kernel
theorem dX9_askFor_101 : decode cX9_askFor 101 = .ok (.iastore, 1) := by decide +kernel
theorem dX9_askFor_102 : decode cX9_askFor 102 = .ok (.iload_n 2, 1) := by decide +kernel
theorem dX9_askFor_103 : decode cX9_askFor 103 = .ok (.ireturn, 1) := by decide +kernel
theorem dX9_asks_0 : decode cX9_asks 0 = .ok (.aload_n 0, 1) := by decide +kernel
theorem dX9_asks_1 : decode cX9_asks 1 = .ok (.iload_n 1, 1) := by decide +kernel
theorem dX9_asks_2 : decode cX9_asks 2 = .ok (.invokevirtual 187, 3) := by decide +kernel
theorem dX9_asks_5 : decode cX9_asks 5 = .ok (.ifCond .eq 13, 3) := by decide +kernel
theorem dX9_asks_8 : decode cX9_asks 8 = .ok (.iload_n 2, 1) := by decide +kernel
theorem dX9_asks_9 : decode cX9_asks 9 = .ok (.i2l, 1) := by decide +kernel
theorem dX9_asks_10 : decode cX9_asks 10 = .ok (.lconst 0, 1) := by decide +kernel
theorem dX9_asks_11 : decode cX9_asks 11 = .ok (.lconst 1, 1) := by decide +kernel
theorem dX9_asks_12 : decode cX9_asks 12 = .ok (.invokestatic 102, 3) := by decide +kernel
theorem dX9_asks_15 : decode cX9_asks 15 = .ok (.ifCond .ne 5, 3) := by decide +kernel
theorem dX9_asks_18 : decode cX9_asks 18 = .ok (.iconst (-1), 1) := by decide +kernel
theorem dX9_asks_19 : decode cX9_asks 19 = .ok (.ireturn, 1) := by decide +kernel
theorem dX9_asks_20 : decode cX9_asks 20 = .ok (.aload_n 0, 1) := by decide +kernel
theorem dX9_asks_21 : decode cX9_asks 21 = .ok (.invokevirtual 178, 3) := by decide +kernel
theorem dX9_asks_24 : decode cX9_asks 24 = .ok (.iconst 0, 1) := by decide +kernel
theorem dX9_asks_25 : decode cX9_asks 25 = .ok (.istore_n 3, 1) := by decide +kernel
theorem dX9_asks_26 : decode cX9_asks 26 = .ok (.iconst 0, 1) := by decide +kernel
theorem dX9_asks_27 : decode cX9_asks 27 = .ok (.istore 4, 2) := by decide +kernel
theorem dX9_asks_29 : decode cX9_asks 29 = .ok (.iload 4, 2) := by decide +kernel
theorem dX9_asks_31 : decode cX9_asks 31 = .ok (.iload_n 1, 1) := by decide +kernel
theorem dX9_asks_32 : decode cX9_asks 32 = .ok (.if_icmp .gt 21, 3) := by decide +kernel
theorem dX9_asks_35 : decode cX9_asks 35 = .ok (.aload_n 0, 1) := by decide +kernel
theorem dX9_asks_36 : decode cX9_asks 36 = .ok (.aload_n 0, 1) := by decide +kernel
theorem dX9_asks_37 : decode cX9_asks 37 = .ok (.getfield 28, 3) := by decide +kernel
theorem dX9_asks_40 : decode cX9_asks 40 = .ok (.iload 4, 2) := by decide +kernel
theorem dX9_asks_42 : decode cX9_asks 42 = .ok (.iaload, 1) := by decide +kernel
theorem dX9_asks_43 : decode cX9_asks 43 = .ok (.invokevirtual 243, 3) := by decide +kernel
theorem dX9_asks_46 : decode cX9_asks 46 = .ok (.istore_n 3, 1) := by decide +kernel
theorem dX9_asks_47 : decode cX9_asks 47 = .ok (.iinc 4 1, 3) := by decide +kernel
theorem dX9_asks_50 : decode cX9_asks 50 = .ok (.goto (-21), 3) := by decide +kernel
theorem dX9_asks_53 : decode cX9_asks 53 = .ok (.iload_n 2, 1) := by decide +kernel
theorem dX9_asks_54 : decode cX9_asks 54 = .ok (.ifCond .ne 7, 3) := by decide +kernel
theorem dX9_asks_57 : decode cX9_asks 57 = .ok (.iload_n 3, 1) := by decide +kernel
theorem dX9_asks_58 : decode cX9_asks 58 = .ok (.goto 13, 3) := by decide +kernel
theorem dX9_asks_61 : decode cX9_asks 61 = .ok (.aload_n 0, 1) := by decide +kernel
theorem dX9_asks_62 : decode cX9_asks 62 = .ok (.aload_n 0, 1) := by decide +kernel
theorem dX9_asks_63 : decode cX9_asks 63 = .ok (.getfield 16, 3) := by decide +kernel
theorem dX9_asks_66 : decode cX9_asks 66 = .ok (.iconst 0, 1) := by decide +kernel
theorem dX9_asks_67 : decode cX9_asks 67 = .ok (.iaload, 1) := by decide +kernel
theorem dX9_asks_68 : decode cX9_asks 68 = .ok (.invokevirtual 184, 3) := by decide +kernel
theorem dX9_asks_71 : decode cX9_asks 71 = .ok (.ireturn, 1) := by decide +kernel
theorem dX9_otherwise_0 : decode cX9_otherwise 0 = .ok (.aload_n 0, 1) := by decide +kernel
theorem dX9_otherwise_1 : decode cX9_otherwise 1 = .ok (.invokevirtual 178, 3) := by decide +kernel
theorem dX9_otherwise_4 : decode cX9_otherwise 4 = .ok (.iconst 0, 1) := by decide +kernel
theorem dX9_otherwise_5 : decode cX9_otherwise 5 = .ok (.istore_n 1, 1) := by decide +kernel
theorem dX9_otherwise_6 : decode cX9_otherwise 6 = .ok (.iconst 0, 1) := by decide +kernel
theorem dX9_otherwise_7 : decode cX9_otherwise 7 = .ok (.istore_n 2, 1) := by decide +kernel
theorem dX9_otherwise_8 : decode cX9_otherwise 8 = .ok (.iload_n 2, 1) := by decide +kernel
theorem dX9_otherwise_9 : decode cX9_otherwise 9 = .ok (.aload_n 0, 1) := by decide +kernel
theorem dX9_otherwise_10 : decode cX9_otherwise 10 = .ok (.getfield 25, 3) := by decide +kernel
theorem dX9_otherwise_13 : decode cX9_otherwise 13 = .ok (.iconst 0, 1) := by decide +kernel
theorem dX9_otherwise_14 : decode cX9_otherwise 14 = .ok (.iaload, 1) := by decide +kernel
theorem dX9_otherwise_15 : decode cX9_otherwise 15 = .ok (.if_icmp .ge 36, 3) := by decide +kernel
theorem dX9_otherwise_18 : decode cX9_otherwise 18 = .ok (.iload_n 1, 1) := by decide +kernel
theorem dX9_otherwise_19 : decode cX9_otherwise 19 = .ok (.aload_n 0, 1) := by decide +kernel
theorem dX9_otherwise_20 : decode cX9_otherwise 20 = .ok (.aload_n 0, 1) := by decide +kernel
theorem dX9_otherwise_21 : decode cX9_otherwise 21 = .ok (.getfield 28, 3) := by decide +kernel
theorem dX9_otherwise_24 : decode cX9_otherwise 24 = .ok (.iload_n 2, 1) := by decide +kernel
theorem dX9_otherwise_25 : decode cX9_otherwise 25 = .ok (.iaload, 1) := by decide +kernel
theorem dX9_otherwise_26 : decode cX9_otherwise 26 = .ok (.invokevirtual 243, 3) := by decide +kernel
theorem dX9_otherwise_29 : decode cX9_otherwise 29 = .ok (.aload_n 0, 1) := by decide +kernel
theorem dX9_otherwise_30 : decode cX9_otherwise 30 = .ok (.getfield 28, 3) := by decide +kernel
theorem dX9_otherwise_33 : decode cX9_otherwise 33 = .ok (.iload_n 2, 1) := by decide +kernel
theorem dX9_otherwise_34 : decode cX9_otherwise 34 = .ok (.iaload, 1) := by decide +kernel
theorem dX9_otherwise_35 : decode cX9_otherwise 35 = .ok (.if_icmp .eq 7, 3) := by decide +kernel
theorem dX9_otherwise_38 : decode cX9_otherwise 38 = .ok (.iconst 1, 1) := by decide +kernel
theorem dX9_otherwise_39 : decode cX9_otherwise 39 = .ok (.goto 4, 3) := by decide +kernel
theorem dX9_otherwise_42 : decode cX9_otherwise 42 = .ok (.iconst 0, 1) := by decide +kernel
theorem dX9_otherwise_43 : decode cX9_otherwise 43 = .ok (.iadd, 1) := by decide +kernel
theorem dX9_otherwise_44 : decode cX9_otherwise 44 = .ok (.istore_n 1, 1) := by decide +kernel
theorem dX9_otherwise_45 : decode cX9_otherwise 45 = .ok (.iinc 2 1, 3) := by decide +kernel
theorem dX9_otherwise_48 : decode cX9_otherwise 48 = .ok (.goto (-40), 3) := by decide +kernel
theorem dX9_otherwise_51 : decode cX9_otherwise 51 = .ok (.iload_n 1, 1) := by decide +kernel
theorem dX9_otherwise_52 : decode cX9_otherwise 52 = .ok (.ireturn, 1) := by decide +kernel
theorem dX9_wants_0 : decode cX9_wants 0 = .ok (.aload_n 0, 1) := by decide +kernel
theorem dX9_wants_1 : decode cX9_wants 1 = .ok (.getfield 31, 3) := by decide +kernel
theorem dX9_wants_4 : decode cX9_wants 4 = .ok (.bipush 7, 2) := by decide +kernel
theorem dX9_wants_6 : decode cX9_wants 6 = .ok (.aload_n 0, 1) := by decide +kernel
theorem dX9_wants_7 : decode cX9_wants 7 = .ok (.getfield 28, 3) := by decide +kernel
theorem dX9_wants_10 : decode cX9_wants 10 = .ok (.iload_n 1, 1) := by decide +kernel
theorem dX9_wants_11 : decode cX9_wants 11 = .ok (.iaload, 1) := by decide +kernel
theorem dX9_wants_12 : decode cX9_wants 12 = .ok (.imul, 1) := by decide +kernel
theorem dX9_wants_13 : decode cX9_wants 13 = .ok (.aload_n 0, 1) := by decide +kernel
theorem dX9_wants_14 : decode cX9_wants 14 = .ok (.getfield 74, 3) := by decide +kernel
theorem dX9_wants_17 : decode cX9_wants 17 = .ok (.iload_n 2, 1) := by decide +kernel
theorem dX9_wants_18 : decode cX9_wants 18 = .ok (.iaload, 1) := by decide +kernel
theorem dX9_wants_19 : decode cX9_wants 19 = .ok (.iadd, 1) := by decide +kernel
theorem dX9_wants_20 : decode cX9_wants 20 = .ok (.iaload, 1) := by decide +kernel
theorem dX9_wants_21 : decode cX9_wants 21 = .ok (.aload_n 0, 1) := by decide +kernel
theorem dX9_wants_22 : decode cX9_wants 22 = .ok (.getfield 31, 3) := by decide +kernel
theorem dX9_wants_25 : decode cX9_wants 25 = .ok (.bipush 7, 2) := by decide +kernel
theorem dX9_wants_27 : decode cX9_wants 27 = .ok (.aload_n 0, 1) := by decide +kernel
theorem dX9_wants_28 : decode cX9_wants 28 = .ok (.getfield 28, 3) := by decide +kernel
theorem dX9_wants_31 : decode cX9_wants 31 = .ok (.iload_n 1, 1) := by decide +kernel
theorem dX9_wants_32 : decode cX9_wants 32 = .ok (.iaload, 1) := by decide +kernel
theorem dX9_wants_33 : decode cX9_wants 33 = .ok (.imul, 1) := by decide +kernel
theorem dX9_wants_34 : decode cX9_wants 34 = .ok (.aload_n 0, 1) := by decide +kernel
theorem dX9_wants_35 : decode cX9_wants 35 = .ok (.getfield 74, 3) := by decide +kernel
theorem dX9_wants_38 : decode cX9_wants 38 = .ok (.iload_n 1, 1) := by decide +kernel
theorem dX9_wants_39 : decode cX9_wants 39 = .ok (.iaload, 1) := by decide +kernel
theorem dX9_wants_40 : decode cX9_wants 40 = .ok (.iadd, 1) := by decide +kernel
theorem dX9_wants_41 : decode cX9_wants 41 = .ok (.iaload, 1) := by decide +kernel
theorem dX9_wants_42 : decode cX9_wants 42 = .ok (.if_icmp .le 7, 3) := by decide +kernel
theorem dX9_wants_45 : decode cX9_wants 45 = .ok (.iconst 1, 1) := by decide +kernel
theorem dX9_wants_46 : decode cX9_wants 46 = .ok (.goto 4, 3) := by decide +kernel
theorem dX9_wants_49 : decode cX9_wants 49 = .ok (.iconst 0, 1) := by decide +kernel
theorem dX9_wants_50 : decode cX9_wants 50 = .ok (.ireturn, 1) := by decide +kernel
theorem dX9_swapOnce_0 : decode cX9_swapOnce 0 = .ok (.iconst 0, 1) := by decide +kernel
theorem dX9_swapOnce_1 : decode cX9_swapOnce 1 = .ok (.istore_n 1, 1) := by decide +kernel
theorem dX9_swapOnce_2 : decode cX9_swapOnce 2 = .ok (.iload_n 1, 1) := by decide +kernel
theorem dX9_swapOnce_3 : decode cX9_swapOnce 3 = .ok (.aload_n 0, 1) := by decide +kernel
theorem dX9_swapOnce_4 : decode cX9_swapOnce 4 = .ok (.getfield 25, 3) := by decide +kernel
theorem dX9_swapOnce_7 : decode cX9_swapOnce 7 = .ok (.iconst 0, 1) := by decide +kernel
theorem dX9_swapOnce_8 : decode cX9_swapOnce 8 = .ok (.iaload, 1) := by decide +kernel
theorem dX9_swapOnce_9 : decode cX9_swapOnce 9 = .ok (.if_icmp .ge 75, 3) := by decide +kernel
theorem dX9_swapOnce_12 : decode cX9_swapOnce 12 = .ok (.iload_n 1, 1) := by decide +kernel
theorem dX9_swapOnce_13 : decode cX9_swapOnce 13 = .ok (.iconst 1, 1) := by decide +kernel
theorem dX9_swapOnce_14 : decode cX9_swapOnce 14 = .ok (.iadd, 1) := by decide +kernel
theorem dX9_swapOnce_15 : decode cX9_swapOnce 15 = .ok (.istore_n 2, 1) := by decide +kernel
theorem dX9_swapOnce_16 : decode cX9_swapOnce 16 = .ok (.iload_n 2, 1) := by decide +kernel
theorem dX9_swapOnce_17 : decode cX9_swapOnce 17 = .ok (.aload_n 0, 1) := by decide +kernel
theorem dX9_swapOnce_18 : decode cX9_swapOnce 18 = .ok (.getfield 25, 3) := by decide +kernel
theorem dX9_swapOnce_21 : decode cX9_swapOnce 21 = .ok (.iconst 0, 1) := by decide +kernel
theorem dX9_swapOnce_22 : decode cX9_swapOnce 22 = .ok (.iaload, 1) := by decide +kernel
theorem dX9_swapOnce_23 : decode cX9_swapOnce 23 = .ok (.if_icmp .ge 55, 3) := by decide +kernel
theorem dX9_swapOnce_26 : decode cX9_swapOnce 26 = .ok (.aload_n 0, 1) := by decide +kernel
theorem dX9_swapOnce_27 : decode cX9_swapOnce 27 = .ok (.iload_n 1, 1) := by decide +kernel
theorem dX9_swapOnce_28 : decode cX9_swapOnce 28 = .ok (.iload_n 2, 1) := by decide +kernel
theorem dX9_swapOnce_29 : decode cX9_swapOnce 29 = .ok (.invokevirtual 246, 3) := by decide +kernel
theorem dX9_swapOnce_32 : decode cX9_swapOnce 32 = .ok (.ifCond .eq 40, 3) := by decide +kernel
theorem dX9_swapOnce_35 : decode cX9_swapOnce 35 = .ok (.aload_n 0, 1) := by decide +kernel
theorem dX9_swapOnce_36 : decode cX9_swapOnce 36 = .ok (.iload_n 2, 1) := by decide +kernel
theorem dX9_swapOnce_37 : decode cX9_swapOnce 37 = .ok (.iload_n 1, 1) := by decide +kernel
theorem dX9_swapOnce_38 : decode cX9_swapOnce 38 = .ok (.invokevirtual 246, 3) := by decide +kernel
theorem dX9_swapOnce_41 : decode cX9_swapOnce 41 = .ok (.ifCond .eq 31, 3) := by decide +kernel
theorem dX9_swapOnce_44 : decode cX9_swapOnce 44 = .ok (.aload_n 0, 1) := by decide +kernel
theorem dX9_swapOnce_45 : decode cX9_swapOnce 45 = .ok (.getfield 74, 3) := by decide +kernel
theorem dX9_swapOnce_48 : decode cX9_swapOnce 48 = .ok (.iload_n 1, 1) := by decide +kernel
theorem dX9_swapOnce_49 : decode cX9_swapOnce 49 = .ok (.iaload, 1) := by decide +kernel
theorem dX9_swapOnce_50 : decode cX9_swapOnce 50 = .ok (.istore_n 3, 1) := by decide +kernel
theorem dX9_swapOnce_51 : decode cX9_swapOnce 51 = .ok (.aload_n 0, 1) := by decide +kernel
theorem dX9_swapOnce_52 : decode cX9_swapOnce 52 = .ok (.getfield 74, 3) := by decide +kernel
theorem dX9_swapOnce_55 : decode cX9_swapOnce 55 = .ok (.iload_n 1, 1) := by decide +kernel
theorem dX9_swapOnce_56 : decode cX9_swapOnce 56 = .ok (.aload_n 0, 1) := by decide +kernel
theorem dX9_swapOnce_57 : decode cX9_swapOnce 57 = .ok (.getfield 74, 3) := by decide +kernel
theorem dX9_swapOnce_60 : decode cX9_swapOnce 60 = .ok (.iload_n 2, 1) := by decide +kernel
theorem dX9_swapOnce_61 : decode cX9_swapOnce 61 = .ok (.iaload, 1) := by decide +kernel
theorem dX9_swapOnce_62 : decode cX9_swapOnce 62 = .ok (.iastore, 1) := by decide +kernel
theorem dX9_swapOnce_63 : decode cX9_swapOnce 63 = .ok (.aload_n 0, 1) := by decide +kernel
theorem dX9_swapOnce_64 : decode cX9_swapOnce 64 = .ok (.getfield 74, 3) := by decide +kernel
theorem dX9_swapOnce_67 : decode cX9_swapOnce 67 = .ok (.iload_n 2, 1) := by decide +kernel
theorem dX9_swapOnce_68 : decode cX9_swapOnce 68 = .ok (.iload_n 3, 1) := by decide +kernel
theorem dX9_swapOnce_69 : decode cX9_swapOnce 69 = .ok (.iastore, 1) := by decide +kernel
theorem dX9_swapOnce_70 : decode cX9_swapOnce 70 = .ok (.iconst 1, 1) := by decide +kernel
theorem dX9_swapOnce_71 : decode cX9_swapOnce 71 = .ok (.ireturn, 1) := by decide +kernel
theorem dX9_swapOnce_72 : decode cX9_swapOnce 72 = .ok (.iinc 2 1, 3) := by decide +kernel
theorem dX9_swapOnce_75 : decode cX9_swapOnce 75 = .ok (.goto (-59), 3) := by decide +kernel
theorem dX9_swapOnce_78 : decode cX9_swapOnce 78 = .ok (.iinc 1 1, 3) := by decide +kernel
theorem dX9_swapOnce_81 : decode cX9_swapOnce 81 = .ok (.goto (-79), 3) := by decide +kernel
theorem dX9_swapOnce_84 : decode cX9_swapOnce 84 = .ok (.iconst 0, 1) := by decide +kernel
theorem dX9_swapOnce_85 : decode cX9_swapOnce 85 = .ok (.ireturn, 1) := by decide +kernel
theorem dX9_swaps_0 : decode cX9_swaps 0 = .ok (.iload_n 1, 1) := by decide +kernel
theorem dX9_swaps_1 : decode cX9_swaps 1 = .ok (.iconst (-1), 1) := by decide +kernel
theorem dX9_swaps_2 : decode cX9_swaps 2 = .ok (.if_icmp .eq 13, 3) := by decide +kernel
theorem dX9_swaps_5 : decode cX9_swaps 5 = .ok (.aload_n 0, 1) := by decide +kernel
theorem dX9_swaps_6 : decode cX9_swaps 6 = .ok (.iload_n 1, 1) := by decide +kernel
theorem dX9_swaps_7 : decode cX9_swaps 7 = .ok (.invokevirtual 187, 3) := by decide +kernel
theorem dX9_swaps_10 : decode cX9_swaps 10 = .ok (.ifCond .ne 5, 3) := by decide +kernel
theorem dX9_swaps_13 : decode cX9_swaps 13 = .ok (.iconst (-1), 1) := by decide +kernel
theorem dX9_swaps_14 : decode cX9_swaps 14 = .ok (.ireturn, 1) := by decide +kernel
theorem dX9_swaps_15 : decode cX9_swaps 15 = .ok (.iconst 0, 1) := by decide +kernel
theorem dX9_swaps_16 : decode cX9_swaps 16 = .ok (.istore_n 2, 1) := by decide +kernel
theorem dX9_swaps_17 : decode cX9_swaps 17 = .ok (.iload_n 2, 1) := by decide +kernel
theorem dX9_swaps_18 : decode cX9_swaps 18 = .ok (.aload_n 0, 1) := by decide +kernel
theorem dX9_swaps_19 : decode cX9_swaps 19 = .ok (.getfield 25, 3) := by decide +kernel
theorem dX9_swaps_22 : decode cX9_swaps 22 = .ok (.iconst 0, 1) := by decide +kernel
theorem dX9_swaps_23 : decode cX9_swaps 23 = .ok (.iaload, 1) := by decide +kernel
theorem dX9_swaps_24 : decode cX9_swaps 24 = .ok (.if_icmp .ge 26, 3) := by decide +kernel
theorem dX9_swaps_27 : decode cX9_swaps 27 = .ok (.aload_n 0, 1) := by decide +kernel
theorem dX9_swaps_28 : decode cX9_swaps 28 = .ok (.getfield 74, 3) := by decide +kernel
theorem dX9_swaps_31 : decode cX9_swaps 31 = .ok (.iload_n 2, 1) := by decide +kernel
theorem dX9_swaps_32 : decode cX9_swaps 32 = .ok (.aload_n 0, 1) := by decide +kernel
theorem dX9_swaps_33 : decode cX9_swaps 33 = .ok (.aload_n 0, 1) := by decide +kernel
theorem dX9_swaps_34 : decode cX9_swaps 34 = .ok (.getfield 16, 3) := by decide +kernel
theorem dX9_swaps_37 : decode cX9_swaps 37 = .ok (.iconst 0, 1) := by decide +kernel
theorem dX9_swaps_38 : decode cX9_swaps 38 = .ok (.iaload, 1) := by decide +kernel
theorem dX9_swaps_39 : decode cX9_swaps 39 = .ok (.iload_n 2, 1) := by decide +kernel
theorem dX9_swaps_40 : decode cX9_swaps 40 = .ok (.invokevirtual 190, 3) := by decide +kernel
theorem dX9_swaps_43 : decode cX9_swaps 43 = .ok (.iastore, 1) := by decide +kernel
theorem dX9_swaps_44 : decode cX9_swaps 44 = .ok (.iinc 2 1, 3) := by decide +kernel
theorem dX9_swaps_47 : decode cX9_swaps 47 = .ok (.goto (-30), 3) := by decide +kernel
theorem dX9_swaps_50 : decode cX9_swaps 50 = .ok (.iconst 0, 1) := by decide +kernel
theorem dX9_swaps_51 : decode cX9_swaps 51 = .ok (.istore_n 2, 1) := by decide +kernel
theorem dX9_swaps_52 : decode cX9_swaps 52 = .ok (.aload_n 0, 1) := by decide +kernel
theorem dX9_swaps_53 : decode cX9_swaps 53 = .ok (.invokevirtual 249, 3) := by decide +kernel
theorem dX9_swaps_56 : decode cX9_swaps 56 = .ok (.ifCond .eq 9, 3) := by decide +kernel
theorem dX9_swaps_59 : decode cX9_swaps 59 = .ok (.iinc 2 1, 3) := by decide +kernel
theorem dX9_swaps_62 : decode cX9_swaps 62 = .ok (.goto (-10), 3) := by decide +kernel
theorem dX9_swaps_65 : decode cX9_swaps 65 = .ok (.iload_n 1, 1) := by decide +kernel
theorem dX9_swaps_66 : decode cX9_swaps 66 = .ok (.ifCond .ge 7, 3) := by decide +kernel
theorem dX9_swaps_69 : decode cX9_swaps 69 = .ok (.iload_n 2, 1) := by decide +kernel
theorem dX9_swaps_70 : decode cX9_swaps 70 = .ok (.goto 9, 3) := by decide +kernel
theorem dX9_swaps_73 : decode cX9_swaps 73 = .ok (.aload_n 0, 1) := by decide +kernel
theorem dX9_swaps_74 : decode cX9_swaps 74 = .ok (.getfield 74, 3) := by decide +kernel
theorem dX9_swaps_77 : decode cX9_swaps 77 = .ok (.iload_n 1, 1) := by decide +kernel
theorem dX9_swaps_78 : decode cX9_swaps 78 = .ok (.iaload, 1) := by decide +kernel
theorem dX9_swaps_79 : decode cX9_swaps 79 = .ok (.ireturn, 1) := by decide +kernel
theorem dX9_gift_0 : decode cX9_gift 0 = .ok (.aload_n 0, 1) := by decide +kernel
theorem dX9_gift_1 : decode cX9_gift 1 = .ok (.iload_n 1, 1) := by decide +kernel
theorem dX9_gift_2 : decode cX9_gift 2 = .ok (.invokevirtual 168, 3) := by decide +kernel
theorem dX9_gift_5 : decode cX9_gift 5 = .ok (.ifCond .ne 5, 3) := by decide +kernel
theorem dX9_gift_8 : decode cX9_gift 8 = .ok (.iconst (-1), 1) := by decide +kernel
theorem dX9_gift_9 : decode cX9_gift 9 = .ok (.ireturn, 1) := by decide +kernel
theorem dX9_gift_10 : decode cX9_gift 10 = .ok (.aload_n 0, 1) := by decide +kernel
theorem dX9_gift_11 : decode cX9_gift 11 = .ok (.getfield 49, 3) := by decide +kernel
theorem dX9_gift_14 : decode cX9_gift 14 = .ok (.iconst 0, 1) := by decide +kernel
theorem dX9_gift_15 : decode cX9_gift 15 = .ok (.iaload, 1) := by decide +kernel
theorem dX9_gift_16 : decode cX9_gift 16 = .ok (.bipush 10, 2) := by decide +kernel
theorem dX9_gift_18 : decode cX9_gift 18 = .ok (.if_icmp .ne 6, 3) := by decide +kernel
theorem dX9_gift_21 : decode cX9_gift 21 = .ok (.bipush (-3), 2) := by decide +kernel
theorem dX9_gift_23 : decode cX9_gift 23 = .ok (.ireturn, 1) := by decide +kernel
theorem dX9_gift_24 : decode cX9_gift 24 = .ok (.aload_n 0, 1) := by decide +kernel
theorem dX9_gift_25 : decode cX9_gift 25 = .ok (.getfield 52, 3) := by decide +kernel
theorem dX9_gift_28 : decode cX9_gift 28 = .ok (.aload_n 0, 1) := by decide +kernel
theorem dX9_gift_29 : decode cX9_gift 29 = .ok (.getfield 49, 3) := by decide +kernel
theorem dX9_gift_32 : decode cX9_gift 32 = .ok (.iconst 0, 1) := by decide +kernel
theorem dX9_gift_33 : decode cX9_gift 33 = .ok (.iaload, 1) := by decide +kernel
theorem dX9_gift_34 : decode cX9_gift 34 = .ok (.iload_n 1, 1) := by decide +kernel
theorem dX9_gift_35 : decode cX9_gift 35 = .ok (.iastore, 1) := by decide +kernel
theorem dX9_gift_36 : decode cX9_gift 36 = .ok (.aload_n 0, 1) := by decide +kernel
theorem dX9_gift_37 : decode cX9_gift 37 = .ok (.getfield 49, 3) := by decide +kernel
theorem dX9_gift_40 : decode cX9_gift 40 = .ok (.iconst 0, 1) := by decide +kernel
theorem dX9_gift_41 : decode cX9_gift 41 = .ok (.dup2, 1) := by decide +kernel
theorem dX9_gift_42 : decode cX9_gift 42 = .ok (.iaload, 1) := by decide +kernel
theorem dX9_gift_43 : decode cX9_gift 43 = .ok (.iconst 1, 1) := by decide +kernel
theorem dX9_gift_44 : decode cX9_gift 44 = .ok (.iadd, 1) := by decide +kernel
theorem dX9_gift_45 : decode cX9_gift 45 = .ok (.iastore, 1) := by decide +kernel
theorem dX9_gift_46 : decode cX9_gift 46 = .ok (.aload_n 0, 1) := by decide +kernel
theorem dX9_gift_47 : decode cX9_gift 47 = .ok (.getfield 49, 3) := by decide +kernel
theorem dX9_gift_50 : decode cX9_gift 50 = .ok (.iconst 0, 1) := by decide +kernel
theorem dX9_gift_51 : decode cX9_gift 51 = .ok (.iaload, 1) := by decide +kernel
theorem dX9_gift_52 : decode cX9_gift 52 = .ok (.ireturn, 1) := by decide +kernel
theorem dX9_noGifts_0 : decode cX9_noGifts 0 = .ok (.aload_n 0, 1) := by decide +kernel
theorem dX9_noGifts_1 : decode cX9_noGifts 1 = .ok (.getfield 49, 3) := by decide +kernel
theorem dX9_noGifts_4 : decode cX9_noGifts 4 = .ok (.iconst 0, 1) := by decide +kernel
theorem dX9_noGifts_5 : decode cX9_noGifts 5 = .ok (.iaload, 1) := by decide +kernel
theorem dX9_noGifts_6 : decode cX9_noGifts 6 = .ok (.istore_n 1, 1) := by decide +kernel
theorem dX9_noGifts_7 : decode cX9_noGifts 7 = .ok (.aload_n 0, 1) := by decide +kernel
theorem dX9_noGifts_8 : decode cX9_noGifts 8 = .ok (.getfield 49, 3) := by decide +kernel
theorem dX9_noGifts_11 : decode cX9_noGifts 11 = .ok (.iconst 0, 1) := by decide +kernel
theorem dX9_noGifts_12 : decode cX9_noGifts 12 = .ok (.iconst 0, 1) := by decide +kernel
theorem dX9_noGifts_13 : decode cX9_noGifts 13 = .ok (.iastore, 1) := by decide +kernel
theorem dX9_noGifts_14 : decode cX9_noGifts 14 = .ok (.iload_n 1, 1) := by decide +kernel
theorem dX9_noGifts_15 : decode cX9_noGifts 15 = .ok (.ireturn, 1) := by decide +kernel
theorem dX9_layRows_0 : decode cX9_layRows 0 = .ok (.aload_n 0, 1) := by decide +kernel
theorem dX9_layRows_1 : decode cX9_layRows 1 = .ok (.getfield 49, 3) := by decide +kernel
theorem dX9_layRows_4 : decode cX9_layRows 4 = .ok (.iconst 0, 1) := by decide +kernel
theorem dX9_layRows_5 : decode cX9_layRows 5 = .ok (.iaload, 1) := by decide +kernel
theorem dX9_layRows_6 : decode cX9_layRows 6 = .ok (.istore_n 3, 1) := by decide +kernel
theorem dX9_layRows_7 : decode cX9_layRows 7 = .ok (.iload_n 3, 1) := by decide +kernel
theorem dX9_layRows_8 : decode cX9_layRows 8 = .ok (.ifCond .lt 291, 3) := by decide +kernel
theorem dX9_layRows_11 : decode cX9_layRows 11 = .ok (.iconst 0, 1) := by decide +kernel
theorem dX9_layRows_12 : decode cX9_layRows 12 = .ok (.istore 4, 2) := by decide +kernel
theorem dX9_layRows_14 : decode cX9_layRows 14 = .ok (.iload 4, 2) := by decide +kernel
theorem dX9_layRows_16 : decode cX9_layRows 16 = .ok (.bipush 64, 2) := by decide +kernel
theorem dX9_layRows_18 : decode cX9_layRows 18 = .ok (.if_icmp .ge 275, 3) := by decide +kernel
theorem dX9_layRows_21 : decode cX9_layRows 21 = .ok (.iload_n 3, 1) := by decide +kernel
theorem dX9_layRows_22 : decode cX9_layRows 22 = .ok (.aload_n 0, 1) := by decide +kernel
theorem dX9_layRows_23 : decode cX9_layRows 23 = .ok (.getfield 49, 3) := by decide +kernel
theorem dX9_layRows_26 : decode cX9_layRows 26 = .ok (.iconst 0, 1) := by decide +kernel
theorem dX9_layRows_27 : decode cX9_layRows 27 = .ok (.iaload, 1) := by decide +kernel
theorem dX9_layRows_28 : decode cX9_layRows 28 = .ok (.if_icmp .ne 7, 3) := by decide +kernel
theorem dX9_layRows_31 : decode cX9_layRows 31 = .ok (.lconst 1, 1) := by decide +kernel
theorem dX9_layRows_32 : decode cX9_layRows 32 = .ok (.goto 4, 3) := by decide +kernel
theorem dX9_layRows_35 : decode cX9_layRows 35 = .ok (.lconst 0, 1) := by decide +kernel
theorem dX9_layRows_36 : decode cX9_layRows 36 = .ok (.lstore 5, 2) := by decide +kernel
theorem dX9_layRows_38 : decode cX9_layRows 38 = .ok (.lload 5, 2) := by decide +kernel
theorem dX9_layRows_40 : decode cX9_layRows 40 = .ok (.lstore 7, 2) := by decide +kernel
theorem dX9_layRows_42 : decode cX9_layRows 42 = .ok (.lload 5, 2) := by decide +kernel
theorem dX9_layRows_44 : decode cX9_layRows 44 = .ok (.lstore 9, 2) := by decide +kernel
theorem dX9_layRows_46 : decode cX9_layRows 46 = .ok (.iconst 0, 1) := by decide +kernel
theorem dX9_layRows_47 : decode cX9_layRows 47 = .ok (.istore 11, 2) := by decide +kernel
theorem dX9_layRows_49 : decode cX9_layRows 49 = .ok (.iload 11, 2) := by decide +kernel
theorem dX9_layRows_51 : decode cX9_layRows 51 = .ok (.aload_n 0, 1) := by decide +kernel
theorem dX9_layRows_52 : decode cX9_layRows 52 = .ok (.getfield 13, 3) := by decide +kernel
theorem dX9_layRows_55 : decode cX9_layRows 55 = .ok (.iconst 0, 1) := by decide +kernel
theorem dX9_layRows_56 : decode cX9_layRows 56 = .ok (.iaload, 1) := by decide +kernel
theorem dX9_layRows_57 : decode cX9_layRows 57 = .ok (.if_icmp .ge 188, 3) := by decide +kernel
theorem dX9_layRows_60 : decode cX9_layRows 60 = .ok (.iload_n 3, 1) := by decide +kernel
theorem dX9_layRows_61 : decode cX9_layRows 61 = .ok (.aload_n 0, 1) := by decide +kernel
theorem dX9_layRows_62 : decode cX9_layRows 62 = .ok (.getfield 49, 3) := by decide +kernel
theorem dX9_layRows_65 : decode cX9_layRows 65 = .ok (.iconst 0, 1) := by decide +kernel
theorem dX9_layRows_66 : decode cX9_layRows 66 = .ok (.iaload, 1) := by decide +kernel
theorem dX9_layRows_67 : decode cX9_layRows 67 = .ok (.if_icmp .ge 178, 3) := by decide +kernel
theorem dX9_layRows_70 : decode cX9_layRows 70 = .ok (.aload_n 0, 1) := by decide +kernel
theorem dX9_layRows_71 : decode cX9_layRows 71 = .ok (.getfield 34, 3) := by decide +kernel
theorem dX9_layRows_74 : decode cX9_layRows 74 = .ok (.iload 11, 2) := by decide +kernel
theorem dX9_layRows_76 : decode cX9_layRows 76 = .ok (.iaload, 1) := by decide +kernel
theorem dX9_layRows_77 : decode cX9_layRows 77 = .ok (.ifCond .le 43, 3) := by decide +kernel
theorem dX9_layRows_80 : decode cX9_layRows 80 = .ok (.aload_n 0, 1) := by decide +kernel
theorem dX9_layRows_81 : decode cX9_layRows 81 = .ok (.iload 4, 2) := by decide +kernel
theorem dX9_layRows_83 : decode cX9_layRows 83 = .ok (.bipush 8, 2) := by decide +kernel
theorem dX9_layRows_85 : decode cX9_layRows 85 = .ok (.idiv, 1) := by decide +kernel
theorem dX9_layRows_86 : decode cX9_layRows 86 = .ok (.iload 4, 2) := by decide +kernel
theorem dX9_layRows_88 : decode cX9_layRows 88 = .ok (.bipush 8, 2) := by decide +kernel
theorem dX9_layRows_90 : decode cX9_layRows 90 = .ok (.irem, 1) := by decide +kernel
theorem dX9_layRows_91 : decode cX9_layRows 91 = .ok (.iload 11, 2) := by decide +kernel
theorem dX9_layRows_93 : decode cX9_layRows 93 = .ok (.invokevirtual 197, 3) := by decide +kernel
theorem dX9_layRows_96 : decode cX9_layRows 96 = .ok (.aload_n 0, 1) := by decide +kernel
theorem dX9_layRows_97 : decode cX9_layRows 97 = .ok (.getfield 52, 3) := by decide +kernel
theorem dX9_layRows_100 : decode cX9_layRows 100 = .ok (.iload_n 3, 1) := by decide +kernel
theorem dX9_layRows_101 : decode cX9_layRows 101 = .ok (.iaload, 1) := by decide +kernel
theorem dX9_layRows_102 : decode cX9_layRows 102 = .ok (.if_icmp .ne 18, 3) := by decide +kernel
theorem dX9_layRows_105 : decode cX9_layRows 105 = .ok (.iload_n 3, 1) := by decide +kernel
theorem dX9_layRows_106 : decode cX9_layRows 106 = .ok (.iload_n 1, 1) := by decide +kernel
theorem dX9_layRows_107 : decode cX9_layRows 107 = .ok (.if_icmp .ne 9, 3) := by decide +kernel
theorem dX9_layRows_110 : decode cX9_layRows 110 = .ok (.iload 11, 2) := by decide +kernel
theorem dX9_layRows_112 : decode cX9_layRows 112 = .ok (.iload_n 2, 1) := by decide +kernel
theorem dX9_layRows_113 : decode cX9_layRows 113 = .ok (.if_icmp .ne 7, 3) := by decide +kernel
theorem dX9_layRows_116 : decode cX9_layRows 116 = .ok (.iconst 1, 1) := by decide +kernel
theorem dX9_layRows_117 : decode cX9_layRows 117 = .ok (.goto 4, 3) := by decide +kernel
theorem dX9_layRows_120 : decode cX9_layRows 120 = .ok (.iconst 0, 1) := by decide +kernel
theorem dX9_layRows_121 : decode cX9_layRows 121 = .ok (.istore 12, 2) := by decide +kernel
theorem dX9_layRows_123 : decode cX9_layRows 123 = .ok (.iload_n 3, 1) := by decide +kernel
theorem dX9_layRows_124 : decode cX9_layRows 124 = .ok (.iconst 1, 1) := by decide +kernel
theorem dX9_layRows_125 : decode cX9_layRows 125 = .ok (.iadd, 1) := by decide +kernel
theorem dX9_layRows_126 : decode cX9_layRows 126 = .ok (.iload 4, 2) := by decide +kernel
theorem dX9_layRows_128 : decode cX9_layRows 128 = .ok (.bipush 8, 2) := by decide +kernel
theorem dX9_layRows_130 : decode cX9_layRows 130 = .ok (.irem, 1) := by decide +kernel
theorem dX9_layRows_131 : decode cX9_layRows 131 = .ok (.iload 11, 2) := by decide +kernel
theorem dX9_layRows_133 : decode cX9_layRows 133 = .ok (.invokestatic 223, 3) := by decide +kernel
theorem dX9_layRows_136 : decode cX9_layRows 136 = .ok (.istore 13, 2) := by decide +kernel
theorem dX9_layRows_138 : decode cX9_layRows 138 = .ok (.lload 5, 2) := by decide +kernel
theorem dX9_layRows_140 : decode cX9_layRows 140 = .ok (.iload 12, 2) := by decide +kernel
theorem dX9_layRows_142 : decode cX9_layRows 142 = .ok (.ifCond .eq 13, 3) := by decide +kernel
theorem dX9_layRows_145 : decode cX9_layRows 145 = .ok (.aload_n 0, 1) := by decide +kernel
theorem dX9_layRows_146 : decode cX9_layRows 146 = .ok (.getfield 77, 3) := by decide +kernel
theorem dX9_layRows_149 : decode cX9_layRows 149 = .ok (.iload 13, 2) := by decide +kernel
theorem dX9_layRows_151 : decode cX9_layRows 151 = .ok (.laload, 1) := by decide +kernel
theorem dX9_layRows_152 : decode cX9_layRows 152 = .ok (.goto 4, 3) := by decide +kernel
theorem dX9_layRows_155 : decode cX9_layRows 155 = .ok (.lconst 0, 1) := by decide +kernel
theorem dX9_layRows_156 : decode cX9_layRows 156 = .ok (.ladd, 1) := by decide +kernel
theorem dX9_layRows_157 : decode cX9_layRows 157 = .ok (.lstore 5, 2) := by decide +kernel
theorem dX9_layRows_159 : decode cX9_layRows 159 = .ok (.lload 7, 2) := by decide +kernel
theorem dX9_layRows_161 : decode cX9_layRows 161 = .ok (.iload 12, 2) := by decide +kernel
theorem dX9_layRows_163 : decode cX9_layRows 163 = .ok (.ifCond .eq 22, 3) := by decide +kernel
theorem dX9_layRows_166 : decode cX9_layRows 166 = .ok (.aload_n 0, 1) := by decide +kernel
theorem dX9_layRows_167 : decode cX9_layRows 167 = .ok (.getfield 34, 3) := by decide +kernel
theorem dX9_layRows_170 : decode cX9_layRows 170 = .ok (.iload 11, 2) := by decide +kernel
theorem dX9_layRows_172 : decode cX9_layRows 172 = .ok (.iaload, 1) := by decide +kernel
theorem dX9_layRows_173 : decode cX9_layRows 173 = .ok (.i2l, 1) := by decide +kernel
theorem dX9_layRows_174 : decode cX9_layRows 174 = .ok (.aload_n 0, 1) := by decide +kernel
theorem dX9_layRows_175 : decode cX9_layRows 175 = .ok (.getfield 81, 3) := by decide +kernel
theorem dX9_layRows_178 : decode cX9_layRows 178 = .ok (.iload 13, 2) := by decide +kernel
theorem dX9_layRows_180 : decode cX9_layRows 180 = .ok (.laload, 1) := by decide +kernel
theorem dX9_layRows_181 : decode cX9_layRows 181 = .ok (.lmul, 1) := by decide +kernel
theorem dX9_layRows_182 : decode cX9_layRows 182 = .ok (.goto 4, 3) := by decide +kernel
theorem dX9_layRows_185 : decode cX9_layRows 185 = .ok (.lconst 0, 1) := by decide +kernel
theorem dX9_layRows_186 : decode cX9_layRows 186 = .ok (.ladd, 1) := by decide +kernel
theorem dX9_layRows_187 : decode cX9_layRows 187 = .ok (.lstore 7, 2) := by decide +kernel
theorem dX9_layRows_189 : decode cX9_layRows 189 = .ok (.iload 12, 2) := by decide +kernel
theorem dX9_layRows_191 : decode cX9_layRows 191 = .ok (.ifCond .eq 44, 3) := by decide +kernel
theorem dX9_layRows_194 : decode cX9_layRows 194 = .ok (.aload_n 0, 1) := by decide +kernel
theorem dX9_layRows_195 : decode cX9_layRows 195 = .ok (.getfield 34, 3) := by decide +kernel
theorem dX9_layRows_198 : decode cX9_layRows 198 = .ok (.iload 11, 2) := by decide +kernel
theorem dX9_layRows_200 : decode cX9_layRows 200 = .ok (.iaload, 1) := by decide +kernel
theorem dX9_layRows_201 : decode cX9_layRows 201 = .ok (.i2l, 1) := by decide +kernel
theorem dX9_layRows_202 : decode cX9_layRows 202 = .ok (.aload_n 0, 1) := by decide +kernel
theorem dX9_layRows_203 : decode cX9_layRows 203 = .ok (.getfield 84, 3) := by decide +kernel
theorem dX9_layRows_206 : decode cX9_layRows 206 = .ok (.iload 13, 2) := by decide +kernel
theorem dX9_layRows_208 : decode cX9_layRows 208 = .ok (.laload, 1) := by decide +kernel
theorem dX9_layRows_209 : decode cX9_layRows 209 = .ok (.lmul, 1) := by decide +kernel
theorem dX9_layRows_210 : decode cX9_layRows 210 = .ok (.lload 9, 2) := by decide +kernel
theorem dX9_layRows_212 : decode cX9_layRows 212 = .ok (.lcmp, 1) := by decide +kernel
theorem dX9_layRows_213 : decode cX9_layRows 213 = .ok (.ifCond .le 22, 3) := by decide +kernel
theorem dX9_layRows_216 : decode cX9_layRows 216 = .ok (.aload_n 0, 1) := by decide +kernel
theorem dX9_layRows_217 : decode cX9_layRows 217 = .ok (.getfield 34, 3) := by decide +kernel
theorem dX9_layRows_220 : decode cX9_layRows 220 = .ok (.iload 11, 2) := by decide +kernel
theorem dX9_layRows_222 : decode cX9_layRows 222 = .ok (.iaload, 1) := by decide +kernel
theorem dX9_layRows_223 : decode cX9_layRows 223 = .ok (.i2l, 1) := by decide +kernel
theorem dX9_layRows_224 : decode cX9_layRows 224 = .ok (.aload_n 0, 1) := by decide +kernel
theorem dX9_layRows_225 : decode cX9_layRows 225 = .ok (.getfield 84, 3) := by decide +kernel
theorem dX9_layRows_228 : decode cX9_layRows 228 = .ok (.iload 13, 2) := by decide +kernel
theorem dX9_layRows_230 : decode cX9_layRows 230 = .ok (.laload, 1) := by decide +kernel
theorem dX9_layRows_231 : decode cX9_layRows 231 = .ok (.lmul, 1) := by decide +kernel
theorem dX9_layRows_232 : decode cX9_layRows 232 = .ok (.goto 5, 3) := by decide +kernel
theorem dX9_layRows_235 : decode cX9_layRows 235 = .ok (.lload 9, 2) := by decide +kernel
theorem dX9_layRows_237 : decode cX9_layRows 237 = .ok (.lstore 9, 2) := by decide +kernel
theorem dX9_layRows_239 : decode cX9_layRows 239 = .ok (.iinc 11 1, 3) := by decide +kernel
theorem dX9_layRows_242 : decode cX9_layRows 242 = .ok (.goto (-193), 3) := by decide +kernel
theorem dX9_layRows_245 : decode cX9_layRows 245 = .ok (.aload_n 0, 1) := by decide +kernel
theorem dX9_layRows_246 : decode cX9_layRows 246 = .ok (.getfield 77, 3) := by decide +kernel
theorem dX9_layRows_249 : decode cX9_layRows 249 = .ok (.bipush 64, 2) := by decide +kernel
theorem dX9_layRows_251 : decode cX9_layRows 251 = .ok (.iload_n 3, 1) := by decide +kernel
theorem dX9_layRows_252 : decode cX9_layRows 252 = .ok (.imul, 1) := by decide +kernel
theorem dX9_layRows_253 : decode cX9_layRows 253 = .ok (.iload 4, 2) := by decide +kernel
theorem dX9_layRows_255 : decode cX9_layRows 255 = .ok (.iadd, 1) := by decide +kernel
theorem dX9_layRows_256 : decode cX9_layRows 256 = .ok (.lload 5, 2) := by decide +kernel
theorem dX9_layRows_258 : decode cX9_layRows 258 = .ok (.lastore, 1) := by decide +kernel
theorem dX9_layRows_259 : decode cX9_layRows 259 = .ok (.aload_n 0, 1) := by decide +kernel
theorem dX9_layRows_260 : decode cX9_layRows 260 = .ok (.getfield 81, 3) := by decide +kernel
theorem dX9_layRows_263 : decode cX9_layRows 263 = .ok (.bipush 64, 2) := by decide +kernel
theorem dX9_layRows_265 : decode cX9_layRows 265 = .ok (.iload_n 3, 1) := by decide +kernel
theorem dX9_layRows_266 : decode cX9_layRows 266 = .ok (.imul, 1) := by decide +kernel
theorem dX9_layRows_267 : decode cX9_layRows 267 = .ok (.iload 4, 2) := by decide +kernel
theorem dX9_layRows_269 : decode cX9_layRows 269 = .ok (.iadd, 1) := by decide +kernel
theorem dX9_layRows_270 : decode cX9_layRows 270 = .ok (.lload 7, 2) := by decide +kernel
theorem dX9_layRows_272 : decode cX9_layRows 272 = .ok (.lastore, 1) := by decide +kernel
theorem dX9_layRows_273 : decode cX9_layRows 273 = .ok (.aload_n 0, 1) := by decide +kernel
theorem dX9_layRows_274 : decode cX9_layRows 274 = .ok (.getfield 84, 3) := by decide +kernel
theorem dX9_layRows_277 : decode cX9_layRows 277 = .ok (.bipush 64, 2) := by decide +kernel
theorem dX9_layRows_279 : decode cX9_layRows 279 = .ok (.iload_n 3, 1) := by decide +kernel
theorem dX9_layRows_280 : decode cX9_layRows 280 = .ok (.imul, 1) := by decide +kernel
theorem dX9_layRows_281 : decode cX9_layRows 281 = .ok (.iload 4, 2) := by decide +kernel
theorem dX9_layRows_283 : decode cX9_layRows 283 = .ok (.iadd, 1) := by decide +kernel
theorem dX9_layRows_284 : decode cX9_layRows 284 = .ok (.lload 9, 2) := by decide +kernel
theorem dX9_layRows_286 : decode cX9_layRows 286 = .ok (.lastore, 1) := by decide +kernel
theorem dX9_layRows_287 : decode cX9_layRows 287 = .ok (.iinc 4 1, 3) := by decide +kernel
theorem dX9_layRows_290 : decode cX9_layRows 290 = .ok (.goto (-276), 3) := by decide +kernel
theorem dX9_layRows_293 : decode cX9_layRows 293 = .ok (.iinc 3 (-1), 3) := by decide +kernel
theorem dX9_layRows_296 : decode cX9_layRows 296 = .ok (.goto (-289), 3) := by decide +kernel
theorem dX9_layRows_299 : decode cX9_layRows 299 = .ok (.return_, 1) := by decide +kernel
theorem dX9_rows_0 : decode cX9_rows 0 = .ok (.iload_n 1, 1) := by decide +kernel
theorem dX9_rows_1 : decode cX9_rows 1 = .ok (.i2l, 1) := by decide +kernel
theorem dX9_rows_2 : decode cX9_rows 2 = .ok (.lconst 0, 1) := by decide +kernel
theorem dX9_rows_3 : decode cX9_rows 3 = .ok (.lconst 1, 1) := by decide +kernel
theorem dX9_rows_4 : decode cX9_rows 4 = .ok (.invokestatic 102, 3) := by decide +kernel
theorem dX9_rows_7 : decode cX9_rows 7 = .ok (.ifCond .ne 7, 3) := by decide +kernel
theorem dX9_rows_10 : decode cX9_rows 10 = .ok (.ldc2_w 236, 3) := by decide +kernel
theorem dX9_rows_13 : decode cX9_rows 13 = .ok (.lreturn, 1) := by decide +kernel
theorem dX9_rows_14 : decode cX9_rows 14 = .ok (.aload_n 0, 1) := by decide +kernel
theorem dX9_rows_15 : decode cX9_rows 15 = .ok (.invokevirtual 214, 3) := by decide +kernel
theorem dX9_rows_18 : decode cX9_rows 18 = .ok (.ifCond .ne 7, 3) := by decide +kernel
theorem dX9_rows_21 : decode cX9_rows 21 = .ok (.ldc2_w 252, 3) := by decide +kernel
theorem dX9_rows_24 : decode cX9_rows 24 = .ok (.lreturn, 1) := by decide +kernel
theorem dX9_rows_25 : decode cX9_rows 25 = .ok (.aload_n 0, 1) := by decide +kernel
theorem dX9_rows_26 : decode cX9_rows 26 = .ok (.bipush (-4), 2) := by decide +kernel
theorem dX9_rows_28 : decode cX9_rows 28 = .ok (.bipush (-4), 2) := by decide +kernel
theorem dX9_rows_30 : decode cX9_rows 30 = .ok (.invokevirtual 254, 3) := by decide +kernel
theorem dX9_rows_33 : decode cX9_rows 33 = .ok (.iconst 0, 1) := by decide +kernel
theorem dX9_rows_34 : decode cX9_rows 34 = .ok (.aload_n 0, 1) := by decide +kernel
theorem dX9_rows_35 : decode cX9_rows 35 = .ok (.iconst 1, 1) := by decide +kernel
theorem dX9_rows_36 : decode cX9_rows 36 = .ok (.invokevirtual 220, 3) := by decide +kernel
theorem dX9_rows_39 : decode cX9_rows 39 = .ok (.aload_n 0, 1) := by decide +kernel
theorem dX9_rows_40 : decode cX9_rows 40 = .ok (.iconst 0, 1) := by decide +kernel
theorem dX9_rows_41 : decode cX9_rows 41 = .ok (.invokevirtual 220, 3) := by decide +kernel
theorem dX9_rows_44 : decode cX9_rows 44 = .ok (.invokestatic 223, 3) := by decide +kernel
theorem dX9_rows_47 : decode cX9_rows 47 = .ok (.istore_n 2, 1) := by decide +kernel
theorem dX9_rows_48 : decode cX9_rows 48 = .ok (.iload_n 1, 1) := by decide +kernel
theorem dX9_rows_49 : decode cX9_rows 49 = .ok (.ifCond .ne 12, 3) := by decide +kernel
theorem dX9_rows_52 : decode cX9_rows 52 = .ok (.aload_n 0, 1) := by decide +kernel
theorem dX9_rows_53 : decode cX9_rows 53 = .ok (.getfield 77, 3) := by decide +kernel
theorem dX9_rows_56 : decode cX9_rows 56 = .ok (.iload_n 2, 1) := by decide +kernel
theorem dX9_rows_57 : decode cX9_rows 57 = .ok (.laload, 1) := by decide +kernel
theorem dX9_rows_58 : decode cX9_rows 58 = .ok (.goto 9, 3) := by decide +kernel
theorem dX9_rows_61 : decode cX9_rows 61 = .ok (.aload_n 0, 1) := by decide +kernel
theorem dX9_rows_62 : decode cX9_rows 62 = .ok (.getfield 81, 3) := by decide +kernel
theorem dX9_rows_65 : decode cX9_rows 65 = .ok (.iload_n 2, 1) := by decide +kernel
theorem dX9_rows_66 : decode cX9_rows 66 = .ok (.laload, 1) := by decide +kernel
theorem dX9_rows_67 : decode cX9_rows 67 = .ok (.lreturn, 1) := by decide +kernel
theorem dX9_common_0 : decode cX9_common 0 = .ok (.lload_n 0, 1) := by decide +kernel
theorem dX9_common_1 : decode cX9_common 1 = .ok (.lstore 4, 2) := by decide +kernel
theorem dX9_common_3 : decode cX9_common 3 = .ok (.lload_n 2, 1) := by decide +kernel
theorem dX9_common_4 : decode cX9_common 4 = .ok (.lstore 6, 2) := by decide +kernel
theorem dX9_common_6 : decode cX9_common 6 = .ok (.lload 6, 2) := by decide +kernel
theorem dX9_common_8 : decode cX9_common 8 = .ok (.lconst 0, 1) := by decide +kernel
theorem dX9_common_9 : decode cX9_common 9 = .ok (.lcmp, 1) := by decide +kernel
theorem dX9_common_10 : decode cX9_common 10 = .ok (.ifCond .eq 21, 3) := by decide +kernel
theorem dX9_common_13 : decode cX9_common 13 = .ok (.lload 4, 2) := by decide +kernel
theorem dX9_common_15 : decode cX9_common 15 = .ok (.lload 6, 2) := by decide +kernel
theorem dX9_common_17 : decode cX9_common 17 = .ok (.lrem, 1) := by decide +kernel
theorem dX9_common_18 : decode cX9_common 18 = .ok (.lstore 8, 2) := by decide +kernel
theorem dX9_common_20 : decode cX9_common 20 = .ok (.lload 6, 2) := by decide +kernel
theorem dX9_common_22 : decode cX9_common 22 = .ok (.lstore 4, 2) := by decide +kernel
theorem dX9_common_24 : decode cX9_common 24 = .ok (.lload 8, 2) := by decide +kernel
theorem dX9_common_26 : decode cX9_common 26 = .ok (.lstore 6, 2) := by decide +kernel
theorem dX9_common_28 : decode cX9_common 28 = .ok (.goto (-22), 3) := by decide +kernel
theorem dX9_common_31 : decode cX9_common 31 = .ok (.lload 4, 2) := by decide +kernel
theorem dX9_common_33 : decode cX9_common 33 = .ok (.lreturn, 1) := by decide +kernel
theorem dX9_odds_0 : decode cX9_odds 0 = .ok (.iload_n 1, 1) := by decide +kernel
theorem dX9_odds_1 : decode cX9_odds 1 = .ok (.i2l, 1) := by decide +kernel
theorem dX9_odds_2 : decode cX9_odds 2 = .ok (.lconst 0, 1) := by decide +kernel
theorem dX9_odds_3 : decode cX9_odds 3 = .ok (.aload_n 0, 1) := by decide +kernel
theorem dX9_odds_4 : decode cX9_odds 4 = .ok (.getfield 49, 3) := by decide +kernel
theorem dX9_odds_7 : decode cX9_odds 7 = .ok (.iconst 0, 1) := by decide +kernel
theorem dX9_odds_8 : decode cX9_odds 8 = .ok (.iaload, 1) := by decide +kernel
theorem dX9_odds_9 : decode cX9_odds 9 = .ok (.iconst 1, 1) := by decide +kernel
theorem dX9_odds_10 : decode cX9_odds 10 = .ok (.isub, 1) := by decide +kernel
theorem dX9_odds_11 : decode cX9_odds 11 = .ok (.i2l, 1) := by decide +kernel
theorem dX9_odds_12 : decode cX9_odds 12 = .ok (.invokestatic 102, 3) := by decide +kernel
theorem dX9_odds_15 : decode cX9_odds 15 = .ok (.ifCond .eq 21, 3) := by decide +kernel
theorem dX9_odds_18 : decode cX9_odds 18 = .ok (.aload_n 0, 1) := by decide +kernel
theorem dX9_odds_19 : decode cX9_odds 19 = .ok (.iload_n 2, 1) := by decide +kernel
theorem dX9_odds_20 : decode cX9_odds 20 = .ok (.invokevirtual 165, 3) := by decide +kernel
theorem dX9_odds_23 : decode cX9_odds 23 = .ok (.ifCond .eq 13, 3) := by decide +kernel
theorem dX9_odds_26 : decode cX9_odds 26 = .ok (.iload_n 3, 1) := by decide +kernel
theorem dX9_odds_27 : decode cX9_odds 27 = .ok (.i2l, 1) := by decide +kernel
theorem dX9_odds_28 : decode cX9_odds 28 = .ok (.lconst 0, 1) := by decide +kernel
theorem dX9_odds_29 : decode cX9_odds 29 = .ok (.lconst 1, 1) := by decide +kernel
theorem dX9_odds_30 : decode cX9_odds 30 = .ok (.invokestatic 102, 3) := by decide +kernel
theorem dX9_odds_33 : decode cX9_odds 33 = .ok (.ifCond .ne 7, 3) := by decide +kernel
theorem dX9_odds_36 : decode cX9_odds 36 = .ok (.ldc2_w 236, 3) := by decide +kernel
theorem dX9_odds_39 : decode cX9_odds 39 = .ok (.lreturn, 1) := by decide +kernel
theorem dX9_odds_40 : decode cX9_odds 40 = .ok (.aload_n 0, 1) := by decide +kernel
theorem dX9_odds_41 : decode cX9_odds 41 = .ok (.invokevirtual 214, 3) := by decide +kernel
theorem dX9_odds_44 : decode cX9_odds 44 = .ok (.ifCond .ne 7, 3) := by decide +kernel
theorem dX9_odds_47 : decode cX9_odds 47 = .ok (.ldc2_w 252, 3) := by decide +kernel
theorem dX9_odds_50 : decode cX9_odds 50 = .ok (.lreturn, 1) := by decide +kernel
theorem dX9_odds_51 : decode cX9_odds 51 = .ok (.iconst 0, 1) := by decide +kernel
theorem dX9_odds_52 : decode cX9_odds 52 = .ok (.aload_n 0, 1) := by decide +kernel
theorem dX9_odds_53 : decode cX9_odds 53 = .ok (.iconst 1, 1) := by decide +kernel
theorem dX9_odds_54 : decode cX9_odds 54 = .ok (.invokevirtual 220, 3) := by decide +kernel
theorem dX9_odds_57 : decode cX9_odds 57 = .ok (.aload_n 0, 1) := by decide +kernel
theorem dX9_odds_58 : decode cX9_odds 58 = .ok (.iconst 0, 1) := by decide +kernel
theorem dX9_odds_59 : decode cX9_odds 59 = .ok (.invokevirtual 220, 3) := by decide +kernel
theorem dX9_odds_62 : decode cX9_odds 62 = .ok (.invokestatic 223, 3) := by decide +kernel
theorem dX9_odds_65 : decode cX9_odds 65 = .ok (.istore 4, 2) := by decide +kernel
theorem dX9_odds_67 : decode cX9_odds 67 = .ok (.aload_n 0, 1) := by decide +kernel
theorem dX9_odds_68 : decode cX9_odds 68 = .ok (.iload_n 1, 1) := by decide +kernel
theorem dX9_odds_69 : decode cX9_odds 69 = .ok (.iload_n 2, 1) := by decide +kernel
theorem dX9_odds_70 : decode cX9_odds 70 = .ok (.invokevirtual 254, 3) := by decide +kernel
theorem dX9_odds_73 : decode cX9_odds 73 = .ok (.aload_n 0, 1) := by decide +kernel
theorem dX9_odds_74 : decode cX9_odds 74 = .ok (.getfield 81, 3) := by decide +kernel
theorem dX9_odds_77 : decode cX9_odds 77 = .ok (.iload 4, 2) := by decide +kernel
theorem dX9_odds_79 : decode cX9_odds 79 = .ok (.laload, 1) := by decide +kernel
theorem dX9_odds_80 : decode cX9_odds 80 = .ok (.lstore 5, 2) := by decide +kernel
theorem dX9_odds_82 : decode cX9_odds 82 = .ok (.aload_n 0, 1) := by decide +kernel
theorem dX9_odds_83 : decode cX9_odds 83 = .ok (.bipush (-4), 2) := by decide +kernel
theorem dX9_odds_85 : decode cX9_odds 85 = .ok (.bipush (-4), 2) := by decide +kernel
theorem dX9_odds_87 : decode cX9_odds 87 = .ok (.invokevirtual 254, 3) := by decide +kernel
theorem dX9_odds_90 : decode cX9_odds 90 = .ok (.aload_n 0, 1) := by decide +kernel
theorem dX9_odds_91 : decode cX9_odds 91 = .ok (.getfield 81, 3) := by decide +kernel
theorem dX9_odds_94 : decode cX9_odds 94 = .ok (.iload 4, 2) := by decide +kernel
theorem dX9_odds_96 : decode cX9_odds 96 = .ok (.laload, 1) := by decide +kernel
theorem dX9_odds_97 : decode cX9_odds 97 = .ok (.lstore 7, 2) := by decide +kernel
theorem dX9_odds_99 : decode cX9_odds 99 = .ok (.lload 7, 2) := by decide +kernel
theorem dX9_odds_101 : decode cX9_odds 101 = .ok (.lconst 0, 1) := by decide +kernel
theorem dX9_odds_102 : decode cX9_odds 102 = .ok (.lcmp, 1) := by decide +kernel
theorem dX9_odds_103 : decode cX9_odds 103 = .ok (.ifCond .ne 7, 3) := by decide +kernel
theorem dX9_odds_106 : decode cX9_odds 106 = .ok (.ldc2_w 258, 3) := by decide +kernel
theorem dX9_odds_109 : decode cX9_odds 109 = .ok (.lreturn, 1) := by decide +kernel
theorem dX9_odds_110 : decode cX9_odds 110 = .ok (.lload 5, 2) := by decide +kernel
theorem dX9_odds_112 : decode cX9_odds 112 = .ok (.lload 7, 2) := by decide +kernel
theorem dX9_odds_114 : decode cX9_odds 114 = .ok (.invokestatic 260, 3) := by decide +kernel
theorem dX9_odds_117 : decode cX9_odds 117 = .ok (.lstore 9, 2) := by decide +kernel
theorem dX9_odds_119 : decode cX9_odds 119 = .ok (.iload_n 3, 1) := by decide +kernel
theorem dX9_odds_120 : decode cX9_odds 120 = .ok (.ifCond .ne 11, 3) := by decide +kernel
theorem dX9_odds_123 : decode cX9_odds 123 = .ok (.lload 5, 2) := by decide +kernel
theorem dX9_odds_125 : decode cX9_odds 125 = .ok (.lload 9, 2) := by decide +kernel
theorem dX9_odds_127 : decode cX9_odds 127 = .ok (.ldiv, 1) := by decide +kernel
theorem dX9_odds_128 : decode cX9_odds 128 = .ok (.goto 8, 3) := by decide +kernel
theorem dX9_odds_131 : decode cX9_odds 131 = .ok (.lload 7, 2) := by decide +kernel
theorem dX9_odds_133 : decode cX9_odds 133 = .ok (.lload 9, 2) := by decide +kernel
theorem dX9_odds_135 : decode cX9_odds 135 = .ok (.ldiv, 1) := by decide +kernel
theorem dX9_odds_136 : decode cX9_odds 136 = .ok (.lreturn, 1) := by decide +kernel
theorem dX9_likeliest_0 : decode cX9_likeliest 0 = .ok (.iload_n 1, 1) := by decide +kernel
theorem dX9_likeliest_1 : decode cX9_likeliest 1 = .ok (.i2l, 1) := by decide +kernel
theorem dX9_likeliest_2 : decode cX9_likeliest 2 = .ok (.lconst 0, 1) := by decide +kernel
theorem dX9_likeliest_3 : decode cX9_likeliest 3 = .ok (.aload_n 0, 1) := by decide +kernel
theorem dX9_likeliest_4 : decode cX9_likeliest 4 = .ok (.getfield 49, 3) := by decide +kernel
theorem dX9_likeliest_7 : decode cX9_likeliest 7 = .ok (.iconst 0, 1) := by decide +kernel
theorem dX9_likeliest_8 : decode cX9_likeliest 8 = .ok (.iaload, 1) := by decide +kernel
theorem dX9_likeliest_9 : decode cX9_likeliest 9 = .ok (.iconst 1, 1) := by decide +kernel
theorem dX9_likeliest_10 : decode cX9_likeliest 10 = .ok (.isub, 1) := by decide +kernel
theorem dX9_likeliest_11 : decode cX9_likeliest 11 = .ok (.i2l, 1) := by decide +kernel
theorem dX9_likeliest_12 : decode cX9_likeliest 12 = .ok (.invokestatic 102, 3) := by decide +kernel
theorem dX9_likeliest_15 : decode cX9_likeliest 15 = .ok (.ifCond .ne 5, 3) := by decide +kernel
theorem dX9_likeliest_18 : decode cX9_likeliest 18 = .ok (.iconst (-1), 1) := by decide +kernel
theorem dX9_likeliest_19 : decode cX9_likeliest 19 = .ok (.ireturn, 1) := by decide +kernel
theorem dX9_likeliest_20 : decode cX9_likeliest 20 = .ok (.aload_n 0, 1) := by decide +kernel
theorem dX9_likeliest_21 : decode cX9_likeliest 21 = .ok (.invokevirtual 214, 3) := by decide +kernel
theorem dX9_likeliest_24 : decode cX9_likeliest 24 = .ok (.ifCond .ne 6, 3) := by decide +kernel
theorem dX9_likeliest_27 : decode cX9_likeliest 27 = .ok (.bipush (-2), 2) := by decide +kernel
theorem dX9_likeliest_29 : decode cX9_likeliest 29 = .ok (.ireturn, 1) := by decide +kernel
theorem dX9_likeliest_30 : decode cX9_likeliest 30 = .ok (.aload_n 0, 1) := by decide +kernel
theorem dX9_likeliest_31 : decode cX9_likeliest 31 = .ok (.bipush (-4), 2) := by decide +kernel
theorem dX9_likeliest_33 : decode cX9_likeliest 33 = .ok (.bipush (-4), 2) := by decide +kernel
theorem dX9_likeliest_35 : decode cX9_likeliest 35 = .ok (.invokevirtual 254, 3) := by decide +kernel
theorem dX9_likeliest_38 : decode cX9_likeliest 38 = .ok (.aload_n 0, 1) := by decide +kernel
theorem dX9_likeliest_39 : decode cX9_likeliest 39 = .ok (.iconst 1, 1) := by decide +kernel
theorem dX9_likeliest_40 : decode cX9_likeliest 40 = .ok (.invokevirtual 220, 3) := by decide +kernel
theorem dX9_likeliest_43 : decode cX9_likeliest 43 = .ok (.istore_n 2, 1) := by decide +kernel
theorem dX9_likeliest_44 : decode cX9_likeliest 44 = .ok (.aload_n 0, 1) := by decide +kernel
theorem dX9_likeliest_45 : decode cX9_likeliest 45 = .ok (.iconst 0, 1) := by decide +kernel
theorem dX9_likeliest_46 : decode cX9_likeliest 46 = .ok (.invokevirtual 220, 3) := by decide +kernel
theorem dX9_likeliest_49 : decode cX9_likeliest 49 = .ok (.istore_n 3, 1) := by decide +kernel
theorem dX9_likeliest_50 : decode cX9_likeliest 50 = .ok (.aload_n 0, 1) := by decide +kernel
theorem dX9_likeliest_51 : decode cX9_likeliest 51 = .ok (.getfield 77, 3) := by decide +kernel
theorem dX9_likeliest_54 : decode cX9_likeliest 54 = .ok (.iconst 0, 1) := by decide +kernel
theorem dX9_likeliest_55 : decode cX9_likeliest 55 = .ok (.iload_n 2, 1) := by decide +kernel
theorem dX9_likeliest_56 : decode cX9_likeliest 56 = .ok (.iload_n 3, 1) := by decide +kernel
theorem dX9_likeliest_57 : decode cX9_likeliest 57 = .ok (.invokestatic 223, 3) := by decide +kernel
theorem dX9_likeliest_60 : decode cX9_likeliest 60 = .ok (.laload, 1) := by decide +kernel
theorem dX9_likeliest_61 : decode cX9_likeliest 61 = .ok (.lconst 0, 1) := by decide +kernel
theorem dX9_likeliest_62 : decode cX9_likeliest 62 = .ok (.lcmp, 1) := by decide +kernel
theorem dX9_likeliest_63 : decode cX9_likeliest 63 = .ok (.ifCond .ne 6, 3) := by decide +kernel
theorem dX9_likeliest_66 : decode cX9_likeliest 66 = .ok (.bipush (-4), 2) := by decide +kernel
theorem dX9_likeliest_68 : decode cX9_likeliest 68 = .ok (.ireturn, 1) := by decide +kernel
theorem dX9_likeliest_69 : decode cX9_likeliest 69 = .ok (.iconst 0, 1) := by decide +kernel
theorem dX9_likeliest_70 : decode cX9_likeliest 70 = .ok (.istore 4, 2) := by decide +kernel
theorem dX9_likeliest_72 : decode cX9_likeliest 72 = .ok (.iconst 0, 1) := by decide +kernel
theorem dX9_likeliest_73 : decode cX9_likeliest 73 = .ok (.istore 5, 2) := by decide +kernel
theorem dX9_likeliest_75 : decode cX9_likeliest 75 = .ok (.iload 5, 2) := by decide +kernel
theorem dX9_likeliest_77 : decode cX9_likeliest 77 = .ok (.iload_n 1, 1) := by decide +kernel
theorem dX9_likeliest_78 : decode cX9_likeliest 78 = .ok (.if_icmp .gt 95, 3) := by decide +kernel
theorem dX9_likeliest_81 : decode cX9_likeliest 81 = .ok (.aload_n 0, 1) := by decide +kernel
theorem dX9_likeliest_82 : decode cX9_likeliest 82 = .ok (.getfield 84, 3) := by decide +kernel
theorem dX9_likeliest_85 : decode cX9_likeliest 85 = .ok (.iload 5, 2) := by decide +kernel
theorem dX9_likeliest_87 : decode cX9_likeliest 87 = .ok (.iload_n 2, 1) := by decide +kernel
theorem dX9_likeliest_88 : decode cX9_likeliest 88 = .ok (.iload_n 3, 1) := by decide +kernel
theorem dX9_likeliest_89 : decode cX9_likeliest 89 = .ok (.invokestatic 223, 3) := by decide +kernel
theorem dX9_likeliest_92 : decode cX9_likeliest 92 = .ok (.laload, 1) := by decide +kernel
theorem dX9_likeliest_93 : decode cX9_likeliest 93 = .ok (.lstore 6, 2) := by decide +kernel
theorem dX9_likeliest_95 : decode cX9_likeliest 95 = .ok (.iconst 0, 1) := by decide +kernel
theorem dX9_likeliest_96 : decode cX9_likeliest 96 = .ok (.istore 4, 2) := by decide +kernel
theorem dX9_likeliest_98 : decode cX9_likeliest 98 = .ok (.aload_n 0, 1) := by decide +kernel
theorem dX9_likeliest_99 : decode cX9_likeliest 99 = .ok (.getfield 34, 3) := by decide +kernel
theorem dX9_likeliest_102 : decode cX9_likeliest 102 = .ok (.iload 4, 2) := by decide +kernel
theorem dX9_likeliest_104 : decode cX9_likeliest 104 = .ok (.iaload, 1) := by decide +kernel
theorem dX9_likeliest_105 : decode cX9_likeliest 105 = .ok (.ifCond .eq 51, 3) := by decide +kernel
theorem dX9_likeliest_108 : decode cX9_likeliest 108 = .ok (.aload_n 0, 1) := by decide +kernel
theorem dX9_likeliest_109 : decode cX9_likeliest 109 = .ok (.iload_n 2, 1) := by decide +kernel
theorem dX9_likeliest_110 : decode cX9_likeliest 110 = .ok (.iload_n 3, 1) := by decide +kernel
theorem dX9_likeliest_111 : decode cX9_likeliest 111 = .ok (.iload 4, 2) := by decide +kernel
theorem dX9_likeliest_113 : decode cX9_likeliest 113 = .ok (.invokevirtual 197, 3) := by decide +kernel
theorem dX9_likeliest_116 : decode cX9_likeliest 116 = .ok (.aload_n 0, 1) := by decide +kernel
theorem dX9_likeliest_117 : decode cX9_likeliest 117 = .ok (.getfield 52, 3) := by decide +kernel
theorem dX9_likeliest_120 : decode cX9_likeliest 120 = .ok (.iload 5, 2) := by decide +kernel
theorem dX9_likeliest_122 : decode cX9_likeliest 122 = .ok (.iaload, 1) := by decide +kernel
theorem dX9_likeliest_123 : decode cX9_likeliest 123 = .ok (.if_icmp .ne 33, 3) := by decide +kernel
theorem dX9_likeliest_126 : decode cX9_likeliest 126 = .ok (.aload_n 0, 1) := by decide +kernel
theorem dX9_likeliest_127 : decode cX9_likeliest 127 = .ok (.getfield 34, 3) := by decide +kernel
theorem dX9_likeliest_130 : decode cX9_likeliest 130 = .ok (.iload 4, 2) := by decide +kernel
theorem dX9_likeliest_132 : decode cX9_likeliest 132 = .ok (.iaload, 1) := by decide +kernel
theorem dX9_likeliest_133 : decode cX9_likeliest 133 = .ok (.i2l, 1) := by decide +kernel
theorem dX9_likeliest_134 : decode cX9_likeliest 134 = .ok (.aload_n 0, 1) := by decide +kernel
theorem dX9_likeliest_135 : decode cX9_likeliest 135 = .ok (.getfield 84, 3) := by decide +kernel
theorem dX9_likeliest_138 : decode cX9_likeliest 138 = .ok (.iload 5, 2) := by decide +kernel
theorem dX9_likeliest_140 : decode cX9_likeliest 140 = .ok (.iconst 1, 1) := by decide +kernel
theorem dX9_likeliest_141 : decode cX9_likeliest 141 = .ok (.iadd, 1) := by decide +kernel
theorem dX9_likeliest_142 : decode cX9_likeliest 142 = .ok (.iload_n 3, 1) := by decide +kernel
theorem dX9_likeliest_143 : decode cX9_likeliest 143 = .ok (.iload 4, 2) := by decide +kernel
theorem dX9_likeliest_145 : decode cX9_likeliest 145 = .ok (.invokestatic 223, 3) := by decide +kernel
theorem dX9_likeliest_148 : decode cX9_likeliest 148 = .ok (.laload, 1) := by decide +kernel
theorem dX9_likeliest_149 : decode cX9_likeliest 149 = .ok (.lmul, 1) := by decide +kernel
theorem dX9_likeliest_150 : decode cX9_likeliest 150 = .ok (.lload 6, 2) := by decide +kernel
theorem dX9_likeliest_152 : decode cX9_likeliest 152 = .ok (.lcmp, 1) := by decide +kernel
theorem dX9_likeliest_153 : decode cX9_likeliest 153 = .ok (.ifCond .eq 9, 3) := by decide +kernel
theorem dX9_likeliest_156 : decode cX9_likeliest 156 = .ok (.iinc 4 1, 3) := by decide +kernel
theorem dX9_likeliest_159 : decode cX9_likeliest 159 = .ok (.goto (-61), 3) := by decide +kernel
theorem dX9_likeliest_162 : decode cX9_likeliest 162 = .ok (.iload_n 3, 1) := by decide +kernel
theorem dX9_likeliest_163 : decode cX9_likeliest 163 = .ok (.istore_n 2, 1) := by decide +kernel
theorem dX9_likeliest_164 : decode cX9_likeliest 164 = .ok (.iload 4, 2) := by decide +kernel
theorem dX9_likeliest_166 : decode cX9_likeliest 166 = .ok (.istore_n 3, 1) := by decide +kernel
theorem dX9_likeliest_167 : decode cX9_likeliest 167 = .ok (.iinc 5 1, 3) := by decide +kernel
theorem dX9_likeliest_170 : decode cX9_likeliest 170 = .ok (.goto (-95), 3) := by decide +kernel
theorem dX9_likeliest_173 : decode cX9_likeliest 173 = .ok (.iload 4, 2) := by decide +kernel
theorem dX9_likeliest_175 : decode cX9_likeliest 175 = .ok (.ireturn, 1) := by decide +kernel
theorem dX9_isPost_0 : decode cX9_isPost 0 = .ok (.iload_n 1, 1) := by decide +kernel
theorem dX9_isPost_1 : decode cX9_isPost 1 = .ok (.i2l, 1) := by decide +kernel
theorem dX9_isPost_2 : decode cX9_isPost 2 = .ok (.lconst 0, 1) := by decide +kernel
theorem dX9_isPost_3 : decode cX9_isPost 3 = .ok (.aload_n 0, 1) := by decide +kernel
theorem dX9_isPost_4 : decode cX9_isPost 4 = .ok (.getfield 37, 3) := by decide +kernel
theorem dX9_isPost_7 : decode cX9_isPost 7 = .ok (.iconst 0, 1) := by decide +kernel
theorem dX9_isPost_8 : decode cX9_isPost 8 = .ok (.iaload, 1) := by decide +kernel
theorem dX9_isPost_9 : decode cX9_isPost 9 = .ok (.iconst 1, 1) := by decide +kernel
theorem dX9_isPost_10 : decode cX9_isPost 10 = .ok (.isub, 1) := by decide +kernel
theorem dX9_isPost_11 : decode cX9_isPost 11 = .ok (.i2l, 1) := by decide +kernel
theorem dX9_isPost_12 : decode cX9_isPost 12 = .ok (.invokestatic 102, 3) := by decide +kernel
theorem dX9_isPost_15 : decode cX9_isPost 15 = .ok (.ireturn, 1) := by decide +kernel
theorem dX9_post_0 : decode cX9_post 0 = .ok (.aload_n 0, 1) := by decide +kernel
theorem dX9_post_1 : decode cX9_post 1 = .ok (.iload_n 1, 1) := by decide +kernel
theorem dX9_post_2 : decode cX9_post 2 = .ok (.invokevirtual 264, 3) := by decide +kernel
theorem dX9_post_5 : decode cX9_post 5 = .ok (.ifCond .eq 15, 3) := by decide +kernel
theorem dX9_post_8 : decode cX9_post 8 = .ok (.iload_n 2, 1) := by decide +kernel
theorem dX9_post_9 : decode cX9_post 9 = .ok (.i2l, 1) := by decide +kernel
theorem dX9_post_10 : decode cX9_post 10 = .ok (.lconst 0, 1) := by decide +kernel
theorem dX9_post_11 : decode cX9_post 11 = .ok (.ldc2_w 123, 3) := by decide +kernel
theorem dX9_post_14 : decode cX9_post 14 = .ok (.invokestatic 102, 3) := by decide +kernel
theorem dX9_post_17 : decode cX9_post 17 = .ok (.ifCond .ne 5, 3) := by decide +kernel
theorem dX9_post_20 : decode cX9_post 20 = .ok (.iconst (-1), 1) := by decide +kernel
theorem dX9_post_21 : decode cX9_post 21 = .ok (.ireturn, 1) := by decide +kernel
theorem dX9_post_22 : decode cX9_post 22 = .ok (.iload_n 2, 1) := by decide +kernel
theorem dX9_post_23 : decode cX9_post 23 = .ok (.ifCond .ne 12, 3) := by decide +kernel
theorem dX9_post_26 : decode cX9_post 26 = .ok (.aload_n 0, 1) := by decide +kernel
theorem dX9_post_27 : decode cX9_post 27 = .ok (.getfield 40, 3) := by decide +kernel
theorem dX9_post_30 : decode cX9_post 30 = .ok (.iload_n 1, 1) := by decide +kernel
theorem dX9_post_31 : decode cX9_post 31 = .ok (.iaload, 1) := by decide +kernel
theorem dX9_post_32 : decode cX9_post 32 = .ok (.goto 15, 3) := by decide +kernel
theorem dX9_post_35 : decode cX9_post 35 = .ok (.aload_n 0, 1) := by decide +kernel
theorem dX9_post_36 : decode cX9_post 36 = .ok (.getfield 46, 3) := by decide +kernel
theorem dX9_post_39 : decode cX9_post 39 = .ok (.iconst 3, 1) := by decide +kernel
theorem dX9_post_40 : decode cX9_post 40 = .ok (.iload_n 1, 1) := by decide +kernel
theorem dX9_post_41 : decode cX9_post 41 = .ok (.imul, 1) := by decide +kernel
theorem dX9_post_42 : decode cX9_post 42 = .ok (.iload_n 2, 1) := by decide +kernel
theorem dX9_post_43 : decode cX9_post 43 = .ok (.iadd, 1) := by decide +kernel
theorem dX9_post_44 : decode cX9_post 44 = .ok (.iconst 1, 1) := by decide +kernel
theorem dX9_post_45 : decode cX9_post 45 = .ok (.isub, 1) := by decide +kernel
theorem dX9_post_46 : decode cX9_post 46 = .ok (.iaload, 1) := by decide +kernel
theorem dX9_post_47 : decode cX9_post 47 = .ok (.ireturn, 1) := by decide +kernel
theorem dX9_goRound_0 : decode cX9_goRound 0 = .ok (.iconst 0, 1) := by decide +kernel
theorem dX9_goRound_1 : decode cX9_goRound 1 = .ok (.istore_n 1, 1) := by decide +kernel
theorem dX9_goRound_2 : decode cX9_goRound 2 = .ok (.iload_n 1, 1) := by decide +kernel
theorem dX9_goRound_3 : decode cX9_goRound 3 = .ok (.aload_n 0, 1) := by decide +kernel
theorem dX9_goRound_4 : decode cX9_goRound 4 = .ok (.getfield 37, 3) := by decide +kernel
theorem dX9_goRound_7 : decode cX9_goRound 7 = .ok (.iconst 0, 1) := by decide +kernel
theorem dX9_goRound_8 : decode cX9_goRound 8 = .ok (.iaload, 1) := by decide +kernel
theorem dX9_goRound_9 : decode cX9_goRound 9 = .ok (.if_icmp .ge 25, 3) := by decide +kernel
theorem dX9_goRound_12 : decode cX9_goRound 12 = .ok (.aload_n 0, 1) := by decide +kernel
theorem dX9_goRound_13 : decode cX9_goRound 13 = .ok (.getfield 90, 3) := by decide +kernel
theorem dX9_goRound_16 : decode cX9_goRound 16 = .ok (.iload_n 1, 1) := by decide +kernel
theorem dX9_goRound_17 : decode cX9_goRound 17 = .ok (.aload_n 0, 1) := by decide +kernel
theorem dX9_goRound_18 : decode cX9_goRound 18 = .ok (.getfield 87, 3) := by decide +kernel
theorem dX9_goRound_21 : decode cX9_goRound 21 = .ok (.iconst 3, 1) := by decide +kernel
theorem dX9_goRound_22 : decode cX9_goRound 22 = .ok (.iload_n 1, 1) := by decide +kernel
theorem dX9_goRound_23 : decode cX9_goRound 23 = .ok (.imul, 1) := by decide +kernel
theorem dX9_goRound_24 : decode cX9_goRound 24 = .ok (.iconst 2, 1) := by decide +kernel
theorem dX9_goRound_25 : decode cX9_goRound 25 = .ok (.iadd, 1) := by decide +kernel
theorem dX9_goRound_26 : decode cX9_goRound 26 = .ok (.iaload, 1) := by decide +kernel
theorem dX9_goRound_27 : decode cX9_goRound 27 = .ok (.iastore, 1) := by decide +kernel
theorem dX9_goRound_28 : decode cX9_goRound 28 = .ok (.iinc 1 1, 3) := by decide +kernel
theorem dX9_goRound_31 : decode cX9_goRound 31 = .ok (.goto (-29), 3) := by decide +kernel
theorem dX9_goRound_34 : decode cX9_goRound 34 = .ok (.iconst 0, 1) := by decide +kernel
theorem dX9_goRound_35 : decode cX9_goRound 35 = .ok (.istore_n 1, 1) := by decide +kernel
theorem dX9_goRound_36 : decode cX9_goRound 36 = .ok (.iload_n 1, 1) := by decide +kernel
theorem dX9_goRound_37 : decode cX9_goRound 37 = .ok (.aload_n 0, 1) := by decide +kernel
theorem dX9_goRound_38 : decode cX9_goRound 38 = .ok (.getfield 37, 3) := by decide +kernel
theorem dX9_goRound_41 : decode cX9_goRound 41 = .ok (.iconst 0, 1) := by decide +kernel
theorem dX9_goRound_42 : decode cX9_goRound 42 = .ok (.iaload, 1) := by decide +kernel
theorem dX9_goRound_43 : decode cX9_goRound 43 = .ok (.if_icmp .ge 80, 3) := by decide +kernel
theorem dX9_goRound_46 : decode cX9_goRound 46 = .ok (.aload_n 0, 1) := by decide +kernel
theorem dX9_goRound_47 : decode cX9_goRound 47 = .ok (.getfield 87, 3) := by decide +kernel
theorem dX9_goRound_50 : decode cX9_goRound 50 = .ok (.iconst 3, 1) := by decide +kernel
theorem dX9_goRound_51 : decode cX9_goRound 51 = .ok (.iload_n 1, 1) := by decide +kernel
theorem dX9_goRound_52 : decode cX9_goRound 52 = .ok (.imul, 1) := by decide +kernel
theorem dX9_goRound_53 : decode cX9_goRound 53 = .ok (.iaload, 1) := by decide +kernel
theorem dX9_goRound_54 : decode cX9_goRound 54 = .ok (.istore_n 2, 1) := by decide +kernel
theorem dX9_goRound_55 : decode cX9_goRound 55 = .ok (.aload_n 0, 1) := by decide +kernel
theorem dX9_goRound_56 : decode cX9_goRound 56 = .ok (.getfield 87, 3) := by decide +kernel
theorem dX9_goRound_59 : decode cX9_goRound 59 = .ok (.iconst 3, 1) := by decide +kernel
theorem dX9_goRound_60 : decode cX9_goRound 60 = .ok (.iload_n 1, 1) := by decide +kernel
theorem dX9_goRound_61 : decode cX9_goRound 61 = .ok (.imul, 1) := by decide +kernel
theorem dX9_goRound_62 : decode cX9_goRound 62 = .ok (.iconst 1, 1) := by decide +kernel
theorem dX9_goRound_63 : decode cX9_goRound 63 = .ok (.iadd, 1) := by decide +kernel
theorem dX9_goRound_64 : decode cX9_goRound 64 = .ok (.iaload, 1) := by decide +kernel
theorem dX9_goRound_65 : decode cX9_goRound 65 = .ok (.istore_n 3, 1) := by decide +kernel
theorem dX9_goRound_66 : decode cX9_goRound 66 = .ok (.aload_n 0, 1) := by decide +kernel
theorem dX9_goRound_67 : decode cX9_goRound 67 = .ok (.getfield 90, 3) := by decide +kernel
theorem dX9_goRound_70 : decode cX9_goRound 70 = .ok (.aload_n 0, 1) := by decide +kernel
theorem dX9_goRound_71 : decode cX9_goRound 71 = .ok (.getfield 40, 3) := by decide +kernel
theorem dX9_goRound_74 : decode cX9_goRound 74 = .ok (.iload_n 1, 1) := by decide +kernel
theorem dX9_goRound_75 : decode cX9_goRound 75 = .ok (.iaload, 1) := by decide +kernel
theorem dX9_goRound_76 : decode cX9_goRound 76 = .ok (.iaload, 1) := by decide +kernel
theorem dX9_goRound_77 : decode cX9_goRound 77 = .ok (.istore 4, 2) := by decide +kernel
theorem dX9_goRound_79 : decode cX9_goRound 79 = .ok (.aload_n 0, 1) := by decide +kernel
theorem dX9_goRound_80 : decode cX9_goRound 80 = .ok (.getfield 87, 3) := by decide +kernel
theorem dX9_goRound_83 : decode cX9_goRound 83 = .ok (.iconst 3, 1) := by decide +kernel
theorem dX9_goRound_84 : decode cX9_goRound 84 = .ok (.iload_n 1, 1) := by decide +kernel
theorem dX9_goRound_85 : decode cX9_goRound 85 = .ok (.imul, 1) := by decide +kernel
theorem dX9_goRound_86 : decode cX9_goRound 86 = .ok (.iload_n 3, 1) := by decide +kernel
theorem dX9_goRound_87 : decode cX9_goRound 87 = .ok (.iastore, 1) := by decide +kernel
theorem dX9_goRound_88 : decode cX9_goRound 88 = .ok (.aload_n 0, 1) := by decide +kernel
theorem dX9_goRound_89 : decode cX9_goRound 89 = .ok (.getfield 87, 3) := by decide +kernel
theorem dX9_goRound_92 : decode cX9_goRound 92 = .ok (.iconst 3, 1) := by decide +kernel
theorem dX9_goRound_93 : decode cX9_goRound 93 = .ok (.iload_n 1, 1) := by decide +kernel
theorem dX9_goRound_94 : decode cX9_goRound 94 = .ok (.imul, 1) := by decide +kernel
theorem dX9_goRound_95 : decode cX9_goRound 95 = .ok (.iconst 1, 1) := by decide +kernel
theorem dX9_goRound_96 : decode cX9_goRound 96 = .ok (.iadd, 1) := by decide +kernel
theorem dX9_goRound_97 : decode cX9_goRound 97 = .ok (.iload 4, 2) := by decide +kernel
theorem dX9_goRound_99 : decode cX9_goRound 99 = .ok (.iastore, 1) := by decide +kernel
theorem dX9_goRound_100 : decode cX9_goRound 100 = .ok (.aload_n 0, 1) := by decide +kernel
theorem dX9_goRound_101 : decode cX9_goRound 101 = .ok (.getfield 87, 3) := by decide +kernel
theorem dX9_goRound_104 : decode cX9_goRound 104 = .ok (.iconst 3, 1) := by decide +kernel
theorem dX9_goRound_105 : decode cX9_goRound 105 = .ok (.iload_n 1, 1) := by decide +kernel
theorem dX9_goRound_106 : decode cX9_goRound 106 = .ok (.imul, 1) := by decide +kernel
theorem dX9_goRound_107 : decode cX9_goRound 107 = .ok (.iconst 2, 1) := by decide +kernel
theorem dX9_goRound_108 : decode cX9_goRound 108 = .ok (.iadd, 1) := by decide +kernel
theorem dX9_goRound_109 : decode cX9_goRound 109 = .ok (.iload_n 2, 1) := by decide +kernel
theorem dX9_goRound_110 : decode cX9_goRound 110 = .ok (.iload_n 3, 1) := by decide +kernel
theorem dX9_goRound_111 : decode cX9_goRound 111 = .ok (.iload 4, 2) := by decide +kernel
theorem dX9_goRound_113 : decode cX9_goRound 113 = .ok (.invokestatic 193, 3) := by decide +kernel
theorem dX9_goRound_116 : decode cX9_goRound 116 = .ok (.iastore, 1) := by decide +kernel
theorem dX9_goRound_117 : decode cX9_goRound 117 = .ok (.iinc 1 1, 3) := by decide +kernel
theorem dX9_goRound_120 : decode cX9_goRound 120 = .ok (.goto (-84), 3) := by decide +kernel
theorem dX9_goRound_123 : decode cX9_goRound 123 = .ok (.return_, 1) := by decide +kernel
theorem dX9_takeNet_0 : decode cX9_takeNet 0 = .ok (.iconst 0, 1) := by decide +kernel
theorem dX9_takeNet_1 : decode cX9_takeNet 1 = .ok (.istore_n 1, 1) := by decide +kernel
theorem dX9_takeNet_2 : decode cX9_takeNet 2 = .ok (.iload_n 1, 1) := by decide +kernel
theorem dX9_takeNet_3 : decode cX9_takeNet 3 = .ok (.bipush 18, 2) := by decide +kernel
theorem dX9_takeNet_5 : decode cX9_takeNet 5 = .ok (.if_icmp .ge 21, 3) := by decide +kernel
theorem dX9_takeNet_8 : decode cX9_takeNet 8 = .ok (.aload_n 0, 1) := by decide +kernel
theorem dX9_takeNet_9 : decode cX9_takeNet 9 = .ok (.getfield 87, 3) := by decide +kernel
theorem dX9_takeNet_12 : decode cX9_takeNet 12 = .ok (.iload_n 1, 1) := by decide +kernel
theorem dX9_takeNet_13 : decode cX9_takeNet 13 = .ok (.aload_n 0, 1) := by decide +kernel
theorem dX9_takeNet_14 : decode cX9_takeNet 14 = .ok (.getfield 46, 3) := by decide +kernel
theorem dX9_takeNet_17 : decode cX9_takeNet 17 = .ok (.iload_n 1, 1) := by decide +kernel
theorem dX9_takeNet_18 : decode cX9_takeNet 18 = .ok (.iaload, 1) := by decide +kernel
theorem dX9_takeNet_19 : decode cX9_takeNet 19 = .ok (.iastore, 1) := by decide +kernel
theorem dX9_takeNet_20 : decode cX9_takeNet 20 = .ok (.iinc 1 1, 3) := by decide +kernel
theorem dX9_takeNet_23 : decode cX9_takeNet 23 = .ok (.goto (-21), 3) := by decide +kernel
theorem dX9_takeNet_26 : decode cX9_takeNet 26 = .ok (.return_, 1) := by decide +kernel
theorem dX9_round_0 : decode cX9_round 0 = .ok (.aload_n 0, 1) := by decide +kernel
theorem dX9_round_1 : decode cX9_round 1 = .ok (.getfield 37, 3) := by decide +kernel
theorem dX9_round_4 : decode cX9_round 4 = .ok (.iconst 0, 1) := by decide +kernel
theorem dX9_round_5 : decode cX9_round 5 = .ok (.iaload, 1) := by decide +kernel
theorem dX9_round_6 : decode cX9_round 6 = .ok (.ifCond .ne 6, 3) := by decide +kernel
theorem dX9_round_9 : decode cX9_round 9 = .ok (.bipush (-2), 2) := by decide +kernel
theorem dX9_round_11 : decode cX9_round 11 = .ok (.ireturn, 1) := by decide +kernel
theorem dX9_round_12 : decode cX9_round 12 = .ok (.aload_n 0, 1) := by decide +kernel
theorem dX9_round_13 : decode cX9_round 13 = .ok (.invokevirtual 267, 3) := by decide +kernel
theorem dX9_round_16 : decode cX9_round 16 = .ok (.aload_n 0, 1) := by decide +kernel
theorem dX9_round_17 : decode cX9_round 17 = .ok (.invokevirtual 270, 3) := by decide +kernel
theorem dX9_round_20 : decode cX9_round 20 = .ok (.iconst 0, 1) := by decide +kernel
theorem dX9_round_21 : decode cX9_round 21 = .ok (.istore_n 1, 1) := by decide +kernel
theorem dX9_round_22 : decode cX9_round 22 = .ok (.iconst 0, 1) := by decide +kernel
theorem dX9_round_23 : decode cX9_round 23 = .ok (.istore_n 2, 1) := by decide +kernel
theorem dX9_round_24 : decode cX9_round 24 = .ok (.iload_n 2, 1) := by decide +kernel
theorem dX9_round_25 : decode cX9_round 25 = .ok (.bipush 18, 2) := by decide +kernel
theorem dX9_round_27 : decode cX9_round 27 = .ok (.if_icmp .ge 59, 3) := by decide +kernel
theorem dX9_round_30 : decode cX9_round 30 = .ok (.aload_n 0, 1) := by decide +kernel
theorem dX9_round_31 : decode cX9_round 31 = .ok (.getfield 46, 3) := by decide +kernel
theorem dX9_round_34 : decode cX9_round 34 = .ok (.iload_n 2, 1) := by decide +kernel
theorem dX9_round_35 : decode cX9_round 35 = .ok (.aload_n 0, 1) := by decide +kernel
theorem dX9_round_36 : decode cX9_round 36 = .ok (.getfield 87, 3) := by decide +kernel
theorem dX9_round_39 : decode cX9_round 39 = .ok (.iload_n 2, 1) := by decide +kernel
theorem dX9_round_40 : decode cX9_round 40 = .ok (.iaload, 1) := by decide +kernel
theorem dX9_round_41 : decode cX9_round 41 = .ok (.iastore, 1) := by decide +kernel
theorem dX9_round_42 : decode cX9_round 42 = .ok (.iload_n 1, 1) := by decide +kernel
theorem dX9_round_43 : decode cX9_round 43 = .ok (.iload_n 2, 1) := by decide +kernel
theorem dX9_round_44 : decode cX9_round 44 = .ok (.iconst 3, 1) := by decide +kernel
theorem dX9_round_45 : decode cX9_round 45 = .ok (.irem, 1) := by decide +kernel
theorem dX9_round_46 : decode cX9_round 46 = .ok (.iconst 2, 1) := by decide +kernel
theorem dX9_round_47 : decode cX9_round 47 = .ok (.if_icmp .ne 30, 3) := by decide +kernel
theorem dX9_round_50 : decode cX9_round 50 = .ok (.iload_n 2, 1) := by decide +kernel
theorem dX9_round_51 : decode cX9_round 51 = .ok (.iconst 3, 1) := by decide +kernel
theorem dX9_round_52 : decode cX9_round 52 = .ok (.aload_n 0, 1) := by decide +kernel
theorem dX9_round_53 : decode cX9_round 53 = .ok (.getfield 37, 3) := by decide +kernel
theorem dX9_round_56 : decode cX9_round 56 = .ok (.iconst 0, 1) := by decide +kernel
theorem dX9_round_57 : decode cX9_round 57 = .ok (.iaload, 1) := by decide +kernel
theorem dX9_round_58 : decode cX9_round 58 = .ok (.imul, 1) := by decide +kernel
theorem dX9_round_59 : decode cX9_round 59 = .ok (.if_icmp .ge 18, 3) := by decide +kernel
theorem dX9_round_62 : decode cX9_round 62 = .ok (.aload_n 0, 1) := by decide +kernel
theorem dX9_round_63 : decode cX9_round 63 = .ok (.getfield 87, 3) := by decide +kernel
theorem dX9_round_66 : decode cX9_round 66 = .ok (.iload_n 2, 1) := by decide +kernel
theorem dX9_round_67 : decode cX9_round 67 = .ok (.iaload, 1) := by decide +kernel
theorem dX9_round_68 : decode cX9_round 68 = .ok (.bipush 6, 2) := by decide +kernel
theorem dX9_round_70 : decode cX9_round 70 = .ok (.if_icmp .ge 7, 3) := by decide +kernel
theorem dX9_round_73 : decode cX9_round 73 = .ok (.iconst 1, 1) := by decide +kernel
theorem dX9_round_74 : decode cX9_round 74 = .ok (.goto 4, 3) := by decide +kernel
theorem dX9_round_77 : decode cX9_round 77 = .ok (.iconst 0, 1) := by decide +kernel
theorem dX9_round_78 : decode cX9_round 78 = .ok (.iadd, 1) := by decide +kernel
theorem dX9_round_79 : decode cX9_round 79 = .ok (.istore_n 1, 1) := by decide +kernel
theorem dX9_round_80 : decode cX9_round 80 = .ok (.iinc 2 1, 3) := by decide +kernel
theorem dX9_round_83 : decode cX9_round 83 = .ok (.goto (-59), 3) := by decide +kernel
theorem dX9_round_86 : decode cX9_round 86 = .ok (.iload_n 1, 1) := by decide +kernel
theorem dX9_round_87 : decode cX9_round 87 = .ok (.ireturn, 1) := by decide +kernel
theorem dX9_state_0 : decode cX9_state 0 = .ok (.lconst 0, 1) := by decide +kernel
theorem dX9_state_1 : decode cX9_state 1 = .ok (.lstore_n 1, 1) := by decide +kernel
theorem dX9_state_2 : decode cX9_state 2 = .ok (.iconst 0, 1) := by decide +kernel
theorem dX9_state_3 : decode cX9_state 3 = .ok (.istore_n 3, 1) := by decide +kernel
theorem dX9_state_4 : decode cX9_state 4 = .ok (.iload_n 3, 1) := by decide +kernel
theorem dX9_state_5 : decode cX9_state 5 = .ok (.iconst 3, 1) := by decide +kernel
theorem dX9_state_6 : decode cX9_state 6 = .ok (.aload_n 0, 1) := by decide +kernel
theorem dX9_state_7 : decode cX9_state 7 = .ok (.getfield 37, 3) := by decide +kernel
theorem dX9_state_10 : decode cX9_state 10 = .ok (.iconst 0, 1) := by decide +kernel
theorem dX9_state_11 : decode cX9_state 11 = .ok (.iaload, 1) := by decide +kernel
theorem dX9_state_12 : decode cX9_state 12 = .ok (.imul, 1) := by decide +kernel
theorem dX9_state_13 : decode cX9_state 13 = .ok (.if_icmp .ge 23, 3) := by decide +kernel
theorem dX9_state_16 : decode cX9_state 16 = .ok (.ldc2_w 273, 3) := by decide +kernel
theorem dX9_state_19 : decode cX9_state 19 = .ok (.lload_n 1, 1) := by decide +kernel
theorem dX9_state_20 : decode cX9_state 20 = .ok (.lmul, 1) := by decide +kernel
theorem dX9_state_21 : decode cX9_state 21 = .ok (.aload_n 0, 1) := by decide +kernel
theorem dX9_state_22 : decode cX9_state 22 = .ok (.getfield 87, 3) := by decide +kernel
theorem dX9_state_25 : decode cX9_state 25 = .ok (.iload_n 3, 1) := by decide +kernel
theorem dX9_state_26 : decode cX9_state 26 = .ok (.iaload, 1) := by decide +kernel
theorem dX9_state_27 : decode cX9_state 27 = .ok (.i2l, 1) := by decide +kernel
theorem dX9_state_28 : decode cX9_state 28 = .ok (.ladd, 1) := by decide +kernel
theorem dX9_state_29 : decode cX9_state 29 = .ok (.lstore_n 1, 1) := by decide +kernel
theorem dX9_state_30 : decode cX9_state 30 = .ok (.iinc 3 1, 3) := by decide +kernel
theorem dX9_state_33 : decode cX9_state 33 = .ok (.goto (-29), 3) := by decide +kernel
theorem dX9_state_36 : decode cX9_state 36 = .ok (.lload_n 1, 1) := by decide +kernel
theorem dX9_state_37 : decode cX9_state 37 = .ok (.lreturn, 1) := by decide +kernel
theorem dX9_ring_0 : decode cX9_ring 0 = .ok (.iload_n 1, 1) := by decide +kernel
theorem dX9_ring_1 : decode cX9_ring 1 = .ok (.i2l, 1) := by decide +kernel
theorem dX9_ring_2 : decode cX9_ring 2 = .ok (.lconst 0, 1) := by decide +kernel
theorem dX9_ring_3 : decode cX9_ring 3 = .ok (.lconst 1, 1) := by decide +kernel
theorem dX9_ring_4 : decode cX9_ring 4 = .ok (.invokestatic 102, 3) := by decide +kernel
theorem dX9_ring_7 : decode cX9_ring 7 = .ok (.ifCond .ne 5, 3) := by decide +kernel
theorem dX9_ring_10 : decode cX9_ring 10 = .ok (.iconst (-1), 1) := by decide +kernel
theorem dX9_ring_11 : decode cX9_ring 11 = .ok (.ireturn, 1) := by decide +kernel
theorem dX9_ring_12 : decode cX9_ring 12 = .ok (.aload_n 0, 1) := by decide +kernel
theorem dX9_ring_13 : decode cX9_ring 13 = .ok (.getfield 37, 3) := by decide +kernel
theorem dX9_ring_16 : decode cX9_ring 16 = .ok (.iconst 0, 1) := by decide +kernel
theorem dX9_ring_17 : decode cX9_ring 17 = .ok (.iaload, 1) := by decide +kernel
theorem dX9_ring_18 : decode cX9_ring 18 = .ok (.ifCond .ne 6, 3) := by decide +kernel
theorem dX9_ring_21 : decode cX9_ring 21 = .ok (.bipush (-2), 2) := by decide +kernel
theorem dX9_ring_23 : decode cX9_ring 23 = .ok (.ireturn, 1) := by decide +kernel
theorem dX9_ring_24 : decode cX9_ring 24 = .ok (.aload_n 0, 1) := by decide +kernel
theorem dX9_ring_25 : decode cX9_ring 25 = .ok (.invokevirtual 267, 3) := by decide +kernel
theorem dX9_ring_28 : decode cX9_ring 28 = .ok (.iconst 0, 1) := by decide +kernel
theorem dX9_ring_29 : decode cX9_ring 29 = .ok (.istore_n 2, 1) := by decide +kernel
theorem dX9_ring_30 : decode cX9_ring 30 = .ok (.iload_n 2, 1) := by decide +kernel
theorem dX9_ring_31 : decode cX9_ring 31 = .ok (.sipush 600, 3) := by decide +kernel
theorem dX9_ring_34 : decode cX9_ring 34 = .ok (.if_icmp .gt 23, 3) := by decide +kernel
theorem dX9_ring_37 : decode cX9_ring 37 = .ok (.aload_n 0, 1) := by decide +kernel
theorem dX9_ring_38 : decode cX9_ring 38 = .ok (.getfield 93, 3) := by decide +kernel
theorem dX9_ring_41 : decode cX9_ring 41 = .ok (.iload_n 2, 1) := by decide +kernel
theorem dX9_ring_42 : decode cX9_ring 42 = .ok (.aload_n 0, 1) := by decide +kernel
theorem dX9_ring_43 : decode cX9_ring 43 = .ok (.invokevirtual 275, 3) := by decide +kernel
theorem dX9_ring_46 : decode cX9_ring 46 = .ok (.lastore, 1) := by decide +kernel
theorem dX9_ring_47 : decode cX9_ring 47 = .ok (.aload_n 0, 1) := by decide +kernel
theorem dX9_ring_48 : decode cX9_ring 48 = .ok (.invokevirtual 270, 3) := by decide +kernel
theorem dX9_ring_51 : decode cX9_ring 51 = .ok (.iinc 2 1, 3) := by decide +kernel
theorem dX9_ring_54 : decode cX9_ring 54 = .ok (.goto (-24), 3) := by decide +kernel
theorem dX9_ring_57 : decode cX9_ring 57 = .ok (.iconst 0, 1) := by decide +kernel
theorem dX9_ring_58 : decode cX9_ring 58 = .ok (.istore_n 2, 1) := by decide +kernel
theorem dX9_ring_59 : decode cX9_ring 59 = .ok (.iload_n 2, 1) := by decide +kernel
theorem dX9_ring_60 : decode cX9_ring 60 = .ok (.sipush 600, 3) := by decide +kernel
theorem dX9_ring_63 : decode cX9_ring 63 = .ok (.if_icmp .ge 54, 3) := by decide +kernel
theorem dX9_ring_66 : decode cX9_ring 66 = .ok (.iload_n 2, 1) := by decide +kernel
theorem dX9_ring_67 : decode cX9_ring 67 = .ok (.iconst 1, 1) := by decide +kernel
theorem dX9_ring_68 : decode cX9_ring 68 = .ok (.iadd, 1) := by decide +kernel
theorem dX9_ring_69 : decode cX9_ring 69 = .ok (.istore_n 3, 1) := by decide +kernel
theorem dX9_ring_70 : decode cX9_ring 70 = .ok (.iload_n 3, 1) := by decide +kernel
theorem dX9_ring_71 : decode cX9_ring 71 = .ok (.sipush 600, 3) := by decide +kernel
theorem dX9_ring_74 : decode cX9_ring 74 = .ok (.if_icmp .gt 37, 3) := by decide +kernel
theorem dX9_ring_77 : decode cX9_ring 77 = .ok (.aload_n 0, 1) := by decide +kernel
theorem dX9_ring_78 : decode cX9_ring 78 = .ok (.getfield 93, 3) := by decide +kernel
theorem dX9_ring_81 : decode cX9_ring 81 = .ok (.iload_n 2, 1) := by decide +kernel
theorem dX9_ring_82 : decode cX9_ring 82 = .ok (.laload, 1) := by decide +kernel
theorem dX9_ring_83 : decode cX9_ring 83 = .ok (.aload_n 0, 1) := by decide +kernel
theorem dX9_ring_84 : decode cX9_ring 84 = .ok (.getfield 93, 3) := by decide +kernel
theorem dX9_ring_87 : decode cX9_ring 87 = .ok (.iload_n 3, 1) := by decide +kernel
theorem dX9_ring_88 : decode cX9_ring 88 = .ok (.laload, 1) := by decide +kernel
theorem dX9_ring_89 : decode cX9_ring 89 = .ok (.lcmp, 1) := by decide +kernel
theorem dX9_ring_90 : decode cX9_ring 90 = .ok (.ifCond .ne 15, 3) := by decide +kernel
theorem dX9_ring_93 : decode cX9_ring 93 = .ok (.iload_n 1, 1) := by decide +kernel
theorem dX9_ring_94 : decode cX9_ring 94 = .ok (.ifCond .ne 7, 3) := by decide +kernel
theorem dX9_ring_97 : decode cX9_ring 97 = .ok (.iload_n 2, 1) := by decide +kernel
theorem dX9_ring_98 : decode cX9_ring 98 = .ok (.goto 6, 3) := by decide +kernel
theorem dX9_ring_101 : decode cX9_ring 101 = .ok (.iload_n 3, 1) := by decide +kernel
theorem dX9_ring_102 : decode cX9_ring 102 = .ok (.iload_n 2, 1) := by decide +kernel
theorem dX9_ring_103 : decode cX9_ring 103 = .ok (.isub, 1) := by decide +kernel
theorem dX9_ring_104 : decode cX9_ring 104 = .ok (.ireturn, 1) := by decide +kernel
theorem dX9_ring_105 : decode cX9_ring 105 = .ok (.iinc 3 1, 3) := by decide +kernel
theorem dX9_ring_108 : decode cX9_ring 108 = .ok (.goto (-38), 3) := by decide +kernel
theorem dX9_ring_111 : decode cX9_ring 111 = .ok (.iinc 2 1, 3) := by decide +kernel
theorem dX9_ring_114 : decode cX9_ring 114 = .ok (.goto (-55), 3) := by decide +kernel
theorem dX9_ring_117 : decode cX9_ring 117 = .ok (.bipush (-4), 2) := by decide +kernel
theorem dX9_ring_119 : decode cX9_ring 119 = .ok (.ireturn, 1) := by decide +kernel
theorem dX9_before_0 : decode cX9_before 0 = .ok (.aload_n 0, 1) := by decide +kernel
theorem dX9_before_1 : decode cX9_before 1 = .ok (.getfield 37, 3) := by decide +kernel
theorem dX9_before_4 : decode cX9_before 4 = .ok (.iconst 0, 1) := by decide +kernel
theorem dX9_before_5 : decode cX9_before 5 = .ok (.iaload, 1) := by decide +kernel
theorem dX9_before_6 : decode cX9_before 6 = .ok (.ifCond .ne 7, 3) := by decide +kernel
theorem dX9_before_9 : decode cX9_before 9 = .ok (.ldc2_w 252, 3) := by decide +kernel
theorem dX9_before_12 : decode cX9_before 12 = .ok (.lreturn, 1) := by decide +kernel
theorem dX9_before_13 : decode cX9_before 13 = .ok (.lconst 1, 1) := by decide +kernel
theorem dX9_before_14 : decode cX9_before 14 = .ok (.lstore_n 1, 1) := by decide +kernel
theorem dX9_before_15 : decode cX9_before 15 = .ok (.iconst 0, 1) := by decide +kernel
theorem dX9_before_16 : decode cX9_before 16 = .ok (.istore_n 3, 1) := by decide +kernel
theorem dX9_before_17 : decode cX9_before 17 = .ok (.iload_n 3, 1) := by decide +kernel
theorem dX9_before_18 : decode cX9_before 18 = .ok (.aload_n 0, 1) := by decide +kernel
theorem dX9_before_19 : decode cX9_before 19 = .ok (.getfield 37, 3) := by decide +kernel
theorem dX9_before_22 : decode cX9_before 22 = .ok (.iconst 0, 1) := by decide +kernel
theorem dX9_before_23 : decode cX9_before 23 = .ok (.iaload, 1) := by decide +kernel
theorem dX9_before_24 : decode cX9_before 24 = .ok (.if_icmp .ge 211, 3) := by decide +kernel
theorem dX9_before_27 : decode cX9_before 27 = .ok (.iconst 0, 1) := by decide +kernel
theorem dX9_before_28 : decode cX9_before 28 = .ok (.istore 4, 2) := by decide +kernel
theorem dX9_before_30 : decode cX9_before 30 = .ok (.iconst 0, 1) := by decide +kernel
theorem dX9_before_31 : decode cX9_before 31 = .ok (.istore 5, 2) := by decide +kernel
theorem dX9_before_33 : decode cX9_before 33 = .ok (.iload 5, 2) := by decide +kernel
theorem dX9_before_35 : decode cX9_before 35 = .ok (.aload_n 0, 1) := by decide +kernel
theorem dX9_before_36 : decode cX9_before 36 = .ok (.getfield 13, 3) := by decide +kernel
theorem dX9_before_39 : decode cX9_before 39 = .ok (.iconst 0, 1) := by decide +kernel
theorem dX9_before_40 : decode cX9_before 40 = .ok (.iaload, 1) := by decide +kernel
theorem dX9_before_41 : decode cX9_before 41 = .ok (.if_icmp .gt 71, 3) := by decide +kernel
theorem dX9_before_44 : decode cX9_before 44 = .ok (.iload 4, 2) := by decide +kernel
theorem dX9_before_46 : decode cX9_before 46 = .ok (.iload 5, 2) := by decide +kernel
theorem dX9_before_48 : decode cX9_before 48 = .ok (.aload_n 0, 1) := by decide +kernel
theorem dX9_before_49 : decode cX9_before 49 = .ok (.getfield 13, 3) := by decide +kernel
theorem dX9_before_52 : decode cX9_before 52 = .ok (.iconst 0, 1) := by decide +kernel
theorem dX9_before_53 : decode cX9_before 53 = .ok (.iaload, 1) := by decide +kernel
theorem dX9_before_54 : decode cX9_before 54 = .ok (.if_icmp .ge 8, 3) := by decide +kernel
theorem dX9_before_57 : decode cX9_before 57 = .ok (.iload 5, 2) := by decide +kernel
theorem dX9_before_59 : decode cX9_before 59 = .ok (.goto 5, 3) := by decide +kernel
theorem dX9_before_62 : decode cX9_before 62 = .ok (.bipush 6, 2) := by decide +kernel
theorem dX9_before_64 : decode cX9_before 64 = .ok (.aload_n 0, 1) := by decide +kernel
theorem dX9_before_65 : decode cX9_before 65 = .ok (.getfield 46, 3) := by decide +kernel
theorem dX9_before_68 : decode cX9_before 68 = .ok (.iconst 3, 1) := by decide +kernel
theorem dX9_before_69 : decode cX9_before 69 = .ok (.iload_n 3, 1) := by decide +kernel
theorem dX9_before_70 : decode cX9_before 70 = .ok (.imul, 1) := by decide +kernel
theorem dX9_before_71 : decode cX9_before 71 = .ok (.iaload, 1) := by decide +kernel
theorem dX9_before_72 : decode cX9_before 72 = .ok (.aload_n 0, 1) := by decide +kernel
theorem dX9_before_73 : decode cX9_before 73 = .ok (.getfield 46, 3) := by decide +kernel
theorem dX9_before_76 : decode cX9_before 76 = .ok (.iconst 3, 1) := by decide +kernel
theorem dX9_before_77 : decode cX9_before 77 = .ok (.iload_n 3, 1) := by decide +kernel
theorem dX9_before_78 : decode cX9_before 78 = .ok (.imul, 1) := by decide +kernel
theorem dX9_before_79 : decode cX9_before 79 = .ok (.iconst 1, 1) := by decide +kernel
theorem dX9_before_80 : decode cX9_before 80 = .ok (.iadd, 1) := by decide +kernel
theorem dX9_before_81 : decode cX9_before 81 = .ok (.iaload, 1) := by decide +kernel
theorem dX9_before_82 : decode cX9_before 82 = .ok (.invokestatic 193, 3) := by decide +kernel
theorem dX9_before_85 : decode cX9_before 85 = .ok (.aload_n 0, 1) := by decide +kernel
theorem dX9_before_86 : decode cX9_before 86 = .ok (.getfield 46, 3) := by decide +kernel
theorem dX9_before_89 : decode cX9_before 89 = .ok (.iconst 3, 1) := by decide +kernel
theorem dX9_before_90 : decode cX9_before 90 = .ok (.iload_n 3, 1) := by decide +kernel
theorem dX9_before_91 : decode cX9_before 91 = .ok (.imul, 1) := by decide +kernel
theorem dX9_before_92 : decode cX9_before 92 = .ok (.iconst 2, 1) := by decide +kernel
theorem dX9_before_93 : decode cX9_before 93 = .ok (.iadd, 1) := by decide +kernel
theorem dX9_before_94 : decode cX9_before 94 = .ok (.iaload, 1) := by decide +kernel
theorem dX9_before_95 : decode cX9_before 95 = .ok (.if_icmp .ne 7, 3) := by decide +kernel
theorem dX9_before_98 : decode cX9_before 98 = .ok (.iconst 1, 1) := by decide +kernel
theorem dX9_before_99 : decode cX9_before 99 = .ok (.goto 4, 3) := by decide +kernel
theorem dX9_before_102 : decode cX9_before 102 = .ok (.iconst 0, 1) := by decide +kernel
theorem dX9_before_103 : decode cX9_before 103 = .ok (.iadd, 1) := by decide +kernel
theorem dX9_before_104 : decode cX9_before 104 = .ok (.istore 4, 2) := by decide +kernel
theorem dX9_before_106 : decode cX9_before 106 = .ok (.iinc 5 1, 3) := by decide +kernel
theorem dX9_before_109 : decode cX9_before 109 = .ok (.goto (-76), 3) := by decide +kernel
theorem dX9_before_112 : decode cX9_before 112 = .ok (.bipush (-4), 2) := by decide +kernel
theorem dX9_before_114 : decode cX9_before 114 = .ok (.istore 5, 2) := by decide +kernel
theorem dX9_before_116 : decode cX9_before 116 = .ok (.iconst 1, 1) := by decide +kernel
theorem dX9_before_117 : decode cX9_before 117 = .ok (.istore 6, 2) := by decide +kernel
theorem dX9_before_119 : decode cX9_before 119 = .ok (.iconst 0, 1) := by decide +kernel
theorem dX9_before_120 : decode cX9_before 120 = .ok (.istore 7, 2) := by decide +kernel
theorem dX9_before_122 : decode cX9_before 122 = .ok (.iload 7, 2) := by decide +kernel
theorem dX9_before_124 : decode cX9_before 124 = .ok (.aload_n 0, 1) := by decide +kernel
theorem dX9_before_125 : decode cX9_before 125 = .ok (.getfield 37, 3) := by decide +kernel
theorem dX9_before_128 : decode cX9_before 128 = .ok (.iconst 0, 1) := by decide +kernel
theorem dX9_before_129 : decode cX9_before 129 = .ok (.iaload, 1) := by decide +kernel
theorem dX9_before_130 : decode cX9_before 130 = .ok (.if_icmp .ge 66, 3) := by decide +kernel
theorem dX9_before_133 : decode cX9_before 133 = .ok (.aload_n 0, 1) := by decide +kernel
theorem dX9_before_134 : decode cX9_before 134 = .ok (.getfield 40, 3) := by decide +kernel
theorem dX9_before_137 : decode cX9_before 137 = .ok (.iload 7, 2) := by decide +kernel
theorem dX9_before_139 : decode cX9_before 139 = .ok (.iaload, 1) := by decide +kernel
theorem dX9_before_140 : decode cX9_before 140 = .ok (.iload_n 3, 1) := by decide +kernel
theorem dX9_before_141 : decode cX9_before 141 = .ok (.if_icmp .ne 49, 3) := by decide +kernel
theorem dX9_before_144 : decode cX9_before 144 = .ok (.iload 6, 2) := by decide +kernel
theorem dX9_before_146 : decode cX9_before 146 = .ok (.ifCond .eq 28, 3) := by decide +kernel
theorem dX9_before_149 : decode cX9_before 149 = .ok (.iload 5, 2) := by decide +kernel
theorem dX9_before_151 : decode cX9_before 151 = .ok (.ifCond .lt 19, 3) := by decide +kernel
theorem dX9_before_154 : decode cX9_before 154 = .ok (.iload 5, 2) := by decide +kernel
theorem dX9_before_156 : decode cX9_before 156 = .ok (.aload_n 0, 1) := by decide +kernel
theorem dX9_before_157 : decode cX9_before 157 = .ok (.getfield 46, 3) := by decide +kernel
theorem dX9_before_160 : decode cX9_before 160 = .ok (.iconst 3, 1) := by decide +kernel
theorem dX9_before_161 : decode cX9_before 161 = .ok (.iload 7, 2) := by decide +kernel
theorem dX9_before_163 : decode cX9_before 163 = .ok (.imul, 1) := by decide +kernel
theorem dX9_before_164 : decode cX9_before 164 = .ok (.iconst 1, 1) := by decide +kernel
theorem dX9_before_165 : decode cX9_before 165 = .ok (.iadd, 1) := by decide +kernel
theorem dX9_before_166 : decode cX9_before 166 = .ok (.iaload, 1) := by decide +kernel
theorem dX9_before_167 : decode cX9_before 167 = .ok (.if_icmp .ne 7, 3) := by decide +kernel
theorem dX9_before_170 : decode cX9_before 170 = .ok (.iconst 1, 1) := by decide +kernel
theorem dX9_before_171 : decode cX9_before 171 = .ok (.goto 4, 3) := by decide +kernel
theorem dX9_before_174 : decode cX9_before 174 = .ok (.iconst 0, 1) := by decide +kernel
theorem dX9_before_175 : decode cX9_before 175 = .ok (.istore 6, 2) := by decide +kernel
theorem dX9_before_177 : decode cX9_before 177 = .ok (.aload_n 0, 1) := by decide +kernel
theorem dX9_before_178 : decode cX9_before 178 = .ok (.getfield 46, 3) := by decide +kernel
theorem dX9_before_181 : decode cX9_before 181 = .ok (.iconst 3, 1) := by decide +kernel
theorem dX9_before_182 : decode cX9_before 182 = .ok (.iload 7, 2) := by decide +kernel
theorem dX9_before_184 : decode cX9_before 184 = .ok (.imul, 1) := by decide +kernel
theorem dX9_before_185 : decode cX9_before 185 = .ok (.iconst 1, 1) := by decide +kernel
theorem dX9_before_186 : decode cX9_before 186 = .ok (.iadd, 1) := by decide +kernel
theorem dX9_before_187 : decode cX9_before 187 = .ok (.iaload, 1) := by decide +kernel
theorem dX9_before_188 : decode cX9_before 188 = .ok (.istore 5, 2) := by decide +kernel
theorem dX9_before_190 : decode cX9_before 190 = .ok (.iinc 7 1, 3) := by decide +kernel
theorem dX9_before_193 : decode cX9_before 193 = .ok (.goto (-71), 3) := by decide +kernel
theorem dX9_before_196 : decode cX9_before 196 = .ok (.lload_n 1, 1) := by decide +kernel
theorem dX9_before_197 : decode cX9_before 197 = .ok (.iload 6, 2) := by decide +kernel
theorem dX9_before_199 : decode cX9_before 199 = .ok (.ifCond .eq 27, 3) := by decide +kernel
theorem dX9_before_202 : decode cX9_before 202 = .ok (.iload 4, 2) := by decide +kernel
theorem dX9_before_204 : decode cX9_before 204 = .ok (.iload 5, 2) := by decide +kernel
theorem dX9_before_206 : decode cX9_before 206 = .ok (.ifCond .ge 14, 3) := by decide +kernel
theorem dX9_before_209 : decode cX9_before 209 = .ok (.aload_n 0, 1) := by decide +kernel
theorem dX9_before_210 : decode cX9_before 210 = .ok (.getfield 13, 3) := by decide +kernel
theorem dX9_before_213 : decode cX9_before 213 = .ok (.iconst 0, 1) := by decide +kernel
theorem dX9_before_214 : decode cX9_before 214 = .ok (.iaload, 1) := by decide +kernel
theorem dX9_before_215 : decode cX9_before 215 = .ok (.iconst 1, 1) := by decide +kernel
theorem dX9_before_216 : decode cX9_before 216 = .ok (.iadd, 1) := by decide +kernel
theorem dX9_before_217 : decode cX9_before 217 = .ok (.goto 4, 3) := by decide +kernel
theorem dX9_before_220 : decode cX9_before 220 = .ok (.iconst 1, 1) := by decide +kernel
theorem dX9_before_221 : decode cX9_before 221 = .ok (.imul, 1) := by decide +kernel
theorem dX9_before_222 : decode cX9_before 222 = .ok (.i2l, 1) := by decide +kernel
theorem dX9_before_223 : decode cX9_before 223 = .ok (.goto 4, 3) := by decide +kernel
theorem dX9_before_226 : decode cX9_before 226 = .ok (.lconst 0, 1) := by decide +kernel
theorem dX9_before_227 : decode cX9_before 227 = .ok (.lmul, 1) := by decide +kernel
theorem dX9_before_228 : decode cX9_before 228 = .ok (.lstore_n 1, 1) := by decide +kernel
theorem dX9_before_229 : decode cX9_before 229 = .ok (.iinc 3 1, 3) := by decide +kernel
theorem dX9_before_232 : decode cX9_before 232 = .ok (.goto (-215), 3) := by decide +kernel
theorem dX9_before_235 : decode cX9_before 235 = .ok (.lload_n 1, 1) := by decide +kernel
theorem dX9_before_236 : decode cX9_before 236 = .ok (.lreturn, 1) := by decide +kernel
theorem dX9_copy_0 : decode cX9_copy 0 = .ok (.iconst 0, 1) := by decide +kernel
theorem dX9_copy_1 : decode cX9_copy 1 = .ok (.istore_n 3, 1) := by decide +kernel
theorem dX9_copy_2 : decode cX9_copy 2 = .ok (.iload_n 3, 1) := by decide +kernel
theorem dX9_copy_3 : decode cX9_copy 3 = .ok (.bipush 18, 2) := by decide +kernel
theorem dX9_copy_5 : decode cX9_copy 5 = .ok (.if_icmp .ge 31, 3) := by decide +kernel
theorem dX9_copy_8 : decode cX9_copy 8 = .ok (.aload_n 0, 1) := by decide +kernel
theorem dX9_copy_9 : decode cX9_copy 9 = .ok (.getfield 46, 3) := by decide +kernel
theorem dX9_copy_12 : decode cX9_copy 12 = .ok (.bipush 18, 2) := by decide +kernel
theorem dX9_copy_14 : decode cX9_copy 14 = .ok (.iload_n 2, 1) := by decide +kernel
theorem dX9_copy_15 : decode cX9_copy 15 = .ok (.imul, 1) := by decide +kernel
theorem dX9_copy_16 : decode cX9_copy 16 = .ok (.iload_n 3, 1) := by decide +kernel
theorem dX9_copy_17 : decode cX9_copy 17 = .ok (.iadd, 1) := by decide +kernel
theorem dX9_copy_18 : decode cX9_copy 18 = .ok (.aload_n 0, 1) := by decide +kernel
theorem dX9_copy_19 : decode cX9_copy 19 = .ok (.getfield 46, 3) := by decide +kernel
theorem dX9_copy_22 : decode cX9_copy 22 = .ok (.bipush 18, 2) := by decide +kernel
theorem dX9_copy_24 : decode cX9_copy 24 = .ok (.iload_n 1, 1) := by decide +kernel
theorem dX9_copy_25 : decode cX9_copy 25 = .ok (.imul, 1) := by decide +kernel
theorem dX9_copy_26 : decode cX9_copy 26 = .ok (.iload_n 3, 1) := by decide +kernel
theorem dX9_copy_27 : decode cX9_copy 27 = .ok (.iadd, 1) := by decide +kernel
theorem dX9_copy_28 : decode cX9_copy 28 = .ok (.iaload, 1) := by decide +kernel
theorem dX9_copy_29 : decode cX9_copy 29 = .ok (.iastore, 1) := by decide +kernel
theorem dX9_copy_30 : decode cX9_copy 30 = .ok (.iinc 3 1, 3) := by decide +kernel
theorem dX9_copy_33 : decode cX9_copy 33 = .ok (.goto (-31), 3) := by decide +kernel
theorem dX9_copy_36 : decode cX9_copy 36 = .ok (.aload_n 0, 1) := by decide +kernel
theorem dX9_copy_37 : decode cX9_copy 37 = .ok (.getfield 49, 3) := by decide +kernel
theorem dX9_copy_40 : decode cX9_copy 40 = .ok (.iload_n 2, 1) := by decide +kernel
theorem dX9_copy_41 : decode cX9_copy 41 = .ok (.aload_n 0, 1) := by decide +kernel
theorem dX9_copy_42 : decode cX9_copy 42 = .ok (.getfield 49, 3) := by decide +kernel
theorem dX9_copy_45 : decode cX9_copy 45 = .ok (.iload_n 1, 1) := by decide +kernel
theorem dX9_copy_46 : decode cX9_copy 46 = .ok (.iaload, 1) := by decide +kernel
theorem dX9_copy_47 : decode cX9_copy 47 = .ok (.iastore, 1) := by decide +kernel
theorem dX9_copy_48 : decode cX9_copy 48 = .ok (.iconst 0, 1) := by decide +kernel
theorem dX9_copy_49 : decode cX9_copy 49 = .ok (.istore_n 3, 1) := by decide +kernel
theorem dX9_copy_50 : decode cX9_copy 50 = .ok (.iload_n 3, 1) := by decide +kernel
theorem dX9_copy_51 : decode cX9_copy 51 = .ok (.bipush 10, 2) := by decide +kernel
theorem dX9_copy_53 : decode cX9_copy 53 = .ok (.if_icmp .ge 31, 3) := by decide +kernel
theorem dX9_copy_56 : decode cX9_copy 56 = .ok (.aload_n 0, 1) := by decide +kernel
theorem dX9_copy_57 : decode cX9_copy 57 = .ok (.getfield 52, 3) := by decide +kernel
theorem dX9_copy_60 : decode cX9_copy 60 = .ok (.bipush 10, 2) := by decide +kernel
theorem dX9_copy_62 : decode cX9_copy 62 = .ok (.iload_n 2, 1) := by decide +kernel
theorem dX9_copy_63 : decode cX9_copy 63 = .ok (.imul, 1) := by decide +kernel
theorem dX9_copy_64 : decode cX9_copy 64 = .ok (.iload_n 3, 1) := by decide +kernel
theorem dX9_copy_65 : decode cX9_copy 65 = .ok (.iadd, 1) := by decide +kernel
theorem dX9_copy_66 : decode cX9_copy 66 = .ok (.aload_n 0, 1) := by decide +kernel
theorem dX9_copy_67 : decode cX9_copy 67 = .ok (.getfield 52, 3) := by decide +kernel
theorem dX9_copy_70 : decode cX9_copy 70 = .ok (.bipush 10, 2) := by decide +kernel
theorem dX9_copy_72 : decode cX9_copy 72 = .ok (.iload_n 1, 1) := by decide +kernel
theorem dX9_copy_73 : decode cX9_copy 73 = .ok (.imul, 1) := by decide +kernel
theorem dX9_copy_74 : decode cX9_copy 74 = .ok (.iload_n 3, 1) := by decide +kernel
theorem dX9_copy_75 : decode cX9_copy 75 = .ok (.iadd, 1) := by decide +kernel
theorem dX9_copy_76 : decode cX9_copy 76 = .ok (.iaload, 1) := by decide +kernel
theorem dX9_copy_77 : decode cX9_copy 77 = .ok (.iastore, 1) := by decide +kernel
theorem dX9_copy_78 : decode cX9_copy 78 = .ok (.iinc 3 1, 3) := by decide +kernel
theorem dX9_copy_81 : decode cX9_copy 81 = .ok (.goto (-31), 3) := by decide +kernel
theorem dX9_copy_84 : decode cX9_copy 84 = .ok (.return_, 1) := by decide +kernel
theorem dX9_keep_0 : decode cX9_keep 0 = .ok (.aload_n 0, 1) := by decide +kernel
theorem dX9_keep_1 : decode cX9_keep 1 = .ok (.getfield 162, 3) := by decide +kernel
theorem dX9_keep_4 : decode cX9_keep 4 = .ok (.iconst 2, 1) := by decide +kernel
theorem dX9_keep_5 : decode cX9_keep 5 = .ok (.if_icmp .ne 6, 3) := by decide +kernel
theorem dX9_keep_8 : decode cX9_keep 8 = .ok (.bipush (-3), 2) := by decide +kernel
theorem dX9_keep_10 : decode cX9_keep 10 = .ok (.ireturn, 1) := by decide +kernel
theorem dX9_keep_11 : decode cX9_keep 11 = .ok (.aload_n 0, 1) := by decide +kernel
theorem dX9_keep_12 : decode cX9_keep 12 = .ok (.dup, 1) := by decide +kernel
theorem dX9_keep_13 : decode cX9_keep 13 = .ok (.getfield 162, 3) := by decide +kernel
theorem dX9_keep_16 : decode cX9_keep 16 = .ok (.iconst 1, 1) := by decide +kernel
theorem dX9_keep_17 : decode cX9_keep 17 = .ok (.iadd, 1) := by decide +kernel
theorem dX9_keep_18 : decode cX9_keep 18 = .ok (.putfield 162, 3) := by decide +kernel
theorem dX9_keep_21 : decode cX9_keep 21 = .ok (.aload_n 0, 1) := by decide +kernel
theorem dX9_keep_22 : decode cX9_keep 22 = .ok (.iconst 0, 1) := by decide +kernel
theorem dX9_keep_23 : decode cX9_keep 23 = .ok (.aload_n 0, 1) := by decide +kernel
theorem dX9_keep_24 : decode cX9_keep 24 = .ok (.getfield 162, 3) := by decide +kernel
theorem dX9_keep_27 : decode cX9_keep 27 = .ok (.invokevirtual 279, 3) := by decide +kernel
theorem dX9_keep_30 : decode cX9_keep 30 = .ok (.aload_n 0, 1) := by decide +kernel
theorem dX9_keep_31 : decode cX9_keep 31 = .ok (.getfield 162, 3) := by decide +kernel
theorem dX9_keep_34 : decode cX9_keep 34 = .ok (.ireturn, 1) := by decide +kernel
theorem dX9_back_0 : decode cX9_back 0 = .ok (.aload_n 0, 1) := by decide +kernel
theorem dX9_back_1 : decode cX9_back 1 = .ok (.getfield 162, 3) := by decide +kernel
theorem dX9_back_4 : decode cX9_back 4 = .ok (.ifCond .ne 6, 3) := by decide +kernel
theorem dX9_back_7 : decode cX9_back 7 = .ok (.bipush (-2), 2) := by decide +kernel
theorem dX9_back_9 : decode cX9_back 9 = .ok (.ireturn, 1) := by decide +kernel
theorem dX9_back_10 : decode cX9_back 10 = .ok (.aload_n 0, 1) := by decide +kernel
theorem dX9_back_11 : decode cX9_back 11 = .ok (.aload_n 0, 1) := by decide +kernel
theorem dX9_back_12 : decode cX9_back 12 = .ok (.getfield 162, 3) := by decide +kernel
theorem dX9_back_15 : decode cX9_back 15 = .ok (.iconst 0, 1) := by decide +kernel
theorem dX9_back_16 : decode cX9_back 16 = .ok (.invokevirtual 279, 3) := by decide +kernel
theorem dX9_back_19 : decode cX9_back 19 = .ok (.aload_n 0, 1) := by decide +kernel
theorem dX9_back_20 : decode cX9_back 20 = .ok (.dup, 1) := by decide +kernel
theorem dX9_back_21 : decode cX9_back 21 = .ok (.getfield 162, 3) := by decide +kernel
theorem dX9_back_24 : decode cX9_back 24 = .ok (.iconst 1, 1) := by decide +kernel
theorem dX9_back_25 : decode cX9_back 25 = .ok (.isub, 1) := by decide +kernel
theorem dX9_back_26 : decode cX9_back 26 = .ok (.putfield 162, 3) := by decide +kernel
theorem dX9_back_29 : decode cX9_back 29 = .ok (.aload_n 0, 1) := by decide +kernel
theorem dX9_back_30 : decode cX9_back 30 = .ok (.getfield 162, 3) := by decide +kernel
theorem dX9_back_33 : decode cX9_back 33 = .ok (.ireturn, 1) := by decide +kernel
theorem dX9_count_0 : decode cX9_count 0 = .ok (.iload_n 1, 1) := by decide +kernel
theorem dX9_count_1 : decode cX9_count 1 = .ok (.tableswitch 99 0 7 #[47, 54, 61, 68, 75, 82, 87, 92], 47) := by decide +kernel
theorem dX9_count_48 : decode cX9_count 48 = .ok (.aload_n 0, 1) := by decide +kernel
theorem dX9_count_49 : decode cX9_count 49 = .ok (.getfield 25, 3) := by decide +kernel
theorem dX9_count_52 : decode cX9_count 52 = .ok (.iconst 0, 1) := by decide +kernel
theorem dX9_count_53 : decode cX9_count 53 = .ok (.iaload, 1) := by decide +kernel
theorem dX9_count_54 : decode cX9_count 54 = .ok (.ireturn, 1) := by decide +kernel
theorem dX9_count_55 : decode cX9_count 55 = .ok (.aload_n 0, 1) := by decide +kernel
theorem dX9_count_56 : decode cX9_count 56 = .ok (.getfield 13, 3) := by decide +kernel
theorem dX9_count_59 : decode cX9_count 59 = .ok (.iconst 0, 1) := by decide +kernel
theorem dX9_count_60 : decode cX9_count 60 = .ok (.iaload, 1) := by decide +kernel
theorem dX9_count_61 : decode cX9_count 61 = .ok (.ireturn, 1) := by decide +kernel
theorem dX9_count_62 : decode cX9_count 62 = .ok (.aload_n 0, 1) := by decide +kernel
theorem dX9_count_63 : decode cX9_count 63 = .ok (.getfield 19, 3) := by decide +kernel
theorem dX9_count_66 : decode cX9_count 66 = .ok (.iconst 0, 1) := by decide +kernel
theorem dX9_count_67 : decode cX9_count 67 = .ok (.iaload, 1) := by decide +kernel
theorem dX9_count_68 : decode cX9_count 68 = .ok (.ireturn, 1) := by decide +kernel
theorem dX9_count_69 : decode cX9_count 69 = .ok (.aload_n 0, 1) := by decide +kernel
theorem dX9_count_70 : decode cX9_count 70 = .ok (.getfield 37, 3) := by decide +kernel
theorem dX9_count_73 : decode cX9_count 73 = .ok (.iconst 0, 1) := by decide +kernel
theorem dX9_count_74 : decode cX9_count 74 = .ok (.iaload, 1) := by decide +kernel
theorem dX9_count_75 : decode cX9_count 75 = .ok (.ireturn, 1) := by decide +kernel
theorem dX9_count_76 : decode cX9_count 76 = .ok (.aload_n 0, 1) := by decide +kernel
theorem dX9_count_77 : decode cX9_count 77 = .ok (.getfield 49, 3) := by decide +kernel
theorem dX9_count_80 : decode cX9_count 80 = .ok (.iconst 0, 1) := by decide +kernel
theorem dX9_count_81 : decode cX9_count 81 = .ok (.iaload, 1) := by decide +kernel
theorem dX9_count_82 : decode cX9_count 82 = .ok (.ireturn, 1) := by decide +kernel
theorem dX9_count_83 : decode cX9_count 83 = .ok (.aload_n 0, 1) := by decide +kernel
theorem dX9_count_84 : decode cX9_count 84 = .ok (.getfield 106, 3) := by decide +kernel
theorem dX9_count_87 : decode cX9_count 87 = .ok (.ireturn, 1) := by decide +kernel
theorem dX9_count_88 : decode cX9_count 88 = .ok (.aload_n 0, 1) := by decide +kernel
theorem dX9_count_89 : decode cX9_count 89 = .ok (.getfield 162, 3) := by decide +kernel
theorem dX9_count_92 : decode cX9_count 92 = .ok (.ireturn, 1) := by decide +kernel
theorem dX9_count_93 : decode cX9_count 93 = .ok (.aload_n 0, 1) := by decide +kernel
theorem dX9_count_94 : decode cX9_count 94 = .ok (.getfield 16, 3) := by decide +kernel
theorem dX9_count_97 : decode cX9_count 97 = .ok (.iconst 0, 1) := by decide +kernel
theorem dX9_count_98 : decode cX9_count 98 = .ok (.iaload, 1) := by decide +kernel
theorem dX9_count_99 : decode cX9_count 99 = .ok (.ireturn, 1) := by decide +kernel
theorem dX9_count_100 : decode cX9_count 100 = .ok (.iconst (-1), 1) := by decide +kernel
theorem dX9_count_101 : decode cX9_count 101 = .ok (.ireturn, 1) := by decide +kernel
theorem dJ9_max_7cf53_0 : decode cJ9_max_7cf53 0 = .ok (.iload_n 0, 1) := by decide +kernel
theorem dJ9_max_7cf53_1 : decode cJ9_max_7cf53 1 = .ok (.iload_n 1, 1) := by decide +kernel
theorem dJ9_max_7cf53_2 : decode cJ9_max_7cf53 2 = .ok (.if_icmp .lt 7, 3) := by decide +kernel
theorem dJ9_max_7cf53_5 : decode cJ9_max_7cf53 5 = .ok (.iload_n 0, 1) := by decide +kernel
theorem dJ9_max_7cf53_6 : decode cJ9_max_7cf53 6 = .ok (.goto 4, 3) := by decide +kernel
theorem dJ9_max_7cf53_9 : decode cJ9_max_7cf53 9 = .ok (.iload_n 1, 1) := by decide +kernel
theorem dJ9_max_7cf53_10 : decode cJ9_max_7cf53 10 = .ok (.ireturn, 1) := by decide +kernel
theorem dJ9_max_f86c9_0 : decode cJ9_max_f86c9 0 = .ok (.lload_n 0, 1) := by decide +kernel
theorem dJ9_max_f86c9_1 : decode cJ9_max_f86c9 1 = .ok (.lload_n 2, 1) := by decide +kernel
theorem dJ9_max_f86c9_2 : decode cJ9_max_f86c9 2 = .ok (.lcmp, 1) := by decide +kernel
theorem dJ9_max_f86c9_3 : decode cJ9_max_f86c9 3 = .ok (.ifCond .lt 7, 3) := by decide +kernel
theorem dJ9_max_f86c9_6 : decode cJ9_max_f86c9 6 = .ok (.lload_n 0, 1) := by decide +kernel
theorem dJ9_max_f86c9_7 : decode cJ9_max_f86c9 7 = .ok (.goto 4, 3) := by decide +kernel
theorem dJ9_max_f86c9_10 : decode cJ9_max_f86c9 10 = .ok (.lload_n 2, 1) := by decide +kernel
theorem dJ9_max_f86c9_11 : decode cJ9_max_f86c9 11 = .ok (.lreturn, 1) := by decide +kernel
theorem dJ9_min_7cf53_0 : decode cJ9_min_7cf53 0 = .ok (.iload_n 0, 1) := by decide +kernel
theorem dJ9_min_7cf53_1 : decode cJ9_min_7cf53 1 = .ok (.iload_n 1, 1) := by decide +kernel
theorem dJ9_min_7cf53_2 : decode cJ9_min_7cf53 2 = .ok (.if_icmp .gt 7, 3) := by decide +kernel
theorem dJ9_min_7cf53_5 : decode cJ9_min_7cf53 5 = .ok (.iload_n 0, 1) := by decide +kernel
theorem dJ9_min_7cf53_6 : decode cJ9_min_7cf53 6 = .ok (.goto 4, 3) := by decide +kernel
theorem dJ9_min_7cf53_9 : decode cJ9_min_7cf53 9 = .ok (.iload_n 1, 1) := by decide +kernel
theorem dJ9_min_7cf53_10 : decode cJ9_min_7cf53 10 = .ok (.ireturn, 1) := by decide +kernel
theorem dJ7_fill_d0a16_0 : decode cJ7_fill_d0a16 0 = .ok (.iconst 0, 1) := by decide +kernel
theorem dJ7_fill_d0a16_1 : decode cJ7_fill_d0a16 1 = .ok (.istore_n 3, 1) := by decide +kernel
theorem dJ7_fill_d0a16_2 : decode cJ7_fill_d0a16 2 = .ok (.aload_n 0, 1) := by decide +kernel
theorem dJ7_fill_d0a16_3 : decode cJ7_fill_d0a16 3 = .ok (.arraylength, 1) := by decide +kernel
theorem dJ7_fill_d0a16_4 : decode cJ7_fill_d0a16 4 = .ok (.istore 4, 2) := by decide +kernel
theorem dJ7_fill_d0a16_6 : decode cJ7_fill_d0a16 6 = .ok (.iload_n 3, 1) := by decide +kernel
theorem dJ7_fill_d0a16_7 : decode cJ7_fill_d0a16 7 = .ok (.iload 4, 2) := by decide +kernel
theorem dJ7_fill_d0a16_9 : decode cJ7_fill_d0a16 9 = .ok (.if_icmp .ge 13, 3) := by decide +kernel
theorem dJ7_fill_d0a16_12 : decode cJ7_fill_d0a16 12 = .ok (.aload_n 0, 1) := by decide +kernel
theorem dJ7_fill_d0a16_13 : decode cJ7_fill_d0a16 13 = .ok (.iload_n 3, 1) := by decide +kernel
theorem dJ7_fill_d0a16_14 : decode cJ7_fill_d0a16 14 = .ok (.lload_n 1, 1) := by decide +kernel
theorem dJ7_fill_d0a16_15 : decode cJ7_fill_d0a16 15 = .ok (.lastore, 1) := by decide +kernel
theorem dJ7_fill_d0a16_16 : decode cJ7_fill_d0a16 16 = .ok (.iinc 3 1, 3) := by decide +kernel
theorem dJ7_fill_d0a16_19 : decode cJ7_fill_d0a16 19 = .ok (.goto (-13), 3) := by decide +kernel
theorem dJ7_fill_d0a16_22 : decode cJ7_fill_d0a16 22 = .ok (.return_, 1) := by decide +kernel
theorem dJ7_fill_53178_0 : decode cJ7_fill_53178 0 = .ok (.iconst 0, 1) := by decide +kernel
theorem dJ7_fill_53178_1 : decode cJ7_fill_53178 1 = .ok (.istore_n 2, 1) := by decide +kernel
theorem dJ7_fill_53178_2 : decode cJ7_fill_53178 2 = .ok (.aload_n 0, 1) := by decide +kernel
theorem dJ7_fill_53178_3 : decode cJ7_fill_53178 3 = .ok (.arraylength, 1) := by decide +kernel
theorem dJ7_fill_53178_4 : decode cJ7_fill_53178 4 = .ok (.istore_n 3, 1) := by decide +kernel
theorem dJ7_fill_53178_5 : decode cJ7_fill_53178 5 = .ok (.iload_n 2, 1) := by decide +kernel
theorem dJ7_fill_53178_6 : decode cJ7_fill_53178 6 = .ok (.iload_n 3, 1) := by decide +kernel
theorem dJ7_fill_53178_7 : decode cJ7_fill_53178 7 = .ok (.if_icmp .ge 13, 3) := by decide +kernel
theorem dJ7_fill_53178_10 : decode cJ7_fill_53178 10 = .ok (.aload_n 0, 1) := by decide +kernel
theorem dJ7_fill_53178_11 : decode cJ7_fill_53178 11 = .ok (.iload_n 2, 1) := by decide +kernel
theorem dJ7_fill_53178_12 : decode cJ7_fill_53178 12 = .ok (.iload_n 1, 1) := by decide +kernel
theorem dJ7_fill_53178_13 : decode cJ7_fill_53178 13 = .ok (.iastore, 1) := by decide +kernel
theorem dJ7_fill_53178_14 : decode cJ7_fill_53178 14 = .ok (.iinc 2 1, 3) := by decide +kernel
theorem dJ7_fill_53178_17 : decode cJ7_fill_53178 17 = .ok (.goto (-12), 3) := by decide +kernel
theorem dJ7_fill_53178_20 : decode cJ7_fill_53178 20 = .ok (.return_, 1) := by decide +kernel
theorem dL_law_0 : decode cL_law 0 = .ok (.new 7, 3) := by decide +kernel
theorem dL_law_3 : decode cL_law 3 = .ok (.dup, 1) := by decide +kernel
theorem dL_law_4 : decode cL_law 4 = .ok (.invokespecial 9, 3) := by decide +kernel
theorem dL_law_7 : decode cL_law 7 = .ok (.astore_n 1, 1) := by decide +kernel
theorem dL_law_8 : decode cL_law 8 = .ok (.new 10, 3) := by decide +kernel
theorem dL_law_11 : decode cL_law 11 = .ok (.dup, 1) := by decide +kernel
theorem dL_law_12 : decode cL_law 12 = .ok (.invokespecial 12, 3) := by decide +kernel
theorem dL_law_15 : decode cL_law 15 = .ok (.astore_n 2, 1) := by decide +kernel
theorem dL_law_16 : decode cL_law 16 = .ok (.iconst 0, 1) := by decide +kernel
theorem dL_law_17 : decode cL_law 17 = .ok (.istore_n 3, 1) := by decide +kernel
theorem dL_law_18 : decode cL_law 18 = .ok (.iload_n 3, 1) := by decide +kernel
theorem dL_law_19 : decode cL_law 19 = .ok (.aload_n 0, 1) := by decide +kernel
theorem dL_law_20 : decode cL_law 20 = .ok (.arraylength, 1) := by decide +kernel
theorem dL_law_21 : decode cL_law 21 = .ok (.iconst 4, 1) := by decide +kernel
theorem dL_law_22 : decode cL_law 22 = .ok (.isub, 1) := by decide +kernel
theorem dL_law_23 : decode cL_law 23 = .ok (.if_icmp .gt 756, 3) := by decide +kernel
theorem dL_law_26 : decode cL_law 26 = .ok (.aload_n 0, 1) := by decide +kernel
theorem dL_law_27 : decode cL_law 27 = .ok (.iload_n 3, 1) := by decide +kernel
theorem dL_law_28 : decode cL_law 28 = .ok (.iaload, 1) := by decide +kernel
theorem dL_law_29 : decode cL_law 29 = .ok (.bipush 31, 2) := by decide +kernel
theorem dL_law_31 : decode cL_law 31 = .ok (.iand, 1) := by decide +kernel
theorem dL_law_32 : decode cL_law 32 = .ok (.tableswitch 741 0 25 #[120, 183, 196, 209, 222, 255, 278, 291, 314, 347, 380, 413, 446, 459, 482, 505, 518, 542, 586, 609, 642, 655, 678, 692, 705, 718], 120) := by decide +kernel
theorem dL_law_152 : decode cL_law 152 = .ok (.aload_n 1, 1) := by decide +kernel
theorem dL_law_153 : decode cL_law 153 = .ok (.aload_n 0, 1) := by decide +kernel
theorem dL_law_154 : decode cL_law 154 = .ok (.iload_n 3, 1) := by decide +kernel
theorem dL_law_155 : decode cL_law 155 = .ok (.iconst 1, 1) := by decide +kernel
theorem dL_law_156 : decode cL_law 156 = .ok (.iadd, 1) := by decide +kernel
theorem dL_law_157 : decode cL_law 157 = .ok (.iaload, 1) := by decide +kernel
theorem dL_law_158 : decode cL_law 158 = .ok (.aload_n 0, 1) := by decide +kernel
theorem dL_law_159 : decode cL_law 159 = .ok (.iload_n 3, 1) := by decide +kernel
theorem dL_law_160 : decode cL_law 160 = .ok (.iconst 2, 1) := by decide +kernel
theorem dL_law_161 : decode cL_law 161 = .ok (.iadd, 1) := by decide +kernel
theorem dL_law_162 : decode cL_law 162 = .ok (.iaload, 1) := by decide +kernel
theorem dL_law_163 : decode cL_law 163 = .ok (.i2l, 1) := by decide +kernel
theorem dL_law_164 : decode cL_law 164 = .ok (.bipush 32, 2) := by decide +kernel
theorem dL_law_166 : decode cL_law 166 = .ok (.lshl, 1) := by decide +kernel
theorem dL_law_167 : decode cL_law 167 = .ok (.aload_n 0, 1) := by decide +kernel
theorem dL_law_168 : decode cL_law 168 = .ok (.iload_n 3, 1) := by decide +kernel
theorem dL_law_169 : decode cL_law 169 = .ok (.iconst 3, 1) := by decide +kernel
theorem dL_law_170 : decode cL_law 170 = .ok (.iadd, 1) := by decide +kernel
theorem dL_law_171 : decode cL_law 171 = .ok (.iaload, 1) := by decide +kernel
theorem dL_law_172 : decode cL_law 172 = .ok (.i2l, 1) := by decide +kernel
theorem dL_law_173 : decode cL_law 173 = .ok (.ldc2_w 13, 3) := by decide +kernel
theorem dL_law_176 : decode cL_law 176 = .ok (.land, 1) := by decide +kernel
theorem dL_law_177 : decode cL_law 177 = .ok (.lor, 1) := by decide +kernel
theorem dL_law_178 : decode cL_law 178 = .ok (.invokevirtual 15, 3) := by decide +kernel
theorem dL_law_181 : decode cL_law 181 = .ok (.aload_n 2, 1) := by decide +kernel
theorem dL_law_182 : decode cL_law 182 = .ok (.aload_n 0, 1) := by decide +kernel
theorem dL_law_183 : decode cL_law 183 = .ok (.iload_n 3, 1) := by decide +kernel
theorem dL_law_184 : decode cL_law 184 = .ok (.iconst 1, 1) := by decide +kernel
theorem dL_law_185 : decode cL_law 185 = .ok (.iadd, 1) := by decide +kernel
theorem dL_law_186 : decode cL_law 186 = .ok (.iaload, 1) := by decide +kernel
theorem dL_law_187 : decode cL_law 187 = .ok (.aload_n 0, 1) := by decide +kernel
theorem dL_law_188 : decode cL_law 188 = .ok (.iload_n 3, 1) := by decide +kernel
theorem dL_law_189 : decode cL_law 189 = .ok (.iconst 2, 1) := by decide +kernel
theorem dL_law_190 : decode cL_law 190 = .ok (.iadd, 1) := by decide +kernel
theorem dL_law_191 : decode cL_law 191 = .ok (.iaload, 1) := by decide +kernel
theorem dL_law_192 : decode cL_law 192 = .ok (.i2l, 1) := by decide +kernel
theorem dL_law_193 : decode cL_law 193 = .ok (.bipush 32, 2) := by decide +kernel
theorem dL_law_195 : decode cL_law 195 = .ok (.lshl, 1) := by decide +kernel
theorem dL_law_196 : decode cL_law 196 = .ok (.aload_n 0, 1) := by decide +kernel
theorem dL_law_197 : decode cL_law 197 = .ok (.iload_n 3, 1) := by decide +kernel
theorem dL_law_198 : decode cL_law 198 = .ok (.iconst 3, 1) := by decide +kernel
theorem dL_law_199 : decode cL_law 199 = .ok (.iadd, 1) := by decide +kernel
theorem dL_law_200 : decode cL_law 200 = .ok (.iaload, 1) := by decide +kernel
theorem dL_law_201 : decode cL_law 201 = .ok (.i2l, 1) := by decide +kernel
theorem dL_law_202 : decode cL_law 202 = .ok (.ldc2_w 13, 3) := by decide +kernel
theorem dL_law_205 : decode cL_law 205 = .ok (.land, 1) := by decide +kernel
theorem dL_law_206 : decode cL_law 206 = .ok (.lor, 1) := by decide +kernel
theorem dL_law_207 : decode cL_law 207 = .ok (.invokevirtual 19, 3) := by decide +kernel
theorem dL_law_210 : decode cL_law 210 = .ok (.if_icmp .eq 563, 3) := by decide +kernel
theorem dL_law_213 : decode cL_law 213 = .ok (.iconst 0, 1) := by decide +kernel
theorem dL_law_214 : decode cL_law 214 = .ok (.ireturn, 1) := by decide +kernel
theorem dL_law_215 : decode cL_law 215 = .ok (.aload_n 1, 1) := by decide +kernel
theorem dL_law_216 : decode cL_law 216 = .ok (.invokevirtual 20, 3) := by decide +kernel
theorem dL_law_219 : decode cL_law 219 = .ok (.aload_n 2, 1) := by decide +kernel
theorem dL_law_220 : decode cL_law 220 = .ok (.invokevirtual 24, 3) := by decide +kernel
theorem dL_law_223 : decode cL_law 223 = .ok (.if_icmp .eq 550, 3) := by decide +kernel
theorem dL_law_226 : decode cL_law 226 = .ok (.iconst 0, 1) := by decide +kernel
theorem dL_law_227 : decode cL_law 227 = .ok (.ireturn, 1) := by decide +kernel
theorem dL_law_228 : decode cL_law 228 = .ok (.aload_n 1, 1) := by decide +kernel
theorem dL_law_229 : decode cL_law 229 = .ok (.invokevirtual 25, 3) := by decide +kernel
theorem dL_law_232 : decode cL_law 232 = .ok (.aload_n 2, 1) := by decide +kernel
theorem dL_law_233 : decode cL_law 233 = .ok (.invokevirtual 28, 3) := by decide +kernel
theorem dL_law_236 : decode cL_law 236 = .ok (.if_icmp .eq 537, 3) := by decide +kernel
theorem dL_law_239 : decode cL_law 239 = .ok (.iconst 0, 1) := by decide +kernel
theorem dL_law_240 : decode cL_law 240 = .ok (.ireturn, 1) := by decide +kernel
theorem dL_law_241 : decode cL_law 241 = .ok (.aload_n 1, 1) := by decide +kernel
theorem dL_law_242 : decode cL_law 242 = .ok (.invokevirtual 29, 3) := by decide +kernel
theorem dL_law_245 : decode cL_law 245 = .ok (.aload_n 2, 1) := by decide +kernel
theorem dL_law_246 : decode cL_law 246 = .ok (.invokevirtual 32, 3) := by decide +kernel
theorem dL_law_249 : decode cL_law 249 = .ok (.if_icmp .eq 524, 3) := by decide +kernel
theorem dL_law_252 : decode cL_law 252 = .ok (.iconst 0, 1) := by decide +kernel
theorem dL_law_253 : decode cL_law 253 = .ok (.ireturn, 1) := by decide +kernel
theorem dL_law_254 : decode cL_law 254 = .ok (.aload_n 1, 1) := by decide +kernel
theorem dL_law_255 : decode cL_law 255 = .ok (.aload_n 0, 1) := by decide +kernel
theorem dL_law_256 : decode cL_law 256 = .ok (.iload_n 3, 1) := by decide +kernel
theorem dL_law_257 : decode cL_law 257 = .ok (.iconst 1, 1) := by decide +kernel
theorem dL_law_258 : decode cL_law 258 = .ok (.iadd, 1) := by decide +kernel
theorem dL_law_259 : decode cL_law 259 = .ok (.iaload, 1) := by decide +kernel
theorem dL_law_260 : decode cL_law 260 = .ok (.aload_n 0, 1) := by decide +kernel
theorem dL_law_261 : decode cL_law 261 = .ok (.iload_n 3, 1) := by decide +kernel
theorem dL_law_262 : decode cL_law 262 = .ok (.iconst 2, 1) := by decide +kernel
theorem dL_law_263 : decode cL_law 263 = .ok (.iadd, 1) := by decide +kernel
theorem dL_law_264 : decode cL_law 264 = .ok (.iaload, 1) := by decide +kernel
theorem dL_law_265 : decode cL_law 265 = .ok (.invokevirtual 33, 3) := by decide +kernel
theorem dL_law_268 : decode cL_law 268 = .ok (.aload_n 2, 1) := by decide +kernel
theorem dL_law_269 : decode cL_law 269 = .ok (.aload_n 0, 1) := by decide +kernel
theorem dL_law_270 : decode cL_law 270 = .ok (.iload_n 3, 1) := by decide +kernel
theorem dL_law_271 : decode cL_law 271 = .ok (.iconst 1, 1) := by decide +kernel
theorem dL_law_272 : decode cL_law 272 = .ok (.iadd, 1) := by decide +kernel
theorem dL_law_273 : decode cL_law 273 = .ok (.iaload, 1) := by decide +kernel
theorem dL_law_274 : decode cL_law 274 = .ok (.aload_n 0, 1) := by decide +kernel
theorem dL_law_275 : decode cL_law 275 = .ok (.iload_n 3, 1) := by decide +kernel
theorem dL_law_276 : decode cL_law 276 = .ok (.iconst 2, 1) := by decide +kernel
theorem dL_law_277 : decode cL_law 277 = .ok (.iadd, 1) := by decide +kernel
theorem dL_law_278 : decode cL_law 278 = .ok (.iaload, 1) := by decide +kernel
theorem dL_law_279 : decode cL_law 279 = .ok (.invokevirtual 37, 3) := by decide +kernel
theorem dL_law_282 : decode cL_law 282 = .ok (.if_icmp .eq 491, 3) := by decide +kernel
theorem dL_law_285 : decode cL_law 285 = .ok (.iconst 0, 1) := by decide +kernel
theorem dL_law_286 : decode cL_law 286 = .ok (.ireturn, 1) := by decide +kernel
theorem dL_law_287 : decode cL_law 287 = .ok (.aload_n 1, 1) := by decide +kernel
theorem dL_law_288 : decode cL_law 288 = .ok (.aload_n 0, 1) := by decide +kernel
theorem dL_law_289 : decode cL_law 289 = .ok (.iload_n 3, 1) := by decide +kernel
theorem dL_law_290 : decode cL_law 290 = .ok (.iconst 1, 1) := by decide +kernel
theorem dL_law_291 : decode cL_law 291 = .ok (.iadd, 1) := by decide +kernel
theorem dL_law_292 : decode cL_law 292 = .ok (.iaload, 1) := by decide +kernel
theorem dL_law_293 : decode cL_law 293 = .ok (.invokevirtual 38, 3) := by decide +kernel
theorem dL_law_296 : decode cL_law 296 = .ok (.aload_n 2, 1) := by decide +kernel
theorem dL_law_297 : decode cL_law 297 = .ok (.aload_n 0, 1) := by decide +kernel
theorem dL_law_298 : decode cL_law 298 = .ok (.iload_n 3, 1) := by decide +kernel
theorem dL_law_299 : decode cL_law 299 = .ok (.iconst 1, 1) := by decide +kernel
theorem dL_law_300 : decode cL_law 300 = .ok (.iadd, 1) := by decide +kernel
theorem dL_law_301 : decode cL_law 301 = .ok (.iaload, 1) := by decide +kernel
theorem dL_law_302 : decode cL_law 302 = .ok (.invokevirtual 42, 3) := by decide +kernel
theorem dL_law_305 : decode cL_law 305 = .ok (.if_icmp .eq 468, 3) := by decide +kernel
theorem dL_law_308 : decode cL_law 308 = .ok (.iconst 0, 1) := by decide +kernel
theorem dL_law_309 : decode cL_law 309 = .ok (.ireturn, 1) := by decide +kernel
theorem dL_law_310 : decode cL_law 310 = .ok (.aload_n 1, 1) := by decide +kernel
theorem dL_law_311 : decode cL_law 311 = .ok (.invokevirtual 43, 3) := by decide +kernel
theorem dL_law_314 : decode cL_law 314 = .ok (.aload_n 2, 1) := by decide +kernel
theorem dL_law_315 : decode cL_law 315 = .ok (.invokevirtual 46, 3) := by decide +kernel
theorem dL_law_318 : decode cL_law 318 = .ok (.if_icmp .eq 455, 3) := by decide +kernel
theorem dL_law_321 : decode cL_law 321 = .ok (.iconst 0, 1) := by decide +kernel
theorem dL_law_322 : decode cL_law 322 = .ok (.ireturn, 1) := by decide +kernel
theorem dL_law_323 : decode cL_law 323 = .ok (.aload_n 1, 1) := by decide +kernel
theorem dL_law_324 : decode cL_law 324 = .ok (.aload_n 0, 1) := by decide +kernel
theorem dL_law_325 : decode cL_law 325 = .ok (.iload_n 3, 1) := by decide +kernel
theorem dL_law_326 : decode cL_law 326 = .ok (.iconst 1, 1) := by decide +kernel
theorem dL_law_327 : decode cL_law 327 = .ok (.iadd, 1) := by decide +kernel
theorem dL_law_328 : decode cL_law 328 = .ok (.iaload, 1) := by decide +kernel
theorem dL_law_329 : decode cL_law 329 = .ok (.invokevirtual 47, 3) := by decide +kernel
theorem dL_law_332 : decode cL_law 332 = .ok (.aload_n 2, 1) := by decide +kernel
theorem dL_law_333 : decode cL_law 333 = .ok (.aload_n 0, 1) := by decide +kernel
theorem dL_law_334 : decode cL_law 334 = .ok (.iload_n 3, 1) := by decide +kernel
theorem dL_law_335 : decode cL_law 335 = .ok (.iconst 1, 1) := by decide +kernel
theorem dL_law_336 : decode cL_law 336 = .ok (.iadd, 1) := by decide +kernel
theorem dL_law_337 : decode cL_law 337 = .ok (.iaload, 1) := by decide +kernel
theorem dL_law_338 : decode cL_law 338 = .ok (.invokevirtual 50, 3) := by decide +kernel
theorem dL_law_341 : decode cL_law 341 = .ok (.if_icmp .eq 432, 3) := by decide +kernel
theorem dL_law_344 : decode cL_law 344 = .ok (.iconst 0, 1) := by decide +kernel
theorem dL_law_345 : decode cL_law 345 = .ok (.ireturn, 1) := by decide +kernel
theorem dL_law_346 : decode cL_law 346 = .ok (.aload_n 1, 1) := by decide +kernel
theorem dL_law_347 : decode cL_law 347 = .ok (.aload_n 0, 1) := by decide +kernel
theorem dL_law_348 : decode cL_law 348 = .ok (.iload_n 3, 1) := by decide +kernel
theorem dL_law_349 : decode cL_law 349 = .ok (.iconst 1, 1) := by decide +kernel
theorem dL_law_350 : decode cL_law 350 = .ok (.iadd, 1) := by decide +kernel
theorem dL_law_351 : decode cL_law 351 = .ok (.iaload, 1) := by decide +kernel
theorem dL_law_352 : decode cL_law 352 = .ok (.aload_n 0, 1) := by decide +kernel
theorem dL_law_353 : decode cL_law 353 = .ok (.iload_n 3, 1) := by decide +kernel
theorem dL_law_354 : decode cL_law 354 = .ok (.iconst 2, 1) := by decide +kernel
theorem dL_law_355 : decode cL_law 355 = .ok (.iadd, 1) := by decide +kernel
theorem dL_law_356 : decode cL_law 356 = .ok (.iaload, 1) := by decide +kernel
theorem dL_law_357 : decode cL_law 357 = .ok (.invokevirtual 51, 3) := by decide +kernel
theorem dL_law_360 : decode cL_law 360 = .ok (.aload_n 2, 1) := by decide +kernel
theorem dL_law_361 : decode cL_law 361 = .ok (.aload_n 0, 1) := by decide +kernel
theorem dL_law_362 : decode cL_law 362 = .ok (.iload_n 3, 1) := by decide +kernel
theorem dL_law_363 : decode cL_law 363 = .ok (.iconst 1, 1) := by decide +kernel
theorem dL_law_364 : decode cL_law 364 = .ok (.iadd, 1) := by decide +kernel
theorem dL_law_365 : decode cL_law 365 = .ok (.iaload, 1) := by decide +kernel
theorem dL_law_366 : decode cL_law 366 = .ok (.aload_n 0, 1) := by decide +kernel
theorem dL_law_367 : decode cL_law 367 = .ok (.iload_n 3, 1) := by decide +kernel
theorem dL_law_368 : decode cL_law 368 = .ok (.iconst 2, 1) := by decide +kernel
theorem dL_law_369 : decode cL_law 369 = .ok (.iadd, 1) := by decide +kernel
theorem dL_law_370 : decode cL_law 370 = .ok (.iaload, 1) := by decide +kernel
theorem dL_law_371 : decode cL_law 371 = .ok (.invokevirtual 54, 3) := by decide +kernel
theorem dL_law_374 : decode cL_law 374 = .ok (.if_icmp .eq 399, 3) := by decide +kernel
theorem dL_law_377 : decode cL_law 377 = .ok (.iconst 0, 1) := by decide +kernel
theorem dL_law_378 : decode cL_law 378 = .ok (.ireturn, 1) := by decide +kernel
theorem dL_law_379 : decode cL_law 379 = .ok (.aload_n 1, 1) := by decide +kernel
theorem dL_law_380 : decode cL_law 380 = .ok (.aload_n 0, 1) := by decide +kernel
theorem dL_law_381 : decode cL_law 381 = .ok (.iload_n 3, 1) := by decide +kernel
theorem dL_law_382 : decode cL_law 382 = .ok (.iconst 1, 1) := by decide +kernel
theorem dL_law_383 : decode cL_law 383 = .ok (.iadd, 1) := by decide +kernel
theorem dL_law_384 : decode cL_law 384 = .ok (.iaload, 1) := by decide +kernel
theorem dL_law_385 : decode cL_law 385 = .ok (.aload_n 0, 1) := by decide +kernel
theorem dL_law_386 : decode cL_law 386 = .ok (.iload_n 3, 1) := by decide +kernel
theorem dL_law_387 : decode cL_law 387 = .ok (.iconst 2, 1) := by decide +kernel
theorem dL_law_388 : decode cL_law 388 = .ok (.iadd, 1) := by decide +kernel
theorem dL_law_389 : decode cL_law 389 = .ok (.iaload, 1) := by decide +kernel
theorem dL_law_390 : decode cL_law 390 = .ok (.invokevirtual 55, 3) := by decide +kernel
theorem dL_law_393 : decode cL_law 393 = .ok (.aload_n 2, 1) := by decide +kernel
theorem dL_law_394 : decode cL_law 394 = .ok (.aload_n 0, 1) := by decide +kernel
theorem dL_law_395 : decode cL_law 395 = .ok (.iload_n 3, 1) := by decide +kernel
theorem dL_law_396 : decode cL_law 396 = .ok (.iconst 1, 1) := by decide +kernel
theorem dL_law_397 : decode cL_law 397 = .ok (.iadd, 1) := by decide +kernel
theorem dL_law_398 : decode cL_law 398 = .ok (.iaload, 1) := by decide +kernel
theorem dL_law_399 : decode cL_law 399 = .ok (.aload_n 0, 1) := by decide +kernel
theorem dL_law_400 : decode cL_law 400 = .ok (.iload_n 3, 1) := by decide +kernel
theorem dL_law_401 : decode cL_law 401 = .ok (.iconst 2, 1) := by decide +kernel
theorem dL_law_402 : decode cL_law 402 = .ok (.iadd, 1) := by decide +kernel
theorem dL_law_403 : decode cL_law 403 = .ok (.iaload, 1) := by decide +kernel
theorem dL_law_404 : decode cL_law 404 = .ok (.invokevirtual 58, 3) := by decide +kernel
theorem dL_law_407 : decode cL_law 407 = .ok (.if_icmp .eq 366, 3) := by decide +kernel
theorem dL_law_410 : decode cL_law 410 = .ok (.iconst 0, 1) := by decide +kernel
theorem dL_law_411 : decode cL_law 411 = .ok (.ireturn, 1) := by decide +kernel
theorem dL_law_412 : decode cL_law 412 = .ok (.aload_n 1, 1) := by decide +kernel
theorem dL_law_413 : decode cL_law 413 = .ok (.aload_n 0, 1) := by decide +kernel
theorem dL_law_414 : decode cL_law 414 = .ok (.iload_n 3, 1) := by decide +kernel
theorem dL_law_415 : decode cL_law 415 = .ok (.iconst 1, 1) := by decide +kernel
theorem dL_law_416 : decode cL_law 416 = .ok (.iadd, 1) := by decide +kernel
theorem dL_law_417 : decode cL_law 417 = .ok (.iaload, 1) := by decide +kernel
theorem dL_law_418 : decode cL_law 418 = .ok (.aload_n 0, 1) := by decide +kernel
theorem dL_law_419 : decode cL_law 419 = .ok (.iload_n 3, 1) := by decide +kernel
theorem dL_law_420 : decode cL_law 420 = .ok (.iconst 2, 1) := by decide +kernel
theorem dL_law_421 : decode cL_law 421 = .ok (.iadd, 1) := by decide +kernel
theorem dL_law_422 : decode cL_law 422 = .ok (.iaload, 1) := by decide +kernel
theorem dL_law_423 : decode cL_law 423 = .ok (.invokevirtual 59, 3) := by decide +kernel
theorem dL_law_426 : decode cL_law 426 = .ok (.aload_n 2, 1) := by decide +kernel
theorem dL_law_427 : decode cL_law 427 = .ok (.aload_n 0, 1) := by decide +kernel
theorem dL_law_428 : decode cL_law 428 = .ok (.iload_n 3, 1) := by decide +kernel
theorem dL_law_429 : decode cL_law 429 = .ok (.iconst 1, 1) := by decide +kernel
theorem dL_law_430 : decode cL_law 430 = .ok (.iadd, 1) := by decide +kernel
theorem dL_law_431 : decode cL_law 431 = .ok (.iaload, 1) := by decide +kernel
theorem dL_law_432 : decode cL_law 432 = .ok (.aload_n 0, 1) := by decide +kernel
theorem dL_law_433 : decode cL_law 433 = .ok (.iload_n 3, 1) := by decide +kernel
theorem dL_law_434 : decode cL_law 434 = .ok (.iconst 2, 1) := by decide +kernel
theorem dL_law_435 : decode cL_law 435 = .ok (.iadd, 1) := by decide +kernel
theorem dL_law_436 : decode cL_law 436 = .ok (.iaload, 1) := by decide +kernel
theorem dL_law_437 : decode cL_law 437 = .ok (.invokevirtual 62, 3) := by decide +kernel
theorem dL_law_440 : decode cL_law 440 = .ok (.if_icmp .eq 333, 3) := by decide +kernel
theorem dL_law_443 : decode cL_law 443 = .ok (.iconst 0, 1) := by decide +kernel
theorem dL_law_444 : decode cL_law 444 = .ok (.ireturn, 1) := by decide +kernel
theorem dL_law_445 : decode cL_law 445 = .ok (.aload_n 1, 1) := by decide +kernel
theorem dL_law_446 : decode cL_law 446 = .ok (.aload_n 0, 1) := by decide +kernel
theorem dL_law_447 : decode cL_law 447 = .ok (.iload_n 3, 1) := by decide +kernel
theorem dL_law_448 : decode cL_law 448 = .ok (.iconst 1, 1) := by decide +kernel
theorem dL_law_449 : decode cL_law 449 = .ok (.iadd, 1) := by decide +kernel
theorem dL_law_450 : decode cL_law 450 = .ok (.iaload, 1) := by decide +kernel
theorem dL_law_451 : decode cL_law 451 = .ok (.aload_n 0, 1) := by decide +kernel
theorem dL_law_452 : decode cL_law 452 = .ok (.iload_n 3, 1) := by decide +kernel
theorem dL_law_453 : decode cL_law 453 = .ok (.iconst 2, 1) := by decide +kernel
theorem dL_law_454 : decode cL_law 454 = .ok (.iadd, 1) := by decide +kernel
theorem dL_law_455 : decode cL_law 455 = .ok (.iaload, 1) := by decide +kernel
theorem dL_law_456 : decode cL_law 456 = .ok (.invokevirtual 63, 3) := by decide +kernel
theorem dL_law_459 : decode cL_law 459 = .ok (.aload_n 2, 1) := by decide +kernel
theorem dL_law_460 : decode cL_law 460 = .ok (.aload_n 0, 1) := by decide +kernel
theorem dL_law_461 : decode cL_law 461 = .ok (.iload_n 3, 1) := by decide +kernel
theorem dL_law_462 : decode cL_law 462 = .ok (.iconst 1, 1) := by decide +kernel
theorem dL_law_463 : decode cL_law 463 = .ok (.iadd, 1) := by decide +kernel
theorem dL_law_464 : decode cL_law 464 = .ok (.iaload, 1) := by decide +kernel
theorem dL_law_465 : decode cL_law 465 = .ok (.aload_n 0, 1) := by decide +kernel
theorem dL_law_466 : decode cL_law 466 = .ok (.iload_n 3, 1) := by decide +kernel
theorem dL_law_467 : decode cL_law 467 = .ok (.iconst 2, 1) := by decide +kernel
theorem dL_law_468 : decode cL_law 468 = .ok (.iadd, 1) := by decide +kernel
theorem dL_law_469 : decode cL_law 469 = .ok (.iaload, 1) := by decide +kernel
theorem dL_law_470 : decode cL_law 470 = .ok (.invokevirtual 66, 3) := by decide +kernel
theorem dL_law_473 : decode cL_law 473 = .ok (.if_icmp .eq 300, 3) := by decide +kernel
theorem dL_law_476 : decode cL_law 476 = .ok (.iconst 0, 1) := by decide +kernel
theorem dL_law_477 : decode cL_law 477 = .ok (.ireturn, 1) := by decide +kernel
theorem dL_law_478 : decode cL_law 478 = .ok (.aload_n 1, 1) := by decide +kernel
theorem dL_law_479 : decode cL_law 479 = .ok (.invokevirtual 67, 3) := by decide +kernel
theorem dL_law_482 : decode cL_law 482 = .ok (.aload_n 2, 1) := by decide +kernel
theorem dL_law_483 : decode cL_law 483 = .ok (.invokevirtual 70, 3) := by decide +kernel
theorem dL_law_486 : decode cL_law 486 = .ok (.if_icmp .eq 287, 3) := by decide +kernel
theorem dL_law_489 : decode cL_law 489 = .ok (.iconst 0, 1) := by decide +kernel
theorem dL_law_490 : decode cL_law 490 = .ok (.ireturn, 1) := by decide +kernel
theorem dL_law_491 : decode cL_law 491 = .ok (.aload_n 1, 1) := by decide +kernel
theorem dL_law_492 : decode cL_law 492 = .ok (.aload_n 0, 1) := by decide +kernel
theorem dL_law_493 : decode cL_law 493 = .ok (.iload_n 3, 1) := by decide +kernel
theorem dL_law_494 : decode cL_law 494 = .ok (.iconst 1, 1) := by decide +kernel
theorem dL_law_495 : decode cL_law 495 = .ok (.iadd, 1) := by decide +kernel
theorem dL_law_496 : decode cL_law 496 = .ok (.iaload, 1) := by decide +kernel
theorem dL_law_497 : decode cL_law 497 = .ok (.invokevirtual 71, 3) := by decide +kernel
theorem dL_law_500 : decode cL_law 500 = .ok (.aload_n 2, 1) := by decide +kernel
theorem dL_law_501 : decode cL_law 501 = .ok (.aload_n 0, 1) := by decide +kernel
theorem dL_law_502 : decode cL_law 502 = .ok (.iload_n 3, 1) := by decide +kernel
theorem dL_law_503 : decode cL_law 503 = .ok (.iconst 1, 1) := by decide +kernel
theorem dL_law_504 : decode cL_law 504 = .ok (.iadd, 1) := by decide +kernel
theorem dL_law_505 : decode cL_law 505 = .ok (.iaload, 1) := by decide +kernel
theorem dL_law_506 : decode cL_law 506 = .ok (.invokevirtual 74, 3) := by decide +kernel
theorem dL_law_509 : decode cL_law 509 = .ok (.if_icmp .eq 264, 3) := by decide +kernel
theorem dL_law_512 : decode cL_law 512 = .ok (.iconst 0, 1) := by decide +kernel
theorem dL_law_513 : decode cL_law 513 = .ok (.ireturn, 1) := by decide +kernel
theorem dL_law_514 : decode cL_law 514 = .ok (.aload_n 1, 1) := by decide +kernel
theorem dL_law_515 : decode cL_law 515 = .ok (.aload_n 0, 1) := by decide +kernel
theorem dL_law_516 : decode cL_law 516 = .ok (.iload_n 3, 1) := by decide +kernel
theorem dL_law_517 : decode cL_law 517 = .ok (.iconst 1, 1) := by decide +kernel
theorem dL_law_518 : decode cL_law 518 = .ok (.iadd, 1) := by decide +kernel
theorem dL_law_519 : decode cL_law 519 = .ok (.iaload, 1) := by decide +kernel
theorem dL_law_520 : decode cL_law 520 = .ok (.invokevirtual 75, 3) := by decide +kernel
theorem dL_law_523 : decode cL_law 523 = .ok (.aload_n 2, 1) := by decide +kernel
theorem dL_law_524 : decode cL_law 524 = .ok (.aload_n 0, 1) := by decide +kernel
theorem dL_law_525 : decode cL_law 525 = .ok (.iload_n 3, 1) := by decide +kernel
theorem dL_law_526 : decode cL_law 526 = .ok (.iconst 1, 1) := by decide +kernel
theorem dL_law_527 : decode cL_law 527 = .ok (.iadd, 1) := by decide +kernel
theorem dL_law_528 : decode cL_law 528 = .ok (.iaload, 1) := by decide +kernel
theorem dL_law_529 : decode cL_law 529 = .ok (.invokevirtual 78, 3) := by decide +kernel
theorem dL_law_532 : decode cL_law 532 = .ok (.if_icmp .eq 241, 3) := by decide +kernel
theorem dL_law_535 : decode cL_law 535 = .ok (.iconst 0, 1) := by decide +kernel
theorem dL_law_536 : decode cL_law 536 = .ok (.ireturn, 1) := by decide +kernel
theorem dL_law_537 : decode cL_law 537 = .ok (.aload_n 1, 1) := by decide +kernel
theorem dL_law_538 : decode cL_law 538 = .ok (.invokevirtual 79, 3) := by decide +kernel
theorem dL_law_541 : decode cL_law 541 = .ok (.aload_n 2, 1) := by decide +kernel
theorem dL_law_542 : decode cL_law 542 = .ok (.invokevirtual 82, 3) := by decide +kernel
theorem dL_law_545 : decode cL_law 545 = .ok (.if_icmp .eq 228, 3) := by decide +kernel
theorem dL_law_548 : decode cL_law 548 = .ok (.iconst 0, 1) := by decide +kernel
theorem dL_law_549 : decode cL_law 549 = .ok (.ireturn, 1) := by decide +kernel
theorem dL_law_550 : decode cL_law 550 = .ok (.aload_n 1, 1) := by decide +kernel
theorem dL_law_551 : decode cL_law 551 = .ok (.aload_n 0, 1) := by decide +kernel
theorem dL_law_552 : decode cL_law 552 = .ok (.iload_n 3, 1) := by decide +kernel
theorem dL_law_553 : decode cL_law 553 = .ok (.iconst 1, 1) := by decide +kernel
theorem dL_law_554 : decode cL_law 554 = .ok (.iadd, 1) := by decide +kernel
theorem dL_law_555 : decode cL_law 555 = .ok (.iaload, 1) := by decide +kernel
theorem dL_law_556 : decode cL_law 556 = .ok (.invokevirtual 83, 3) := by decide +kernel
theorem dL_law_559 : decode cL_law 559 = .ok (.aload_n 2, 1) := by decide +kernel
theorem dL_law_560 : decode cL_law 560 = .ok (.aload_n 0, 1) := by decide +kernel
theorem dL_law_561 : decode cL_law 561 = .ok (.iload_n 3, 1) := by decide +kernel
theorem dL_law_562 : decode cL_law 562 = .ok (.iconst 1, 1) := by decide +kernel
theorem dL_law_563 : decode cL_law 563 = .ok (.iadd, 1) := by decide +kernel
theorem dL_law_564 : decode cL_law 564 = .ok (.iaload, 1) := by decide +kernel
theorem dL_law_565 : decode cL_law 565 = .ok (.invokevirtual 87, 3) := by decide +kernel
theorem dL_law_568 : decode cL_law 568 = .ok (.lcmp, 1) := by decide +kernel
theorem dL_law_569 : decode cL_law 569 = .ok (.ifCond .eq 204, 3) := by decide +kernel
theorem dL_law_572 : decode cL_law 572 = .ok (.iconst 0, 1) := by decide +kernel
theorem dL_law_573 : decode cL_law 573 = .ok (.ireturn, 1) := by decide +kernel
theorem dL_law_574 : decode cL_law 574 = .ok (.aload_n 1, 1) := by decide +kernel
theorem dL_law_575 : decode cL_law 575 = .ok (.aload_n 0, 1) := by decide +kernel
theorem dL_law_576 : decode cL_law 576 = .ok (.iload_n 3, 1) := by decide +kernel
theorem dL_law_577 : decode cL_law 577 = .ok (.iconst 1, 1) := by decide +kernel
theorem dL_law_578 : decode cL_law 578 = .ok (.iadd, 1) := by decide +kernel
theorem dL_law_579 : decode cL_law 579 = .ok (.iaload, 1) := by decide +kernel
theorem dL_law_580 : decode cL_law 580 = .ok (.aload_n 0, 1) := by decide +kernel
theorem dL_law_581 : decode cL_law 581 = .ok (.iload_n 3, 1) := by decide +kernel
theorem dL_law_582 : decode cL_law 582 = .ok (.iconst 2, 1) := by decide +kernel
theorem dL_law_583 : decode cL_law 583 = .ok (.iadd, 1) := by decide +kernel
theorem dL_law_584 : decode cL_law 584 = .ok (.iaload, 1) := by decide +kernel
theorem dL_law_585 : decode cL_law 585 = .ok (.aload_n 0, 1) := by decide +kernel
theorem dL_law_586 : decode cL_law 586 = .ok (.iload_n 3, 1) := by decide +kernel
theorem dL_law_587 : decode cL_law 587 = .ok (.iconst 3, 1) := by decide +kernel
theorem dL_law_588 : decode cL_law 588 = .ok (.iadd, 1) := by decide +kernel
theorem dL_law_589 : decode cL_law 589 = .ok (.iaload, 1) := by decide +kernel
theorem dL_law_590 : decode cL_law 590 = .ok (.invokevirtual 88, 3) := by decide +kernel
theorem dL_law_593 : decode cL_law 593 = .ok (.aload_n 2, 1) := by decide +kernel
theorem dL_law_594 : decode cL_law 594 = .ok (.aload_n 0, 1) := by decide +kernel
theorem dL_law_595 : decode cL_law 595 = .ok (.iload_n 3, 1) := by decide +kernel
theorem dL_law_596 : decode cL_law 596 = .ok (.iconst 1, 1) := by decide +kernel
theorem dL_law_597 : decode cL_law 597 = .ok (.iadd, 1) := by decide +kernel
theorem dL_law_598 : decode cL_law 598 = .ok (.iaload, 1) := by decide +kernel
theorem dL_law_599 : decode cL_law 599 = .ok (.aload_n 0, 1) := by decide +kernel
theorem dL_law_600 : decode cL_law 600 = .ok (.iload_n 3, 1) := by decide +kernel
theorem dL_law_601 : decode cL_law 601 = .ok (.iconst 2, 1) := by decide +kernel
theorem dL_law_602 : decode cL_law 602 = .ok (.iadd, 1) := by decide +kernel
theorem dL_law_603 : decode cL_law 603 = .ok (.iaload, 1) := by decide +kernel
theorem dL_law_604 : decode cL_law 604 = .ok (.aload_n 0, 1) := by decide +kernel
theorem dL_law_605 : decode cL_law 605 = .ok (.iload_n 3, 1) := by decide +kernel
theorem dL_law_606 : decode cL_law 606 = .ok (.iconst 3, 1) := by decide +kernel
theorem dL_law_607 : decode cL_law 607 = .ok (.iadd, 1) := by decide +kernel
theorem dL_law_608 : decode cL_law 608 = .ok (.iaload, 1) := by decide +kernel
theorem dL_law_609 : decode cL_law 609 = .ok (.invokevirtual 92, 3) := by decide +kernel
theorem dL_law_612 : decode cL_law 612 = .ok (.lcmp, 1) := by decide +kernel
theorem dL_law_613 : decode cL_law 613 = .ok (.ifCond .eq 160, 3) := by decide +kernel
theorem dL_law_616 : decode cL_law 616 = .ok (.iconst 0, 1) := by decide +kernel
theorem dL_law_617 : decode cL_law 617 = .ok (.ireturn, 1) := by decide +kernel
theorem dL_law_618 : decode cL_law 618 = .ok (.aload_n 1, 1) := by decide +kernel
theorem dL_law_619 : decode cL_law 619 = .ok (.aload_n 0, 1) := by decide +kernel
theorem dL_law_620 : decode cL_law 620 = .ok (.iload_n 3, 1) := by decide +kernel
theorem dL_law_621 : decode cL_law 621 = .ok (.iconst 1, 1) := by decide +kernel
theorem dL_law_622 : decode cL_law 622 = .ok (.iadd, 1) := by decide +kernel
theorem dL_law_623 : decode cL_law 623 = .ok (.iaload, 1) := by decide +kernel
theorem dL_law_624 : decode cL_law 624 = .ok (.invokevirtual 93, 3) := by decide +kernel
theorem dL_law_627 : decode cL_law 627 = .ok (.aload_n 2, 1) := by decide +kernel
theorem dL_law_628 : decode cL_law 628 = .ok (.aload_n 0, 1) := by decide +kernel
theorem dL_law_629 : decode cL_law 629 = .ok (.iload_n 3, 1) := by decide +kernel
theorem dL_law_630 : decode cL_law 630 = .ok (.iconst 1, 1) := by decide +kernel
theorem dL_law_631 : decode cL_law 631 = .ok (.iadd, 1) := by decide +kernel
theorem dL_law_632 : decode cL_law 632 = .ok (.iaload, 1) := by decide +kernel
theorem dL_law_633 : decode cL_law 633 = .ok (.invokevirtual 96, 3) := by decide +kernel
theorem dL_law_636 : decode cL_law 636 = .ok (.if_icmp .eq 137, 3) := by decide +kernel
theorem dL_law_639 : decode cL_law 639 = .ok (.iconst 0, 1) := by decide +kernel
theorem dL_law_640 : decode cL_law 640 = .ok (.ireturn, 1) := by decide +kernel
theorem dL_law_641 : decode cL_law 641 = .ok (.aload_n 1, 1) := by decide +kernel
theorem dL_law_642 : decode cL_law 642 = .ok (.aload_n 0, 1) := by decide +kernel
theorem dL_law_643 : decode cL_law 643 = .ok (.iload_n 3, 1) := by decide +kernel
theorem dL_law_644 : decode cL_law 644 = .ok (.iconst 1, 1) := by decide +kernel
theorem dL_law_645 : decode cL_law 645 = .ok (.iadd, 1) := by decide +kernel
theorem dL_law_646 : decode cL_law 646 = .ok (.iaload, 1) := by decide +kernel
theorem dL_law_647 : decode cL_law 647 = .ok (.aload_n 0, 1) := by decide +kernel
theorem dL_law_648 : decode cL_law 648 = .ok (.iload_n 3, 1) := by decide +kernel
theorem dL_law_649 : decode cL_law 649 = .ok (.iconst 2, 1) := by decide +kernel
theorem dL_law_650 : decode cL_law 650 = .ok (.iadd, 1) := by decide +kernel
theorem dL_law_651 : decode cL_law 651 = .ok (.iaload, 1) := by decide +kernel
theorem dL_law_652 : decode cL_law 652 = .ok (.invokevirtual 97, 3) := by decide +kernel
theorem dL_law_655 : decode cL_law 655 = .ok (.aload_n 2, 1) := by decide +kernel
theorem dL_law_656 : decode cL_law 656 = .ok (.aload_n 0, 1) := by decide +kernel
theorem dL_law_657 : decode cL_law 657 = .ok (.iload_n 3, 1) := by decide +kernel
theorem dL_law_658 : decode cL_law 658 = .ok (.iconst 1, 1) := by decide +kernel
theorem dL_law_659 : decode cL_law 659 = .ok (.iadd, 1) := by decide +kernel
theorem dL_law_660 : decode cL_law 660 = .ok (.iaload, 1) := by decide +kernel
theorem dL_law_661 : decode cL_law 661 = .ok (.aload_n 0, 1) := by decide +kernel
theorem dL_law_662 : decode cL_law 662 = .ok (.iload_n 3, 1) := by decide +kernel
theorem dL_law_663 : decode cL_law 663 = .ok (.iconst 2, 1) := by decide +kernel
theorem dL_law_664 : decode cL_law 664 = .ok (.iadd, 1) := by decide +kernel
theorem dL_law_665 : decode cL_law 665 = .ok (.iaload, 1) := by decide +kernel
theorem dL_law_666 : decode cL_law 666 = .ok (.invokevirtual 100, 3) := by decide +kernel
theorem dL_law_669 : decode cL_law 669 = .ok (.if_icmp .eq 104, 3) := by decide +kernel
theorem dL_law_672 : decode cL_law 672 = .ok (.iconst 0, 1) := by decide +kernel
theorem dL_law_673 : decode cL_law 673 = .ok (.ireturn, 1) := by decide +kernel
theorem dL_law_674 : decode cL_law 674 = .ok (.aload_n 1, 1) := by decide +kernel
theorem dL_law_675 : decode cL_law 675 = .ok (.invokevirtual 101, 3) := by decide +kernel
theorem dL_law_678 : decode cL_law 678 = .ok (.aload_n 2, 1) := by decide +kernel
theorem dL_law_679 : decode cL_law 679 = .ok (.invokevirtual 104, 3) := by decide +kernel
theorem dL_law_682 : decode cL_law 682 = .ok (.if_icmp .eq 91, 3) := by decide +kernel
theorem dL_law_685 : decode cL_law 685 = .ok (.iconst 0, 1) := by decide +kernel
theorem dL_law_686 : decode cL_law 686 = .ok (.ireturn, 1) := by decide +kernel
theorem dL_law_687 : decode cL_law 687 = .ok (.aload_n 1, 1) := by decide +kernel
theorem dL_law_688 : decode cL_law 688 = .ok (.aload_n 0, 1) := by decide +kernel
theorem dL_law_689 : decode cL_law 689 = .ok (.iload_n 3, 1) := by decide +kernel
theorem dL_law_690 : decode cL_law 690 = .ok (.iconst 1, 1) := by decide +kernel
theorem dL_law_691 : decode cL_law 691 = .ok (.iadd, 1) := by decide +kernel
theorem dL_law_692 : decode cL_law 692 = .ok (.iaload, 1) := by decide +kernel
theorem dL_law_693 : decode cL_law 693 = .ok (.invokevirtual 105, 3) := by decide +kernel
theorem dL_law_696 : decode cL_law 696 = .ok (.aload_n 2, 1) := by decide +kernel
theorem dL_law_697 : decode cL_law 697 = .ok (.aload_n 0, 1) := by decide +kernel
theorem dL_law_698 : decode cL_law 698 = .ok (.iload_n 3, 1) := by decide +kernel
theorem dL_law_699 : decode cL_law 699 = .ok (.iconst 1, 1) := by decide +kernel
theorem dL_law_700 : decode cL_law 700 = .ok (.iadd, 1) := by decide +kernel
theorem dL_law_701 : decode cL_law 701 = .ok (.iaload, 1) := by decide +kernel
theorem dL_law_702 : decode cL_law 702 = .ok (.invokevirtual 108, 3) := by decide +kernel
theorem dL_law_705 : decode cL_law 705 = .ok (.if_icmp .eq 68, 3) := by decide +kernel
theorem dL_law_708 : decode cL_law 708 = .ok (.iconst 0, 1) := by decide +kernel
theorem dL_law_709 : decode cL_law 709 = .ok (.ireturn, 1) := by decide +kernel
theorem dL_law_710 : decode cL_law 710 = .ok (.aload_n 1, 1) := by decide +kernel
theorem dL_law_711 : decode cL_law 711 = .ok (.invokevirtual 109, 3) := by decide +kernel
theorem dL_law_714 : decode cL_law 714 = .ok (.aload_n 2, 1) := by decide +kernel
theorem dL_law_715 : decode cL_law 715 = .ok (.invokevirtual 113, 3) := by decide +kernel
theorem dL_law_718 : decode cL_law 718 = .ok (.lcmp, 1) := by decide +kernel
theorem dL_law_719 : decode cL_law 719 = .ok (.ifCond .eq 54, 3) := by decide +kernel
theorem dL_law_722 : decode cL_law 722 = .ok (.iconst 0, 1) := by decide +kernel
theorem dL_law_723 : decode cL_law 723 = .ok (.ireturn, 1) := by decide +kernel
theorem dL_law_724 : decode cL_law 724 = .ok (.aload_n 1, 1) := by decide +kernel
theorem dL_law_725 : decode cL_law 725 = .ok (.invokevirtual 114, 3) := by decide +kernel
theorem dL_law_728 : decode cL_law 728 = .ok (.aload_n 2, 1) := by decide +kernel
theorem dL_law_729 : decode cL_law 729 = .ok (.invokevirtual 117, 3) := by decide +kernel
theorem dL_law_732 : decode cL_law 732 = .ok (.if_icmp .eq 41, 3) := by decide +kernel
theorem dL_law_735 : decode cL_law 735 = .ok (.iconst 0, 1) := by decide +kernel
theorem dL_law_736 : decode cL_law 736 = .ok (.ireturn, 1) := by decide +kernel
theorem dL_law_737 : decode cL_law 737 = .ok (.aload_n 1, 1) := by decide +kernel
theorem dL_law_738 : decode cL_law 738 = .ok (.invokevirtual 118, 3) := by decide +kernel
theorem dL_law_741 : decode cL_law 741 = .ok (.aload_n 2, 1) := by decide +kernel
theorem dL_law_742 : decode cL_law 742 = .ok (.invokevirtual 121, 3) := by decide +kernel
theorem dL_law_745 : decode cL_law 745 = .ok (.if_icmp .eq 28, 3) := by decide +kernel
theorem dL_law_748 : decode cL_law 748 = .ok (.iconst 0, 1) := by decide +kernel
theorem dL_law_749 : decode cL_law 749 = .ok (.ireturn, 1) := by decide +kernel
theorem dL_law_750 : decode cL_law 750 = .ok (.aload_n 1, 1) := by decide +kernel
theorem dL_law_751 : decode cL_law 751 = .ok (.aload_n 0, 1) := by decide +kernel
theorem dL_law_752 : decode cL_law 752 = .ok (.iload_n 3, 1) := by decide +kernel
theorem dL_law_753 : decode cL_law 753 = .ok (.iconst 1, 1) := by decide +kernel
theorem dL_law_754 : decode cL_law 754 = .ok (.iadd, 1) := by decide +kernel
theorem dL_law_755 : decode cL_law 755 = .ok (.iaload, 1) := by decide +kernel
theorem dL_law_756 : decode cL_law 756 = .ok (.invokevirtual 122, 3) := by decide +kernel
theorem dL_law_759 : decode cL_law 759 = .ok (.aload_n 2, 1) := by decide +kernel
theorem dL_law_760 : decode cL_law 760 = .ok (.aload_n 0, 1) := by decide +kernel
theorem dL_law_761 : decode cL_law 761 = .ok (.iload_n 3, 1) := by decide +kernel
theorem dL_law_762 : decode cL_law 762 = .ok (.iconst 1, 1) := by decide +kernel
theorem dL_law_763 : decode cL_law 763 = .ok (.iadd, 1) := by decide +kernel
theorem dL_law_764 : decode cL_law 764 = .ok (.iaload, 1) := by decide +kernel
theorem dL_law_765 : decode cL_law 765 = .ok (.invokevirtual 125, 3) := by decide +kernel
theorem dL_law_768 : decode cL_law 768 = .ok (.if_icmp .eq 5, 3) := by decide +kernel
theorem dL_law_771 : decode cL_law 771 = .ok (.iconst 0, 1) := by decide +kernel
theorem dL_law_772 : decode cL_law 772 = .ok (.ireturn, 1) := by decide +kernel
theorem dL_law_773 : decode cL_law 773 = .ok (.iinc 3 4, 3) := by decide +kernel
theorem dL_law_776 : decode cL_law 776 = .ok (.goto (-758), 3) := by decide +kernel
theorem dL_law_779 : decode cL_law 779 = .ok (.iconst 1, 1) := by decide +kernel
theorem dL_law_780 : decode cL_law 780 = .ok (.ireturn, 1) := by decide +kernel
