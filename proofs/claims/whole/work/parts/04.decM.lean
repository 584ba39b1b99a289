theorem zd_M_init_0 : decode zb_M_init 0 = .ok (.aload_n 0, 1) ∧ 0 + 1 = 1 := ⟨by decide +kernel, rfl⟩
theorem zd_M_init_1 : decode zb_M_init 1 = .ok (.invokespecial 1, 3) ∧ 1 + 3 = 4 := ⟨by decide +kernel, rfl⟩
theorem zd_M_init_4 : decode zb_M_init 4 = .ok (.aload_n 0, 1) ∧ 4 + 1 = 5 := ⟨by decide +kernel, rfl⟩
theorem zd_M_init_5 : decode zb_M_init 5 = .ok (.sipush 1600, 3) ∧ 5 + 3 = 8 := ⟨by decide +kernel, rfl⟩
theorem zd_M_init_8 : decode zb_M_init 8 = .ok (.newarray .int, 2) ∧ 8 + 2 = 10 := ⟨by decide +kernel, rfl⟩
theorem zd_M_init_10 : decode zb_M_init 10 = .ok (.putfield 7, 3) ∧ 10 + 3 = 13 := ⟨by decide +kernel, rfl⟩
theorem zd_M_init_13 : decode zb_M_init 13 = .ok (.aload_n 0, 1) ∧ 13 + 1 = 14 := ⟨by decide +kernel, rfl⟩
theorem zd_M_init_14 : decode zb_M_init 14 = .ok (.iconst 0, 1) ∧ 14 + 1 = 15 := ⟨by decide +kernel, rfl⟩
theorem zd_M_init_15 : decode zb_M_init 15 = .ok (.putfield 13, 3) ∧ 15 + 3 = 18 := ⟨by decide +kernel, rfl⟩
theorem zd_M_init_18 : decode zb_M_init 18 = .ok (.aload_n 0, 1) ∧ 18 + 1 = 19 := ⟨by decide +kernel, rfl⟩
theorem zd_M_init_19 : decode zb_M_init 19 = .ok (.iconst 0, 1) ∧ 19 + 1 = 20 := ⟨by decide +kernel, rfl⟩
theorem zd_M_init_20 : decode zb_M_init 20 = .ok (.putfield 17, 3) ∧ 20 + 3 = 23 := ⟨by decide +kernel, rfl⟩
theorem zd_M_init_23 : decode zb_M_init 23 = .ok (.aload_n 0, 1) ∧ 23 + 1 = 24 := ⟨by decide +kernel, rfl⟩
theorem zd_M_init_24 : decode zb_M_init 24 = .ok (.iconst (-1), 1) ∧ 24 + 1 = 25 := ⟨by decide +kernel, rfl⟩
theorem zd_M_init_25 : decode zb_M_init 25 = .ok (.putfield 20, 3) ∧ 25 + 3 = 28 := ⟨by decide +kernel, rfl⟩
theorem zd_M_init_28 : decode zb_M_init 28 = .ok (.aload_n 0, 1) ∧ 28 + 1 = 29 := ⟨by decide +kernel, rfl⟩
theorem zd_M_init_29 : decode zb_M_init 29 = .ok (.iconst 0, 1) ∧ 29 + 1 = 30 := ⟨by decide +kernel, rfl⟩
theorem zd_M_init_30 : decode zb_M_init 30 = .ok (.putfield 23, 3) ∧ 30 + 3 = 33 := ⟨by decide +kernel, rfl⟩
theorem zd_M_init_33 : decode zb_M_init 33 = .ok (.aload_n 0, 1) ∧ 33 + 1 = 34 := ⟨by decide +kernel, rfl⟩
theorem zd_M_init_34 : decode zb_M_init 34 = .ok (.iconst 0, 1) ∧ 34 + 1 = 35 := ⟨by decide +kernel, rfl⟩
theorem zd_M_init_35 : decode zb_M_init 35 = .ok (.putfield 26, 3) ∧ 35 + 3 = 38 := ⟨by decide +kernel, rfl⟩
theorem zd_M_init_38 : decode zb_M_init 38 = .ok (.aload_n 0, 1) ∧ 38 + 1 = 39 := ⟨by decide +kernel, rfl⟩
theorem zd_M_init_39 : decode zb_M_init 39 = .ok (.iconst 0, 1) ∧ 39 + 1 = 40 := ⟨by decide +kernel, rfl⟩
theorem zd_M_init_40 : decode zb_M_init 40 = .ok (.putfield 29, 3) ∧ 40 + 3 = 43 := ⟨by decide +kernel, rfl⟩
theorem zd_M_init_43 : decode zb_M_init 43 = .ok (.aload_n 0, 1) ∧ 43 + 1 = 44 := ⟨by decide +kernel, rfl⟩
theorem zd_M_init_44 : decode zb_M_init 44 = .ok (.iconst 0, 1) ∧ 44 + 1 = 45 := ⟨by decide +kernel, rfl⟩
theorem zd_M_init_45 : decode zb_M_init 45 = .ok (.putfield 32, 3) ∧ 45 + 3 = 48 := ⟨by decide +kernel, rfl⟩
theorem zd_M_init_48 : decode zb_M_init 48 = .ok (.aload_n 0, 1) ∧ 48 + 1 = 49 := ⟨by decide +kernel, rfl⟩
theorem zd_M_init_49 : decode zb_M_init 49 = .ok (.lconst 0, 1) ∧ 49 + 1 = 50 := ⟨by decide +kernel, rfl⟩
theorem zd_M_init_50 : decode zb_M_init 50 = .ok (.putfield 35, 3) ∧ 50 + 3 = 53 := ⟨by decide +kernel, rfl⟩
theorem zd_M_init_53 : decode zb_M_init 53 = .ok (.aload_n 0, 1) ∧ 53 + 1 = 54 := ⟨by decide +kernel, rfl⟩
theorem zd_M_init_54 : decode zb_M_init 54 = .ok (.iconst 0, 1) ∧ 54 + 1 = 55 := ⟨by decide +kernel, rfl⟩
theorem zd_M_init_55 : decode zb_M_init 55 = .ok (.putfield 39, 3) ∧ 55 + 3 = 58 := ⟨by decide +kernel, rfl⟩
theorem zd_M_init_58 : decode zb_M_init 58 = .ok (.aload_n 0, 1) ∧ 58 + 1 = 59 := ⟨by decide +kernel, rfl⟩
theorem zd_M_init_59 : decode zb_M_init 59 = .ok (.iconst 0, 1) ∧ 59 + 1 = 60 := ⟨by decide +kernel, rfl⟩
theorem zd_M_init_60 : decode zb_M_init 60 = .ok (.putfield 42, 3) ∧ 60 + 3 = 63 := ⟨by decide +kernel, rfl⟩
theorem zd_M_init_63 : decode zb_M_init 63 = .ok (.aload_n 0, 1) ∧ 63 + 1 = 64 := ⟨by decide +kernel, rfl⟩
theorem zd_M_init_64 : decode zb_M_init 64 = .ok (.iconst (-1), 1) ∧ 64 + 1 = 65 := ⟨by decide +kernel, rfl⟩
theorem zd_M_init_65 : decode zb_M_init 65 = .ok (.putfield 45, 3) ∧ 65 + 3 = 68 := ⟨by decide +kernel, rfl⟩
theorem zd_M_init_68 : decode zb_M_init 68 = .ok (.aload_n 0, 1) ∧ 68 + 1 = 69 := ⟨by decide +kernel, rfl⟩
theorem zd_M_init_69 : decode zb_M_init 69 = .ok (.iconst (-1), 1) ∧ 69 + 1 = 70 := ⟨by decide +kernel, rfl⟩
theorem zd_M_init_70 : decode zb_M_init 70 = .ok (.putfield 48, 3) ∧ 70 + 3 = 73 := ⟨by decide +kernel, rfl⟩
theorem zd_M_init_73 : decode zb_M_init 73 = .ok (.aload_n 0, 1) ∧ 73 + 1 = 74 := ⟨by decide +kernel, rfl⟩
theorem zd_M_init_74 : decode zb_M_init 74 = .ok (.iconst 0, 1) ∧ 74 + 1 = 75 := ⟨by decide +kernel, rfl⟩
theorem zd_M_init_75 : decode zb_M_init 75 = .ok (.putfield 51, 3) ∧ 75 + 3 = 78 := ⟨by decide +kernel, rfl⟩
theorem zd_M_init_78 : decode zb_M_init 78 = .ok (.aload_n 0, 1) ∧ 78 + 1 = 79 := ⟨by decide +kernel, rfl⟩
theorem zd_M_init_79 : decode zb_M_init 79 = .ok (.iconst 2, 1) ∧ 79 + 1 = 80 := ⟨by decide +kernel, rfl⟩
theorem zd_M_init_80 : decode zb_M_init 80 = .ok (.newarray .int, 2) ∧ 80 + 2 = 82 := ⟨by decide +kernel, rfl⟩
theorem zd_M_init_82 : decode zb_M_init 82 = .ok (.putfield 54, 3) ∧ 82 + 3 = 85 := ⟨by decide +kernel, rfl⟩
theorem zd_M_init_85 : decode zb_M_init 85 = .ok (.aload_n 0, 1) ∧ 85 + 1 = 86 := ⟨by decide +kernel, rfl⟩
theorem zd_M_init_86 : decode zb_M_init 86 = .ok (.iconst 2, 1) ∧ 86 + 1 = 87 := ⟨by decide +kernel, rfl⟩
theorem zd_M_init_87 : decode zb_M_init 87 = .ok (.newarray .int, 2) ∧ 87 + 2 = 89 := ⟨by decide +kernel, rfl⟩
theorem zd_M_init_89 : decode zb_M_init 89 = .ok (.putfield 57, 3) ∧ 89 + 3 = 92 := ⟨by decide +kernel, rfl⟩
theorem zd_M_init_92 : decode zb_M_init 92 = .ok (.aload_n 0, 1) ∧ 92 + 1 = 93 := ⟨by decide +kernel, rfl⟩
theorem zd_M_init_93 : decode zb_M_init 93 = .ok (.iconst 2, 1) ∧ 93 + 1 = 94 := ⟨by decide +kernel, rfl⟩
theorem zd_M_init_94 : decode zb_M_init 94 = .ok (.newarray .int, 2) ∧ 94 + 2 = 96 := ⟨by decide +kernel, rfl⟩
theorem zd_M_init_96 : decode zb_M_init 96 = .ok (.putfield 60, 3) ∧ 96 + 3 = 99 := ⟨by decide +kernel, rfl⟩
theorem zd_M_init_99 : decode zb_M_init 99 = .ok (.aload_n 0, 1) ∧ 99 + 1 = 100 := ⟨by decide +kernel, rfl⟩
theorem zd_M_init_100 : decode zb_M_init 100 = .ok (.iconst 2, 1) ∧ 100 + 1 = 101 := ⟨by decide +kernel, rfl⟩
theorem zd_M_init_101 : decode zb_M_init 101 = .ok (.newarray .int, 2) ∧ 101 + 2 = 103 := ⟨by decide +kernel, rfl⟩
theorem zd_M_init_103 : decode zb_M_init 103 = .ok (.putfield 63, 3) ∧ 103 + 3 = 106 := ⟨by decide +kernel, rfl⟩
theorem zd_M_init_106 : decode zb_M_init 106 = .ok (.aload_n 0, 1) ∧ 106 + 1 = 107 := ⟨by decide +kernel, rfl⟩
theorem zd_M_init_107 : decode zb_M_init 107 = .ok (.iconst 2, 1) ∧ 107 + 1 = 108 := ⟨by decide +kernel, rfl⟩
theorem zd_M_init_108 : decode zb_M_init 108 = .ok (.newarray .int, 2) ∧ 108 + 2 = 110 := ⟨by decide +kernel, rfl⟩
theorem zd_M_init_110 : decode zb_M_init 110 = .ok (.putfield 66, 3) ∧ 110 + 3 = 113 := ⟨by decide +kernel, rfl⟩
theorem zd_M_init_113 : decode zb_M_init 113 = .ok (.aload_n 0, 1) ∧ 113 + 1 = 114 := ⟨by decide +kernel, rfl⟩
theorem zd_M_init_114 : decode zb_M_init 114 = .ok (.iconst 2, 1) ∧ 114 + 1 = 115 := ⟨by decide +kernel, rfl⟩
theorem zd_M_init_115 : decode zb_M_init 115 = .ok (.newarray .int, 2) ∧ 115 + 2 = 117 := ⟨by decide +kernel, rfl⟩
theorem zd_M_init_117 : decode zb_M_init 117 = .ok (.putfield 69, 3) ∧ 117 + 3 = 120 := ⟨by decide +kernel, rfl⟩
theorem zd_M_init_120 : decode zb_M_init 120 = .ok (.aload_n 0, 1) ∧ 120 + 1 = 121 := ⟨by decide +kernel, rfl⟩
theorem zd_M_init_121 : decode zb_M_init 121 = .ok (.iconst 2, 1) ∧ 121 + 1 = 122 := ⟨by decide +kernel, rfl⟩
theorem zd_M_init_122 : decode zb_M_init 122 = .ok (.newarray .int, 2) ∧ 122 + 2 = 124 := ⟨by decide +kernel, rfl⟩
theorem zd_M_init_124 : decode zb_M_init 124 = .ok (.putfield 72, 3) ∧ 124 + 3 = 127 := ⟨by decide +kernel, rfl⟩
theorem zd_M_init_127 : decode zb_M_init 127 = .ok (.aload_n 0, 1) ∧ 127 + 1 = 128 := ⟨by decide +kernel, rfl⟩
theorem zd_M_init_128 : decode zb_M_init 128 = .ok (.sipush 288, 3) ∧ 128 + 3 = 131 := ⟨by decide +kernel, rfl⟩
theorem zd_M_init_131 : decode zb_M_init 131 = .ok (.newarray .int, 2) ∧ 131 + 2 = 133 := ⟨by decide +kernel, rfl⟩
theorem zd_M_init_133 : decode zb_M_init 133 = .ok (.putfield 75, 3) ∧ 133 + 3 = 136 := ⟨by decide +kernel, rfl⟩
theorem zd_M_init_136 : decode zb_M_init 136 = .ok (.aload_n 0, 1) ∧ 136 + 1 = 137 := ⟨by decide +kernel, rfl⟩
theorem zd_M_init_137 : decode zb_M_init 137 = .ok (.sipush 288, 3) ∧ 137 + 3 = 140 := ⟨by decide +kernel, rfl⟩
theorem zd_M_init_140 : decode zb_M_init 140 = .ok (.newarray .int, 2) ∧ 140 + 2 = 142 := ⟨by decide +kernel, rfl⟩
theorem zd_M_init_142 : decode zb_M_init 142 = .ok (.putfield 78, 3) ∧ 142 + 3 = 145 := ⟨by decide +kernel, rfl⟩
theorem zd_M_init_145 : decode zb_M_init 145 = .ok (.aload_n 0, 1) ∧ 145 + 1 = 146 := ⟨by decide +kernel, rfl⟩
theorem zd_M_init_146 : decode zb_M_init 146 = .ok (.sipush 288, 3) ∧ 146 + 3 = 149 := ⟨by decide +kernel, rfl⟩
theorem zd_M_init_149 : decode zb_M_init 149 = .ok (.newarray .int, 2) ∧ 149 + 2 = 151 := ⟨by decide +kernel, rfl⟩
theorem zd_M_init_151 : decode zb_M_init 151 = .ok (.putfield 81, 3) ∧ 151 + 3 = 154 := ⟨by decide +kernel, rfl⟩
theorem zd_M_init_154 : decode zb_M_init 154 = .ok (.aload_n 0, 1) ∧ 154 + 1 = 155 := ⟨by decide +kernel, rfl⟩
theorem zd_M_init_155 : decode zb_M_init 155 = .ok (.sipush 288, 3) ∧ 155 + 3 = 158 := ⟨by decide +kernel, rfl⟩
theorem zd_M_init_158 : decode zb_M_init 158 = .ok (.newarray .int, 2) ∧ 158 + 2 = 160 := ⟨by decide +kernel, rfl⟩
theorem zd_M_init_160 : decode zb_M_init 160 = .ok (.putfield 84, 3) ∧ 160 + 3 = 163 := ⟨by decide +kernel, rfl⟩
theorem zd_M_init_163 : decode zb_M_init 163 = .ok (.aload_n 0, 1) ∧ 163 + 1 = 164 := ⟨by decide +kernel, rfl⟩
theorem zd_M_init_164 : decode zb_M_init 164 = .ok (.bipush 16, 2) ∧ 164 + 2 = 166 := ⟨by decide +kernel, rfl⟩
theorem zd_M_init_166 : decode zb_M_init 166 = .ok (.newarray .long, 2) ∧ 166 + 2 = 168 := ⟨by decide +kernel, rfl⟩
theorem zd_M_init_168 : decode zb_M_init 168 = .ok (.putfield 87, 3) ∧ 168 + 3 = 171 := ⟨by decide +kernel, rfl⟩
theorem zd_M_init_171 : decode zb_M_init 171 = .ok (.aload_n 0, 1) ∧ 171 + 1 = 172 := ⟨by decide +kernel, rfl⟩
theorem zd_M_init_172 : decode zb_M_init 172 = .ok (.bipush 16, 2) ∧ 172 + 2 = 174 := ⟨by decide +kernel, rfl⟩
theorem zd_M_init_174 : decode zb_M_init 174 = .ok (.newarray .int, 2) ∧ 174 + 2 = 176 := ⟨by decide +kernel, rfl⟩
theorem zd_M_init_176 : decode zb_M_init 176 = .ok (.putfield 91, 3) ∧ 176 + 3 = 179 := ⟨by decide +kernel, rfl⟩
theorem zd_M_init_179 : decode zb_M_init 179 = .ok (.aload_n 0, 1) ∧ 179 + 1 = 180 := ⟨by decide +kernel, rfl⟩
theorem zd_M_init_180 : decode zb_M_init 180 = .ok (.bipush 12, 2) ∧ 180 + 2 = 182 := ⟨by decide +kernel, rfl⟩
theorem zd_M_init_182 : decode zb_M_init 182 = .ok (.newarray .int, 2) ∧ 182 + 2 = 184 := ⟨by decide +kernel, rfl⟩
theorem zd_M_init_184 : decode zb_M_init 184 = .ok (.putfield 94, 3) ∧ 184 + 3 = 187 := ⟨by decide +kernel, rfl⟩
theorem zd_M_init_187 : decode zb_M_init 187 = .ok (.aload_n 0, 1) ∧ 187 + 1 = 188 := ⟨by decide +kernel, rfl⟩
theorem zd_M_init_188 : decode zb_M_init 188 = .ok (.bipush 12, 2) ∧ 188 + 2 = 190 := ⟨by decide +kernel, rfl⟩
theorem zd_M_init_190 : decode zb_M_init 190 = .ok (.newarray .int, 2) ∧ 190 + 2 = 192 := ⟨by decide +kernel, rfl⟩
theorem zd_M_init_192 : decode zb_M_init 192 = .ok (.putfield 97, 3) ∧ 192 + 3 = 195 := ⟨by decide +kernel, rfl⟩
theorem zd_M_init_195 : decode zb_M_init 195 = .ok (.aload_n 0, 1) ∧ 195 + 1 = 196 := ⟨by decide +kernel, rfl⟩
theorem zd_M_init_196 : decode zb_M_init 196 = .ok (.sipush 3200, 3) ∧ 196 + 3 = 199 := ⟨by decide +kernel, rfl⟩
theorem zd_M_init_199 : decode zb_M_init 199 = .ok (.newarray .int, 2) ∧ 199 + 2 = 201 := ⟨by decide +kernel, rfl⟩
theorem zd_M_init_201 : decode zb_M_init 201 = .ok (.putfield 100, 3) ∧ 201 + 3 = 204 := ⟨by decide +kernel, rfl⟩
theorem zd_M_init_204 : decode zb_M_init 204 = .ok (.aload_n 0, 1) ∧ 204 + 1 = 205 := ⟨by decide +kernel, rfl⟩
theorem zd_M_init_205 : decode zb_M_init 205 = .ok (.sipush 3200, 3) ∧ 205 + 3 = 208 := ⟨by decide +kernel, rfl⟩
theorem zd_M_init_208 : decode zb_M_init 208 = .ok (.newarray .int, 2) ∧ 208 + 2 = 210 := ⟨by decide +kernel, rfl⟩
theorem zd_M_init_210 : decode zb_M_init 210 = .ok (.putfield 103, 3) ∧ 210 + 3 = 213 := ⟨by decide +kernel, rfl⟩
theorem zd_M_init_213 : decode zb_M_init 213 = .ok (.aload_n 0, 1) ∧ 213 + 1 = 214 := ⟨by decide +kernel, rfl⟩
theorem zd_M_init_214 : decode zb_M_init 214 = .ok (.sipush 3200, 3) ∧ 214 + 3 = 217 := ⟨by decide +kernel, rfl⟩
theorem zd_M_init_217 : decode zb_M_init 217 = .ok (.newarray .int, 2) ∧ 217 + 2 = 219 := ⟨by decide +kernel, rfl⟩
theorem zd_M_init_219 : decode zb_M_init 219 = .ok (.putfield 106, 3) ∧ 219 + 3 = 222 := ⟨by decide +kernel, rfl⟩
theorem zd_M_init_222 : decode zb_M_init 222 = .ok (.aload_n 0, 1) ∧ 222 + 1 = 223 := ⟨by decide +kernel, rfl⟩
theorem zd_M_init_223 : decode zb_M_init 223 = .ok (.sipush 1600, 3) ∧ 223 + 3 = 226 := ⟨by decide +kernel, rfl⟩
theorem zd_M_init_226 : decode zb_M_init 226 = .ok (.newarray .long, 2) ∧ 226 + 2 = 228 := ⟨by decide +kernel, rfl⟩
theorem zd_M_init_228 : decode zb_M_init 228 = .ok (.putfield 109, 3) ∧ 228 + 3 = 231 := ⟨by decide +kernel, rfl⟩
theorem zd_M_init_231 : decode zb_M_init 231 = .ok (.aload_n 0, 1) ∧ 231 + 1 = 232 := ⟨by decide +kernel, rfl⟩
theorem zd_M_init_232 : decode zb_M_init 232 = .ok (.sipush 1600, 3) ∧ 232 + 3 = 235 := ⟨by decide +kernel, rfl⟩
theorem zd_M_init_235 : decode zb_M_init 235 = .ok (.newarray .int, 2) ∧ 235 + 2 = 237 := ⟨by decide +kernel, rfl⟩
theorem zd_M_init_237 : decode zb_M_init 237 = .ok (.putfield 112, 3) ∧ 237 + 3 = 240 := ⟨by decide +kernel, rfl⟩
theorem zd_M_init_240 : decode zb_M_init 240 = .ok (.aload_n 0, 1) ∧ 240 + 1 = 241 := ⟨by decide +kernel, rfl⟩
theorem zd_M_init_241 : decode zb_M_init 241 = .ok (.iconst 0, 1) ∧ 241 + 1 = 242 := ⟨by decide +kernel, rfl⟩
theorem zd_M_init_242 : decode zb_M_init 242 = .ok (.putfield 115, 3) ∧ 242 + 3 = 245 := ⟨by decide +kernel, rfl⟩
theorem zd_M_init_245 : decode zb_M_init 245 = .ok (.aload_n 0, 1) ∧ 245 + 1 = 246 := ⟨by decide +kernel, rfl⟩
theorem zd_M_init_246 : decode zb_M_init 246 = .ok (.iconst 1, 1) ∧ 246 + 1 = 247 := ⟨by decide +kernel, rfl⟩
theorem zd_M_init_247 : decode zb_M_init 247 = .ok (.putfield 118, 3) ∧ 247 + 3 = 250 := ⟨by decide +kernel, rfl⟩
theorem zd_M_init_250 : decode zb_M_init 250 = .ok (.aload_n 0, 1) ∧ 250 + 1 = 251 := ⟨by decide +kernel, rfl⟩
theorem zd_M_init_251 : decode zb_M_init 251 = .ok (.bipush 12, 2) ∧ 251 + 2 = 253 := ⟨by decide +kernel, rfl⟩
theorem zd_M_init_253 : decode zb_M_init 253 = .ok (.newarray .int, 2) ∧ 253 + 2 = 255 := ⟨by decide +kernel, rfl⟩
theorem zd_M_init_255 : decode zb_M_init 255 = .ok (.putfield 121, 3) ∧ 255 + 3 = 258 := ⟨by decide +kernel, rfl⟩
theorem zd_M_init_258 : decode zb_M_init 258 = .ok (.aload_n 0, 1) ∧ 258 + 1 = 259 := ⟨by decide +kernel, rfl⟩
theorem zd_M_init_259 : decode zb_M_init 259 = .ok (.bipush 12, 2) ∧ 259 + 2 = 261 := ⟨by decide +kernel, rfl⟩
theorem zd_M_init_261 : decode zb_M_init 261 = .ok (.newarray .boolean, 2) ∧ 261 + 2 = 263 := ⟨by decide +kernel, rfl⟩
theorem zd_M_init_263 : decode zb_M_init 263 = .ok (.putfield 124, 3) ∧ 263 + 3 = 266 := ⟨by decide +kernel, rfl⟩
theorem zd_M_init_266 : decode zb_M_init 266 = .ok (.aload_n 0, 1) ∧ 266 + 1 = 267 := ⟨by decide +kernel, rfl⟩
theorem zd_M_init_267 : decode zb_M_init 267 = .ok (.bipush 12, 2) ∧ 267 + 2 = 269 := ⟨by decide +kernel, rfl⟩
theorem zd_M_init_269 : decode zb_M_init 269 = .ok (.newarray .boolean, 2) ∧ 269 + 2 = 271 := ⟨by decide +kernel, rfl⟩
theorem zd_M_init_271 : decode zb_M_init 271 = .ok (.putfield 128, 3) ∧ 271 + 3 = 274 := ⟨by decide +kernel, rfl⟩
theorem zd_M_init_274 : decode zb_M_init 274 = .ok (.aload_n 0, 1) ∧ 274 + 1 = 275 := ⟨by decide +kernel, rfl⟩
theorem zd_M_init_275 : decode zb_M_init 275 = .ok (.iconst 0, 1) ∧ 275 + 1 = 276 := ⟨by decide +kernel, rfl⟩
theorem zd_M_init_276 : decode zb_M_init 276 = .ok (.putfield 131, 3) ∧ 276 + 3 = 279 := ⟨by decide +kernel, rfl⟩
theorem zd_M_init_279 : decode zb_M_init 279 = .ok (.aload_n 0, 1) ∧ 279 + 1 = 280 := ⟨by decide +kernel, rfl⟩
theorem zd_M_init_280 : decode zb_M_init 280 = .ok (.iconst 0, 1) ∧ 280 + 1 = 281 := ⟨by decide +kernel, rfl⟩
theorem zd_M_init_281 : decode zb_M_init 281 = .ok (.putfield 134, 3) ∧ 281 + 3 = 284 := ⟨by decide +kernel, rfl⟩
theorem zd_M_init_284 : decode zb_M_init 284 = .ok (.aload_n 0, 1) ∧ 284 + 1 = 285 := ⟨by decide +kernel, rfl⟩
theorem zd_M_init_285 : decode zb_M_init 285 = .ok (.iconst 0, 1) ∧ 285 + 1 = 286 := ⟨by decide +kernel, rfl⟩
theorem zd_M_init_286 : decode zb_M_init 286 = .ok (.putfield 137, 3) ∧ 286 + 3 = 289 := ⟨by decide +kernel, rfl⟩
theorem zd_M_init_289 : decode zb_M_init 289 = .ok (.aload_n 0, 1) ∧ 289 + 1 = 290 := ⟨by decide +kernel, rfl⟩
theorem zd_M_init_290 : decode zb_M_init 290 = .ok (.iconst 0, 1) ∧ 290 + 1 = 291 := ⟨by decide +kernel, rfl⟩
theorem zd_M_init_291 : decode zb_M_init 291 = .ok (.putfield 141, 3) ∧ 291 + 3 = 294 := ⟨by decide +kernel, rfl⟩
theorem zd_M_init_294 : decode zb_M_init 294 = .ok (.aload_n 0, 1) ∧ 294 + 1 = 295 := ⟨by decide +kernel, rfl⟩
theorem zd_M_init_295 : decode zb_M_init 295 = .ok (.iconst 0, 1) ∧ 295 + 1 = 296 := ⟨by decide +kernel, rfl⟩
theorem zd_M_init_296 : decode zb_M_init 296 = .ok (.putfield 144, 3) ∧ 296 + 3 = 299 := ⟨by decide +kernel, rfl⟩
theorem zd_M_init_299 : decode zb_M_init 299 = .ok (.aload_n 0, 1) ∧ 299 + 1 = 300 := ⟨by decide +kernel, rfl⟩
theorem zd_M_init_300 : decode zb_M_init 300 = .ok (.bipush 8, 2) ∧ 300 + 2 = 302 := ⟨by decide +kernel, rfl⟩
theorem zd_M_init_302 : decode zb_M_init 302 = .ok (.newarray .int, 2) ∧ 302 + 2 = 304 := ⟨by decide +kernel, rfl⟩
theorem zd_M_init_304 : decode zb_M_init 304 = .ok (.putfield 147, 3) ∧ 304 + 3 = 307 := ⟨by decide +kernel, rfl⟩
theorem zd_M_init_307 : decode zb_M_init 307 = .ok (.aload_n 0, 1) ∧ 307 + 1 = 308 := ⟨by decide +kernel, rfl⟩
theorem zd_M_init_308 : decode zb_M_init 308 = .ok (.iconst (-1), 1) ∧ 308 + 1 = 309 := ⟨by decide +kernel, rfl⟩
theorem zd_M_init_309 : decode zb_M_init 309 = .ok (.putfield 150, 3) ∧ 309 + 3 = 312 := ⟨by decide +kernel, rfl⟩
theorem zd_M_init_312 : decode zb_M_init 312 = .ok (.aload_n 0, 1) ∧ 312 + 1 = 313 := ⟨by decide +kernel, rfl⟩
theorem zd_M_init_313 : decode zb_M_init 313 = .ok (.iconst (-1), 1) ∧ 313 + 1 = 314 := ⟨by decide +kernel, rfl⟩
theorem zd_M_init_314 : decode zb_M_init 314 = .ok (.putfield 153, 3) ∧ 314 + 3 = 317 := ⟨by decide +kernel, rfl⟩
theorem zd_M_init_317 : decode zb_M_init 317 = .ok (.aload_n 0, 1) ∧ 317 + 1 = 318 := ⟨by decide +kernel, rfl⟩
theorem zd_M_init_318 : decode zb_M_init 318 = .ok (.iconst 0, 1) ∧ 318 + 1 = 319 := ⟨by decide +kernel, rfl⟩
theorem zd_M_init_319 : decode zb_M_init 319 = .ok (.putfield 156, 3) ∧ 319 + 3 = 322 := ⟨by decide +kernel, rfl⟩
theorem zd_M_init_322 : decode zb_M_init 322 = .ok (.aload_n 0, 1) ∧ 322 + 1 = 323 := ⟨by decide +kernel, rfl⟩
theorem zd_M_init_323 : decode zb_M_init 323 = .ok (.iconst 0, 1) ∧ 323 + 1 = 324 := ⟨by decide +kernel, rfl⟩
theorem zd_M_init_324 : decode zb_M_init 324 = .ok (.putfield 159, 3) ∧ 324 + 3 = 327 := ⟨by decide +kernel, rfl⟩
theorem zd_M_init_327 : decode zb_M_init 327 = .ok (.aload_n 0, 1) ∧ 327 + 1 = 328 := ⟨by decide +kernel, rfl⟩
theorem zd_M_init_328 : decode zb_M_init 328 = .ok (.iconst (-1), 1) ∧ 328 + 1 = 329 := ⟨by decide +kernel, rfl⟩
theorem zd_M_init_329 : decode zb_M_init 329 = .ok (.putfield 162, 3) ∧ 329 + 3 = 332 := ⟨by decide +kernel, rfl⟩
theorem zd_M_init_332 : decode zb_M_init 332 = .ok (.aload_n 0, 1) ∧ 332 + 1 = 333 := ⟨by decide +kernel, rfl⟩
theorem zd_M_init_333 : decode zb_M_init 333 = .ok (.iconst (-1), 1) ∧ 333 + 1 = 334 := ⟨by decide +kernel, rfl⟩
theorem zd_M_init_334 : decode zb_M_init 334 = .ok (.putfield 165, 3) ∧ 334 + 3 = 337 := ⟨by decide +kernel, rfl⟩
theorem zd_M_init_337 : decode zb_M_init 337 = .ok (.aload_n 0, 1) ∧ 337 + 1 = 338 := ⟨by decide +kernel, rfl⟩
theorem zd_M_init_338 : decode zb_M_init 338 = .ok (.iconst (-1), 1) ∧ 338 + 1 = 339 := ⟨by decide +kernel, rfl⟩
theorem zd_M_init_339 : decode zb_M_init 339 = .ok (.putfield 168, 3) ∧ 339 + 3 = 342 := ⟨by decide +kernel, rfl⟩
theorem zd_M_init_342 : decode zb_M_init 342 = .ok (.aload_n 0, 1) ∧ 342 + 1 = 343 := ⟨by decide +kernel, rfl⟩
theorem zd_M_init_343 : decode zb_M_init 343 = .ok (.iconst 0, 1) ∧ 343 + 1 = 344 := ⟨by decide +kernel, rfl⟩
theorem zd_M_init_344 : decode zb_M_init 344 = .ok (.putfield 171, 3) ∧ 344 + 3 = 347 := ⟨by decide +kernel, rfl⟩
theorem zd_M_init_347 : decode zb_M_init 347 = .ok (.aload_n 0, 1) ∧ 347 + 1 = 348 := ⟨by decide +kernel, rfl⟩
theorem zd_M_init_348 : decode zb_M_init 348 = .ok (.sipush 576, 3) ∧ 348 + 3 = 351 := ⟨by decide +kernel, rfl⟩
theorem zd_M_init_351 : decode zb_M_init 351 = .ok (.newarray .int, 2) ∧ 351 + 2 = 353 := ⟨by decide +kernel, rfl⟩
theorem zd_M_init_353 : decode zb_M_init 353 = .ok (.putfield 174, 3) ∧ 353 + 3 = 356 := ⟨by decide +kernel, rfl⟩
theorem zd_M_init_356 : decode zb_M_init 356 = .ok (.aload_n 0, 1) ∧ 356 + 1 = 357 := ⟨by decide +kernel, rfl⟩
theorem zd_M_init_357 : decode zb_M_init 357 = .ok (.sipush 2400, 3) ∧ 357 + 3 = 360 := ⟨by decide +kernel, rfl⟩
theorem zd_M_init_360 : decode zb_M_init 360 = .ok (.newarray .int, 2) ∧ 360 + 2 = 362 := ⟨by decide +kernel, rfl⟩
theorem zd_M_init_362 : decode zb_M_init 362 = .ok (.putfield 177, 3) ∧ 362 + 3 = 365 := ⟨by decide +kernel, rfl⟩
theorem zd_M_init_365 : decode zb_M_init 365 = .ok (.aload_n 0, 1) ∧ 365 + 1 = 366 := ⟨by decide +kernel, rfl⟩
theorem zd_M_init_366 : decode zb_M_init 366 = .ok (.iconst 0, 1) ∧ 366 + 1 = 367 := ⟨by decide +kernel, rfl⟩
theorem zd_M_init_367 : decode zb_M_init 367 = .ok (.putfield 180, 3) ∧ 367 + 3 = 370 := ⟨by decide +kernel, rfl⟩
theorem zd_M_init_370 : decode zb_M_init 370 = .ok (.aload_n 0, 1) ∧ 370 + 1 = 371 := ⟨by decide +kernel, rfl⟩
theorem zd_M_init_371 : decode zb_M_init 371 = .ok (.iconst (-1), 1) ∧ 371 + 1 = 372 := ⟨by decide +kernel, rfl⟩
theorem zd_M_init_372 : decode zb_M_init 372 = .ok (.putfield 183, 3) ∧ 372 + 3 = 375 := ⟨by decide +kernel, rfl⟩
theorem zd_M_init_375 : decode zb_M_init 375 = .ok (.aload_n 0, 1) ∧ 375 + 1 = 376 := ⟨by decide +kernel, rfl⟩
theorem zd_M_init_376 : decode zb_M_init 376 = .ok (.sipush 1700, 3) ∧ 376 + 3 = 379 := ⟨by decide +kernel, rfl⟩
theorem zd_M_init_379 : decode zb_M_init 379 = .ok (.newarray .boolean, 2) ∧ 379 + 2 = 381 := ⟨by decide +kernel, rfl⟩
theorem zd_M_init_381 : decode zb_M_init 381 = .ok (.putfield 186, 3) ∧ 381 + 3 = 384 := ⟨by decide +kernel, rfl⟩
theorem zd_M_init_384 : decode zb_M_init 384 = .ok (.aload_n 0, 1) ∧ 384 + 1 = 385 := ⟨by decide +kernel, rfl⟩
theorem zd_M_init_385 : decode zb_M_init 385 = .ok (.bipush 64, 2) ∧ 385 + 2 = 387 := ⟨by decide +kernel, rfl⟩
theorem zd_M_init_387 : decode zb_M_init 387 = .ok (.newarray .int, 2) ∧ 387 + 2 = 389 := ⟨by decide +kernel, rfl⟩
theorem zd_M_init_389 : decode zb_M_init 389 = .ok (.putfield 189, 3) ∧ 389 + 3 = 392 := ⟨by decide +kernel, rfl⟩
theorem zd_M_init_392 : decode zb_M_init 392 = .ok (.aload_n 0, 1) ∧ 392 + 1 = 393 := ⟨by decide +kernel, rfl⟩
theorem zd_M_init_393 : decode zb_M_init 393 = .ok (.iconst 0, 1) ∧ 393 + 1 = 394 := ⟨by decide +kernel, rfl⟩
theorem zd_M_init_394 : decode zb_M_init 394 = .ok (.putfield 192, 3) ∧ 394 + 3 = 397 := ⟨by decide +kernel, rfl⟩
theorem zd_M_init_397 : decode zb_M_init 397 = .ok (.aload_n 0, 1) ∧ 397 + 1 = 398 := ⟨by decide +kernel, rfl⟩
theorem zd_M_init_398 : decode zb_M_init 398 = .ok (.iconst 0, 1) ∧ 398 + 1 = 399 := ⟨by decide +kernel, rfl⟩
theorem zd_M_init_399 : decode zb_M_init 399 = .ok (.putfield 195, 3) ∧ 399 + 3 = 402 := ⟨by decide +kernel, rfl⟩
theorem zd_M_init_402 : decode zb_M_init 402 = .ok (.aload_n 0, 1) ∧ 402 + 1 = 403 := ⟨by decide +kernel, rfl⟩
theorem zd_M_init_403 : decode zb_M_init 403 = .ok (.iconst 0, 1) ∧ 403 + 1 = 404 := ⟨by decide +kernel, rfl⟩
theorem zd_M_init_404 : decode zb_M_init 404 = .ok (.putfield 198, 3) ∧ 404 + 3 = 407 := ⟨by decide +kernel, rfl⟩
theorem zd_M_init_407 : decode zb_M_init 407 = .ok (.aload_n 0, 1) ∧ 407 + 1 = 408 := ⟨by decide +kernel, rfl⟩
theorem zd_M_init_408 : decode zb_M_init 408 = .ok (.iconst 0, 1) ∧ 408 + 1 = 409 := ⟨by decide +kernel, rfl⟩
theorem zd_M_init_409 : decode zb_M_init 409 = .ok (.putfield 201, 3) ∧ 409 + 3 = 412 := ⟨by decide +kernel, rfl⟩
theorem zd_M_init_412 : decode zb_M_init 412 = .ok (.aload_n 0, 1) ∧ 412 + 1 = 413 := ⟨by decide +kernel, rfl⟩
theorem zd_M_init_413 : decode zb_M_init 413 = .ok (.iconst 0, 1) ∧ 413 + 1 = 414 := ⟨by decide +kernel, rfl⟩
theorem zd_M_init_414 : decode zb_M_init 414 = .ok (.putfield 204, 3) ∧ 414 + 3 = 417 := ⟨by decide +kernel, rfl⟩
theorem zd_M_init_417 : decode zb_M_init 417 = .ok (.aload_n 0, 1) ∧ 417 + 1 = 418 := ⟨by decide +kernel, rfl⟩
theorem zd_M_init_418 : decode zb_M_init 418 = .ok (.iconst 0, 1) ∧ 418 + 1 = 419 := ⟨by decide +kernel, rfl⟩
theorem zd_M_init_419 : decode zb_M_init 419 = .ok (.putfield 207, 3) ∧ 419 + 3 = 422 := ⟨by decide +kernel, rfl⟩
theorem zd_M_init_422 : decode zb_M_init 422 = .ok (.aload_n 0, 1) ∧ 422 + 1 = 423 := ⟨by decide +kernel, rfl⟩
theorem zd_M_init_423 : decode zb_M_init 423 = .ok (.iconst 0, 1) ∧ 423 + 1 = 424 := ⟨by decide +kernel, rfl⟩
theorem zd_M_init_424 : decode zb_M_init 424 = .ok (.putfield 210, 3) ∧ 424 + 3 = 427 := ⟨by decide +kernel, rfl⟩
theorem zd_M_init_427 : decode zb_M_init 427 = .ok (.aload_n 0, 1) ∧ 427 + 1 = 428 := ⟨by decide +kernel, rfl⟩
theorem zd_M_init_428 : decode zb_M_init 428 = .ok (.sipush 576, 3) ∧ 428 + 3 = 431 := ⟨by decide +kernel, rfl⟩
theorem zd_M_init_431 : decode zb_M_init 431 = .ok (.newarray .int, 2) ∧ 431 + 2 = 433 := ⟨by decide +kernel, rfl⟩
theorem zd_M_init_433 : decode zb_M_init 433 = .ok (.putfield 213, 3) ∧ 433 + 3 = 436 := ⟨by decide +kernel, rfl⟩
theorem zd_M_init_436 : decode zb_M_init 436 = .ok (.aload_n 0, 1) ∧ 436 + 1 = 437 := ⟨by decide +kernel, rfl⟩
theorem zd_M_init_437 : decode zb_M_init 437 = .ok (.sipush 576, 3) ∧ 437 + 3 = 440 := ⟨by decide +kernel, rfl⟩
theorem zd_M_init_440 : decode zb_M_init 440 = .ok (.newarray .boolean, 2) ∧ 440 + 2 = 442 := ⟨by decide +kernel, rfl⟩
theorem zd_M_init_442 : decode zb_M_init 442 = .ok (.putfield 216, 3) ∧ 442 + 3 = 445 := ⟨by decide +kernel, rfl⟩
theorem zd_M_init_445 : decode zb_M_init 445 = .ok (.aload_n 0, 1) ∧ 445 + 1 = 446 := ⟨by decide +kernel, rfl⟩
theorem zd_M_init_446 : decode zb_M_init 446 = .ok (.iconst 0, 1) ∧ 446 + 1 = 447 := ⟨by decide +kernel, rfl⟩
theorem zd_M_init_447 : decode zb_M_init 447 = .ok (.putfield 219, 3) ∧ 447 + 3 = 450 := ⟨by decide +kernel, rfl⟩
theorem zd_M_init_450 : decode zb_M_init 450 = .ok (.aload_n 0, 1) ∧ 450 + 1 = 451 := ⟨by decide +kernel, rfl⟩
theorem zd_M_init_451 : decode zb_M_init 451 = .ok (.bipush 16, 2) ∧ 451 + 2 = 453 := ⟨by decide +kernel, rfl⟩
theorem zd_M_init_453 : decode zb_M_init 453 = .ok (.newarray .int, 2) ∧ 453 + 2 = 455 := ⟨by decide +kernel, rfl⟩
theorem zd_M_init_455 : decode zb_M_init 455 = .ok (.putfield 222, 3) ∧ 455 + 3 = 458 := ⟨by decide +kernel, rfl⟩
theorem zd_M_init_458 : decode zb_M_init 458 = .ok (.aload_n 0, 1) ∧ 458 + 1 = 459 := ⟨by decide +kernel, rfl⟩
theorem zd_M_init_459 : decode zb_M_init 459 = .ok (.bipush 16, 2) ∧ 459 + 2 = 461 := ⟨by decide +kernel, rfl⟩
theorem zd_M_init_461 : decode zb_M_init 461 = .ok (.newarray .int, 2) ∧ 461 + 2 = 463 := ⟨by decide +kernel, rfl⟩
theorem zd_M_init_463 : decode zb_M_init 463 = .ok (.putfield 225, 3) ∧ 463 + 3 = 466 := ⟨by decide +kernel, rfl⟩
theorem zd_M_init_466 : decode zb_M_init 466 = .ok (.aload_n 0, 1) ∧ 466 + 1 = 467 := ⟨by decide +kernel, rfl⟩
theorem zd_M_init_467 : decode zb_M_init 467 = .ok (.bipush 16, 2) ∧ 467 + 2 = 469 := ⟨by decide +kernel, rfl⟩
theorem zd_M_init_469 : decode zb_M_init 469 = .ok (.newarray .int, 2) ∧ 469 + 2 = 471 := ⟨by decide +kernel, rfl⟩
theorem zd_M_init_471 : decode zb_M_init 471 = .ok (.putfield 228, 3) ∧ 471 + 3 = 474 := ⟨by decide +kernel, rfl⟩
theorem zd_M_init_474 : decode zb_M_init 474 = .ok (.aload_n 0, 1) ∧ 474 + 1 = 475 := ⟨by decide +kernel, rfl⟩
theorem zd_M_init_475 : decode zb_M_init 475 = .ok (.iconst 0, 1) ∧ 475 + 1 = 476 := ⟨by decide +kernel, rfl⟩
theorem zd_M_init_476 : decode zb_M_init 476 = .ok (.putfield 231, 3) ∧ 476 + 3 = 479 := ⟨by decide +kernel, rfl⟩
theorem zd_M_init_479 : decode zb_M_init 479 = .ok (.return_, 1) ∧ 479 + 1 = 480 := ⟨by decide +kernel, rfl⟩
theorem zd_M_is_0 : decode zb_M_is 0 = .ok (.iload_n 0, 1) ∧ 0 + 1 = 1 := ⟨by decide +kernel, rfl⟩
theorem zd_M_is_1 : decode zb_M_is 1 = .ok (.iload_n 1, 1) ∧ 1 + 1 = 2 := ⟨by decide +kernel, rfl⟩
theorem zd_M_is_2 : decode zb_M_is 2 = .ok (.if_icmp .lt 12, 3) ∧ ((2 : Nat) : Int) + (12) = ((14 : Nat) : Int) ∧ 2 + 3 = 5 := ⟨by decide +kernel, by decide, rfl⟩
theorem zd_M_is_5 : decode zb_M_is 5 = .ok (.iload_n 0, 1) ∧ 5 + 1 = 6 := ⟨by decide +kernel, rfl⟩
theorem zd_M_is_6 : decode zb_M_is 6 = .ok (.iload_n 2, 1) ∧ 6 + 1 = 7 := ⟨by decide +kernel, rfl⟩
theorem zd_M_is_7 : decode zb_M_is 7 = .ok (.if_icmp .gt 7, 3) ∧ ((7 : Nat) : Int) + (7) = ((14 : Nat) : Int) ∧ 7 + 3 = 10 := ⟨by decide +kernel, by decide, rfl⟩
theorem zd_M_is_10 : decode zb_M_is 10 = .ok (.iconst 1, 1) ∧ 10 + 1 = 11 := ⟨by decide +kernel, rfl⟩
theorem zd_M_is_11 : decode zb_M_is 11 = .ok (.goto 4, 3) ∧ ((11 : Nat) : Int) + (4) = ((15 : Nat) : Int) ∧ 11 + 3 = 14 := ⟨by decide +kernel, by decide, rfl⟩
theorem zd_M_is_14 : decode zb_M_is 14 = .ok (.iconst 0, 1) ∧ 14 + 1 = 15 := ⟨by decide +kernel, rfl⟩
theorem zd_M_is_15 : decode zb_M_is 15 = .ok (.ireturn, 1) ∧ 15 + 1 = 16 := ⟨by decide +kernel, rfl⟩
theorem zd_M_put_0 : decode zb_M_put 0 = .ok (.bipush 24, 2) ∧ 0 + 2 = 2 := ⟨by decide +kernel, rfl⟩
theorem zd_M_put_2 : decode zb_M_put 2 = .ok (.istore_n 2, 1) ∧ 2 + 1 = 3 := ⟨by decide +kernel, rfl⟩
theorem zd_M_put_3 : decode zb_M_put 3 = .ok (.iload_n 2, 1) ∧ 3 + 1 = 4 := ⟨by decide +kernel, rfl⟩
theorem zd_M_put_4 : decode zb_M_put 4 = .ok (.ifCond .lt 35, 3) ∧ ((4 : Nat) : Int) + (35) = ((39 : Nat) : Int) ∧ 4 + 3 = 7 := ⟨by decide +kernel, by decide, rfl⟩
theorem zd_M_put_7 : decode zb_M_put 7 = .ok (.aload_n 0, 1) ∧ 7 + 1 = 8 := ⟨by decide +kernel, rfl⟩
theorem zd_M_put_8 : decode zb_M_put 8 = .ok (.getfield 7, 3) ∧ 8 + 3 = 11 := ⟨by decide +kernel, rfl⟩
theorem zd_M_put_11 : decode zb_M_put 11 = .ok (.aload_n 0, 1) ∧ 11 + 1 = 12 := ⟨by decide +kernel, rfl⟩
theorem zd_M_put_12 : decode zb_M_put 12 = .ok (.getfield 13, 3) ∧ 12 + 3 = 15 := ⟨by decide +kernel, rfl⟩
theorem zd_M_put_15 : decode zb_M_put 15 = .ok (.iload_n 1, 1) ∧ 15 + 1 = 16 := ⟨by decide +kernel, rfl⟩
theorem zd_M_put_16 : decode zb_M_put 16 = .ok (.iload_n 2, 1) ∧ 16 + 1 = 17 := ⟨by decide +kernel, rfl⟩
theorem zd_M_put_17 : decode zb_M_put 17 = .ok (.ishr, 1) ∧ 17 + 1 = 18 := ⟨by decide +kernel, rfl⟩
theorem zd_M_put_18 : decode zb_M_put 18 = .ok (.sipush 255, 3) ∧ 18 + 3 = 21 := ⟨by decide +kernel, rfl⟩
theorem zd_M_put_21 : decode zb_M_put 21 = .ok (.iand, 1) ∧ 21 + 1 = 22 := ⟨by decide +kernel, rfl⟩
theorem zd_M_put_22 : decode zb_M_put 22 = .ok (.iastore, 1) ∧ 22 + 1 = 23 := ⟨by decide +kernel, rfl⟩
theorem zd_M_put_23 : decode zb_M_put 23 = .ok (.aload_n 0, 1) ∧ 23 + 1 = 24 := ⟨by decide +kernel, rfl⟩
theorem zd_M_put_24 : decode zb_M_put 24 = .ok (.dup, 1) ∧ 24 + 1 = 25 := ⟨by decide +kernel, rfl⟩
theorem zd_M_put_25 : decode zb_M_put 25 = .ok (.getfield 13, 3) ∧ 25 + 3 = 28 := ⟨by decide +kernel, rfl⟩
theorem zd_M_put_28 : decode zb_M_put 28 = .ok (.iconst 1, 1) ∧ 28 + 1 = 29 := ⟨by decide +kernel, rfl⟩
theorem zd_M_put_29 : decode zb_M_put 29 = .ok (.iadd, 1) ∧ 29 + 1 = 30 := ⟨by decide +kernel, rfl⟩
theorem zd_M_put_30 : decode zb_M_put 30 = .ok (.putfield 13, 3) ∧ 30 + 3 = 33 := ⟨by decide +kernel, rfl⟩
theorem zd_M_put_33 : decode zb_M_put 33 = .ok (.iinc 2 (-8), 3) ∧ 33 + 3 = 36 := ⟨by decide +kernel, rfl⟩
theorem zd_M_put_36 : decode zb_M_put 36 = .ok (.goto (-33), 3) ∧ ((36 : Nat) : Int) + (-33) = ((3 : Nat) : Int) ∧ 36 + 3 = 39 := ⟨by decide +kernel, by decide, rfl⟩
theorem zd_M_put_39 : decode zb_M_put 39 = .ok (.return_, 1) ∧ 39 + 1 = 40 := ⟨by decide +kernel, rfl⟩
theorem zd_M_feed_0 : decode zb_M_feed 0 = .ok (.aload_n 0, 1) ∧ 0 + 1 = 1 := ⟨by decide +kernel, rfl⟩
theorem zd_M_feed_1 : decode zb_M_feed 1 = .ok (.getfield 13, 3) ∧ 1 + 3 = 4 := ⟨by decide +kernel, rfl⟩
theorem zd_M_feed_4 : decode zb_M_feed 4 = .ok (.bipush 20, 2) ∧ 4 + 2 = 6 := ⟨by decide +kernel, rfl⟩
theorem zd_M_feed_6 : decode zb_M_feed 6 = .ok (.iadd, 1) ∧ 6 + 1 = 7 := ⟨by decide +kernel, rfl⟩
theorem zd_M_feed_7 : decode zb_M_feed 7 = .ok (.sipush 1600, 3) ∧ 7 + 3 = 10 := ⟨by decide +kernel, rfl⟩
theorem zd_M_feed_10 : decode zb_M_feed 10 = .ok (.if_icmp .le 5, 3) ∧ ((10 : Nat) : Int) + (5) = ((15 : Nat) : Int) ∧ 10 + 3 = 13 := ⟨by decide +kernel, by decide, rfl⟩
theorem zd_M_feed_13 : decode zb_M_feed 13 = .ok (.iconst (-1), 1) ∧ 13 + 1 = 14 := ⟨by decide +kernel, rfl⟩
theorem zd_M_feed_14 : decode zb_M_feed 14 = .ok (.ireturn, 1) ∧ 14 + 1 = 15 := ⟨by decide +kernel, rfl⟩
theorem zd_M_feed_15 : decode zb_M_feed 15 = .ok (.aload_n 0, 1) ∧ 15 + 1 = 16 := ⟨by decide +kernel, rfl⟩
theorem zd_M_feed_16 : decode zb_M_feed 16 = .ok (.iload_n 1, 1) ∧ 16 + 1 = 17 := ⟨by decide +kernel, rfl⟩
theorem zd_M_feed_17 : decode zb_M_feed 17 = .ok (.invokevirtual 234, 3) ∧ 17 + 3 = 20 := ⟨by decide +kernel, rfl⟩
theorem zd_M_feed_20 : decode zb_M_feed 20 = .ok (.aload_n 0, 1) ∧ 20 + 1 = 21 := ⟨by decide +kernel, rfl⟩
theorem zd_M_feed_21 : decode zb_M_feed 21 = .ok (.iload_n 2, 1) ∧ 21 + 1 = 22 := ⟨by decide +kernel, rfl⟩
theorem zd_M_feed_22 : decode zb_M_feed 22 = .ok (.invokevirtual 234, 3) ∧ 22 + 3 = 25 := ⟨by decide +kernel, rfl⟩
theorem zd_M_feed_25 : decode zb_M_feed 25 = .ok (.aload_n 0, 1) ∧ 25 + 1 = 26 := ⟨by decide +kernel, rfl⟩
theorem zd_M_feed_26 : decode zb_M_feed 26 = .ok (.iload_n 3, 1) ∧ 26 + 1 = 27 := ⟨by decide +kernel, rfl⟩
theorem zd_M_feed_27 : decode zb_M_feed 27 = .ok (.invokevirtual 234, 3) ∧ 27 + 3 = 30 := ⟨by decide +kernel, rfl⟩
theorem zd_M_feed_30 : decode zb_M_feed 30 = .ok (.aload_n 0, 1) ∧ 30 + 1 = 31 := ⟨by decide +kernel, rfl⟩
theorem zd_M_feed_31 : decode zb_M_feed 31 = .ok (.iload 4, 2) ∧ 31 + 2 = 33 := ⟨by decide +kernel, rfl⟩
theorem zd_M_feed_33 : decode zb_M_feed 33 = .ok (.invokevirtual 234, 3) ∧ 33 + 3 = 36 := ⟨by decide +kernel, rfl⟩
theorem zd_M_feed_36 : decode zb_M_feed 36 = .ok (.aload_n 0, 1) ∧ 36 + 1 = 37 := ⟨by decide +kernel, rfl⟩
theorem zd_M_feed_37 : decode zb_M_feed 37 = .ok (.iload 5, 2) ∧ 37 + 2 = 39 := ⟨by decide +kernel, rfl⟩
theorem zd_M_feed_39 : decode zb_M_feed 39 = .ok (.invokevirtual 234, 3) ∧ 39 + 3 = 42 := ⟨by decide +kernel, rfl⟩
theorem zd_M_feed_42 : decode zb_M_feed 42 = .ok (.aload_n 0, 1) ∧ 42 + 1 = 43 := ⟨by decide +kernel, rfl⟩
theorem zd_M_feed_43 : decode zb_M_feed 43 = .ok (.getfield 13, 3) ∧ 43 + 3 = 46 := ⟨by decide +kernel, rfl⟩
theorem zd_M_feed_46 : decode zb_M_feed 46 = .ok (.ireturn, 1) ∧ 46 + 1 = 47 := ⟨by decide +kernel, rfl⟩
theorem zd_M_end_0 : decode zb_M_end 0 = .ok (.iload_n 1, 1) ∧ 0 + 1 = 1 := ⟨by decide +kernel, rfl⟩
theorem zd_M_end_1 : decode zb_M_end 1 = .ok (.ifCond .lt 11, 3) ∧ ((1 : Nat) : Int) + (11) = ((12 : Nat) : Int) ∧ 1 + 3 = 4 := ⟨by decide +kernel, by decide, rfl⟩
theorem zd_M_end_4 : decode zb_M_end 4 = .ok (.iload_n 1, 1) ∧ 4 + 1 = 5 := ⟨by decide +kernel, rfl⟩
theorem zd_M_end_5 : decode zb_M_end 5 = .ok (.aload_n 0, 1) ∧ 5 + 1 = 6 := ⟨by decide +kernel, rfl⟩
theorem zd_M_end_6 : decode zb_M_end 6 = .ok (.getfield 13, 3) ∧ 6 + 3 = 9 := ⟨by decide +kernel, rfl⟩
theorem zd_M_end_9 : decode zb_M_end 9 = .ok (.if_icmp .le 5, 3) ∧ ((9 : Nat) : Int) + (5) = ((14 : Nat) : Int) ∧ 9 + 3 = 12 := ⟨by decide +kernel, by decide, rfl⟩
theorem zd_M_end_12 : decode zb_M_end 12 = .ok (.iconst 0, 1) ∧ 12 + 1 = 13 := ⟨by decide +kernel, rfl⟩
theorem zd_M_end_13 : decode zb_M_end 13 = .ok (.ireturn, 1) ∧ 13 + 1 = 14 := ⟨by decide +kernel, rfl⟩
theorem zd_M_end_14 : decode zb_M_end 14 = .ok (.aload_n 0, 1) ∧ 14 + 1 = 15 := ⟨by decide +kernel, rfl⟩
theorem zd_M_end_15 : decode zb_M_end 15 = .ok (.iload_n 1, 1) ∧ 15 + 1 = 16 := ⟨by decide +kernel, rfl⟩
theorem zd_M_end_16 : decode zb_M_end 16 = .ok (.putfield 13, 3) ∧ 16 + 3 = 19 := ⟨by decide +kernel, rfl⟩
theorem zd_M_end_19 : decode zb_M_end 19 = .ok (.iconst 1, 1) ∧ 19 + 1 = 20 := ⟨by decide +kernel, rfl⟩
theorem zd_M_end_20 : decode zb_M_end 20 = .ok (.ireturn, 1) ∧ 20 + 1 = 21 := ⟨by decide +kernel, rfl⟩
theorem zd_M_blame_0 : decode zb_M_blame 0 = .ok (.aload_n 0, 1) ∧ 0 + 1 = 1 := ⟨by decide +kernel, rfl⟩
theorem zd_M_blame_1 : decode zb_M_blame 1 = .ok (.getfield 42, 3) ∧ 1 + 3 = 4 := ⟨by decide +kernel, rfl⟩
theorem zd_M_blame_4 : decode zb_M_blame 4 = .ok (.ifCond .le 4, 3) ∧ ((4 : Nat) : Int) + (4) = ((8 : Nat) : Int) ∧ 4 + 3 = 7 := ⟨by decide +kernel, by decide, rfl⟩
theorem zd_M_blame_7 : decode zb_M_blame 7 = .ok (.return_, 1) ∧ 7 + 1 = 8 := ⟨by decide +kernel, rfl⟩
theorem zd_M_blame_8 : decode zb_M_blame 8 = .ok (.aload_n 0, 1) ∧ 8 + 1 = 9 := ⟨by decide +kernel, rfl⟩
theorem zd_M_blame_9 : decode zb_M_blame 9 = .ok (.iload_n 1, 1) ∧ 9 + 1 = 10 := ⟨by decide +kernel, rfl⟩
theorem zd_M_blame_10 : decode zb_M_blame 10 = .ok (.putfield 42, 3) ∧ 10 + 3 = 13 := ⟨by decide +kernel, rfl⟩
theorem zd_M_blame_13 : decode zb_M_blame 13 = .ok (.aload_n 0, 1) ∧ 13 + 1 = 14 := ⟨by decide +kernel, rfl⟩
theorem zd_M_blame_14 : decode zb_M_blame 14 = .ok (.iload_n 2, 1) ∧ 14 + 1 = 15 := ⟨by decide +kernel, rfl⟩
theorem zd_M_blame_15 : decode zb_M_blame 15 = .ok (.putfield 45, 3) ∧ 15 + 3 = 18 := ⟨by decide +kernel, rfl⟩
theorem zd_M_blame_18 : decode zb_M_blame 18 = .ok (.return_, 1) ∧ 18 + 1 = 19 := ⟨by decide +kernel, rfl⟩
theorem zd_M_byteAt_0 : decode zb_M_byteAt 0 = .ok (.iload_n 1, 1) ∧ 0 + 1 = 1 := ⟨by decide +kernel, rfl⟩
theorem zd_M_byteAt_1 : decode zb_M_byteAt 1 = .ok (.ifCond .lt 20, 3) ∧ ((1 : Nat) : Int) + (20) = ((21 : Nat) : Int) ∧ 1 + 3 = 4 := ⟨by decide +kernel, by decide, rfl⟩
theorem zd_M_byteAt_4 : decode zb_M_byteAt 4 = .ok (.iload_n 1, 1) ∧ 4 + 1 = 5 := ⟨by decide +kernel, rfl⟩
theorem zd_M_byteAt_5 : decode zb_M_byteAt 5 = .ok (.aload_n 0, 1) ∧ 5 + 1 = 6 := ⟨by decide +kernel, rfl⟩
theorem zd_M_byteAt_6 : decode zb_M_byteAt 6 = .ok (.getfield 23, 3) ∧ 6 + 3 = 9 := ⟨by decide +kernel, rfl⟩
theorem zd_M_byteAt_9 : decode zb_M_byteAt 9 = .ok (.if_icmp .ge 12, 3) ∧ ((9 : Nat) : Int) + (12) = ((21 : Nat) : Int) ∧ 9 + 3 = 12 := ⟨by decide +kernel, by decide, rfl⟩
theorem zd_M_byteAt_12 : decode zb_M_byteAt 12 = .ok (.aload_n 0, 1) ∧ 12 + 1 = 13 := ⟨by decide +kernel, rfl⟩
theorem zd_M_byteAt_13 : decode zb_M_byteAt 13 = .ok (.getfield 7, 3) ∧ 13 + 3 = 16 := ⟨by decide +kernel, rfl⟩
theorem zd_M_byteAt_16 : decode zb_M_byteAt 16 = .ok (.iload_n 1, 1) ∧ 16 + 1 = 17 := ⟨by decide +kernel, rfl⟩
theorem zd_M_byteAt_17 : decode zb_M_byteAt 17 = .ok (.iaload, 1) ∧ 17 + 1 = 18 := ⟨by decide +kernel, rfl⟩
theorem zd_M_byteAt_18 : decode zb_M_byteAt 18 = .ok (.goto 4, 3) ∧ ((18 : Nat) : Int) + (4) = ((22 : Nat) : Int) ∧ 18 + 3 = 21 := ⟨by decide +kernel, by decide, rfl⟩
theorem zd_M_byteAt_21 : decode zb_M_byteAt 21 = .ok (.iconst (-1), 1) ∧ 21 + 1 = 22 := ⟨by decide +kernel, rfl⟩
theorem zd_M_byteAt_22 : decode zb_M_byteAt 22 = .ok (.ireturn, 1) ∧ 22 + 1 = 23 := ⟨by decide +kernel, rfl⟩
theorem zd_M_isLetter_0 : decode zb_M_isLetter 0 = .ok (.iload_n 0, 1) ∧ 0 + 1 = 1 := ⟨by decide +kernel, rfl⟩
theorem zd_M_isLetter_1 : decode zb_M_isLetter 1 = .ok (.bipush 97, 2) ∧ 1 + 2 = 3 := ⟨by decide +kernel, rfl⟩
theorem zd_M_isLetter_3 : decode zb_M_isLetter 3 = .ok (.if_icmp .lt 13, 3) ∧ ((3 : Nat) : Int) + (13) = ((16 : Nat) : Int) ∧ 3 + 3 = 6 := ⟨by decide +kernel, by decide, rfl⟩
theorem zd_M_isLetter_6 : decode zb_M_isLetter 6 = .ok (.iload_n 0, 1) ∧ 6 + 1 = 7 := ⟨by decide +kernel, rfl⟩
theorem zd_M_isLetter_7 : decode zb_M_isLetter 7 = .ok (.bipush 122, 2) ∧ 7 + 2 = 9 := ⟨by decide +kernel, rfl⟩
theorem zd_M_isLetter_9 : decode zb_M_isLetter 9 = .ok (.if_icmp .gt 7, 3) ∧ ((9 : Nat) : Int) + (7) = ((16 : Nat) : Int) ∧ 9 + 3 = 12 := ⟨by decide +kernel, by decide, rfl⟩
theorem zd_M_isLetter_12 : decode zb_M_isLetter 12 = .ok (.iconst 1, 1) ∧ 12 + 1 = 13 := ⟨by decide +kernel, rfl⟩
theorem zd_M_isLetter_13 : decode zb_M_isLetter 13 = .ok (.goto 4, 3) ∧ ((13 : Nat) : Int) + (4) = ((17 : Nat) : Int) ∧ 13 + 3 = 16 := ⟨by decide +kernel, by decide, rfl⟩
theorem zd_M_isLetter_16 : decode zb_M_isLetter 16 = .ok (.iconst 0, 1) ∧ 16 + 1 = 17 := ⟨by decide +kernel, rfl⟩
theorem zd_M_isLetter_17 : decode zb_M_isLetter 17 = .ok (.ireturn, 1) ∧ 17 + 1 = 18 := ⟨by decide +kernel, rfl⟩
theorem zd_M_isDigit_0 : decode zb_M_isDigit 0 = .ok (.iload_n 0, 1) ∧ 0 + 1 = 1 := ⟨by decide +kernel, rfl⟩
theorem zd_M_isDigit_1 : decode zb_M_isDigit 1 = .ok (.bipush 48, 2) ∧ 1 + 2 = 3 := ⟨by decide +kernel, rfl⟩
theorem zd_M_isDigit_3 : decode zb_M_isDigit 3 = .ok (.if_icmp .lt 13, 3) ∧ ((3 : Nat) : Int) + (13) = ((16 : Nat) : Int) ∧ 3 + 3 = 6 := ⟨by decide +kernel, by decide, rfl⟩
theorem zd_M_isDigit_6 : decode zb_M_isDigit 6 = .ok (.iload_n 0, 1) ∧ 6 + 1 = 7 := ⟨by decide +kernel, rfl⟩
theorem zd_M_isDigit_7 : decode zb_M_isDigit 7 = .ok (.bipush 57, 2) ∧ 7 + 2 = 9 := ⟨by decide +kernel, rfl⟩
theorem zd_M_isDigit_9 : decode zb_M_isDigit 9 = .ok (.if_icmp .gt 7, 3) ∧ ((9 : Nat) : Int) + (7) = ((16 : Nat) : Int) ∧ 9 + 3 = 12 := ⟨by decide +kernel, by decide, rfl⟩
theorem zd_M_isDigit_12 : decode zb_M_isDigit 12 = .ok (.iconst 1, 1) ∧ 12 + 1 = 13 := ⟨by decide +kernel, rfl⟩
theorem zd_M_isDigit_13 : decode zb_M_isDigit 13 = .ok (.goto 4, 3) ∧ ((13 : Nat) : Int) + (4) = ((17 : Nat) : Int) ∧ 13 + 3 = 16 := ⟨by decide +kernel, by decide, rfl⟩
theorem zd_M_isDigit_16 : decode zb_M_isDigit 16 = .ok (.iconst 0, 1) ∧ 16 + 1 = 17 := ⟨by decide +kernel, rfl⟩
theorem zd_M_isDigit_17 : decode zb_M_isDigit 17 = .ok (.ireturn, 1) ∧ 17 + 1 = 18 := ⟨by decide +kernel, rfl⟩
theorem zd_M_isOwn_0 : decode zb_M_isOwn 0 = .ok (.lload_n 0, 1) ∧ 0 + 1 = 1 := ⟨by decide +kernel, rfl⟩
theorem zd_M_isOwn_1 : decode zb_M_isOwn 1 = .ok (.ldc2_w 238, 3) ∧ 1 + 3 = 4 := ⟨by decide +kernel, rfl⟩
theorem zd_M_isOwn_4 : decode zb_M_isOwn 4 = .ok (.lcmp, 1) ∧ 4 + 1 = 5 := ⟨by decide +kernel, rfl⟩
theorem zd_M_isOwn_5 : decode zb_M_isOwn 5 = .ok (.ifCond .eq 35, 3) ∧ ((5 : Nat) : Int) + (35) = ((40 : Nat) : Int) ∧ 5 + 3 = 8 := ⟨by decide +kernel, by decide, rfl⟩
theorem zd_M_isOwn_8 : decode zb_M_isOwn 8 = .ok (.lload_n 0, 1) ∧ 8 + 1 = 9 := ⟨by decide +kernel, rfl⟩
theorem zd_M_isOwn_9 : decode zb_M_isOwn 9 = .ok (.ldc2_w 240, 3) ∧ 9 + 3 = 12 := ⟨by decide +kernel, rfl⟩
theorem zd_M_isOwn_12 : decode zb_M_isOwn 12 = .ok (.lcmp, 1) ∧ 12 + 1 = 13 := ⟨by decide +kernel, rfl⟩
theorem zd_M_isOwn_13 : decode zb_M_isOwn 13 = .ok (.ifCond .eq 27, 3) ∧ ((13 : Nat) : Int) + (27) = ((40 : Nat) : Int) ∧ 13 + 3 = 16 := ⟨by decide +kernel, by decide, rfl⟩
theorem zd_M_isOwn_16 : decode zb_M_isOwn 16 = .ok (.lload_n 0, 1) ∧ 16 + 1 = 17 := ⟨by decide +kernel, rfl⟩
theorem zd_M_isOwn_17 : decode zb_M_isOwn 17 = .ok (.ldc2_w 242, 3) ∧ 17 + 3 = 20 := ⟨by decide +kernel, rfl⟩
theorem zd_M_isOwn_20 : decode zb_M_isOwn 20 = .ok (.lcmp, 1) ∧ 20 + 1 = 21 := ⟨by decide +kernel, rfl⟩
theorem zd_M_isOwn_21 : decode zb_M_isOwn 21 = .ok (.ifCond .eq 19, 3) ∧ ((21 : Nat) : Int) + (19) = ((40 : Nat) : Int) ∧ 21 + 3 = 24 := ⟨by decide +kernel, by decide, rfl⟩
theorem zd_M_isOwn_24 : decode zb_M_isOwn 24 = .ok (.lload_n 0, 1) ∧ 24 + 1 = 25 := ⟨by decide +kernel, rfl⟩
theorem zd_M_isOwn_25 : decode zb_M_isOwn 25 = .ok (.ldc2_w 244, 3) ∧ 25 + 3 = 28 := ⟨by decide +kernel, rfl⟩
theorem zd_M_isOwn_28 : decode zb_M_isOwn 28 = .ok (.lcmp, 1) ∧ 28 + 1 = 29 := ⟨by decide +kernel, rfl⟩
theorem zd_M_isOwn_29 : decode zb_M_isOwn 29 = .ok (.ifCond .eq 11, 3) ∧ ((29 : Nat) : Int) + (11) = ((40 : Nat) : Int) ∧ 29 + 3 = 32 := ⟨by decide +kernel, by decide, rfl⟩
theorem zd_M_isOwn_32 : decode zb_M_isOwn 32 = .ok (.lload_n 0, 1) ∧ 32 + 1 = 33 := ⟨by decide +kernel, rfl⟩
theorem zd_M_isOwn_33 : decode zb_M_isOwn 33 = .ok (.ldc2_w 246, 3) ∧ 33 + 3 = 36 := ⟨by decide +kernel, rfl⟩
theorem zd_M_isOwn_36 : decode zb_M_isOwn 36 = .ok (.lcmp, 1) ∧ 36 + 1 = 37 := ⟨by decide +kernel, rfl⟩
theorem zd_M_isOwn_37 : decode zb_M_isOwn 37 = .ok (.ifCond .ne 5, 3) ∧ ((37 : Nat) : Int) + (5) = ((42 : Nat) : Int) ∧ 37 + 3 = 40 := ⟨by decide +kernel, by decide, rfl⟩
theorem zd_M_isOwn_40 : decode zb_M_isOwn 40 = .ok (.iconst 1, 1) ∧ 40 + 1 = 41 := ⟨by decide +kernel, rfl⟩
theorem zd_M_isOwn_41 : decode zb_M_isOwn 41 = .ok (.ireturn, 1) ∧ 41 + 1 = 42 := ⟨by decide +kernel, rfl⟩
theorem zd_M_isOwn_42 : decode zb_M_isOwn 42 = .ok (.lload_n 0, 1) ∧ 42 + 1 = 43 := ⟨by decide +kernel, rfl⟩
theorem zd_M_isOwn_43 : decode zb_M_isOwn 43 = .ok (.ldc2_w 248, 3) ∧ 43 + 3 = 46 := ⟨by decide +kernel, rfl⟩
theorem zd_M_isOwn_46 : decode zb_M_isOwn 46 = .ok (.lcmp, 1) ∧ 46 + 1 = 47 := ⟨by decide +kernel, rfl⟩
theorem zd_M_isOwn_47 : decode zb_M_isOwn 47 = .ok (.ifCond .eq 35, 3) ∧ ((47 : Nat) : Int) + (35) = ((82 : Nat) : Int) ∧ 47 + 3 = 50 := ⟨by decide +kernel, by decide, rfl⟩
theorem zd_M_isOwn_50 : decode zb_M_isOwn 50 = .ok (.lload_n 0, 1) ∧ 50 + 1 = 51 := ⟨by decide +kernel, rfl⟩
theorem zd_M_isOwn_51 : decode zb_M_isOwn 51 = .ok (.ldc2_w 250, 3) ∧ 51 + 3 = 54 := ⟨by decide +kernel, rfl⟩
theorem zd_M_isOwn_54 : decode zb_M_isOwn 54 = .ok (.lcmp, 1) ∧ 54 + 1 = 55 := ⟨by decide +kernel, rfl⟩
theorem zd_M_isOwn_55 : decode zb_M_isOwn 55 = .ok (.ifCond .eq 27, 3) ∧ ((55 : Nat) : Int) + (27) = ((82 : Nat) : Int) ∧ 55 + 3 = 58 := ⟨by decide +kernel, by decide, rfl⟩
theorem zd_M_isOwn_58 : decode zb_M_isOwn 58 = .ok (.lload_n 0, 1) ∧ 58 + 1 = 59 := ⟨by decide +kernel, rfl⟩
theorem zd_M_isOwn_59 : decode zb_M_isOwn 59 = .ok (.ldc2_w 252, 3) ∧ 59 + 3 = 62 := ⟨by decide +kernel, rfl⟩
theorem zd_M_isOwn_62 : decode zb_M_isOwn 62 = .ok (.lcmp, 1) ∧ 62 + 1 = 63 := ⟨by decide +kernel, rfl⟩
theorem zd_M_isOwn_63 : decode zb_M_isOwn 63 = .ok (.ifCond .eq 19, 3) ∧ ((63 : Nat) : Int) + (19) = ((82 : Nat) : Int) ∧ 63 + 3 = 66 := ⟨by decide +kernel, by decide, rfl⟩
theorem zd_M_isOwn_66 : decode zb_M_isOwn 66 = .ok (.lload_n 0, 1) ∧ 66 + 1 = 67 := ⟨by decide +kernel, rfl⟩
theorem zd_M_isOwn_67 : decode zb_M_isOwn 67 = .ok (.ldc2_w 254, 3) ∧ 67 + 3 = 70 := ⟨by decide +kernel, rfl⟩
theorem zd_M_isOwn_70 : decode zb_M_isOwn 70 = .ok (.lcmp, 1) ∧ 70 + 1 = 71 := ⟨by decide +kernel, rfl⟩
theorem zd_M_isOwn_71 : decode zb_M_isOwn 71 = .ok (.ifCond .eq 11, 3) ∧ ((71 : Nat) : Int) + (11) = ((82 : Nat) : Int) ∧ 71 + 3 = 74 := ⟨by decide +kernel, by decide, rfl⟩
theorem zd_M_isOwn_74 : decode zb_M_isOwn 74 = .ok (.lload_n 0, 1) ∧ 74 + 1 = 75 := ⟨by decide +kernel, rfl⟩
theorem zd_M_isOwn_75 : decode zb_M_isOwn 75 = .ok (.ldc2_w 256, 3) ∧ 75 + 3 = 78 := ⟨by decide +kernel, rfl⟩
theorem zd_M_isOwn_78 : decode zb_M_isOwn 78 = .ok (.lcmp, 1) ∧ 78 + 1 = 79 := ⟨by decide +kernel, rfl⟩
theorem zd_M_isOwn_79 : decode zb_M_isOwn 79 = .ok (.ifCond .ne 5, 3) ∧ ((79 : Nat) : Int) + (5) = ((84 : Nat) : Int) ∧ 79 + 3 = 82 := ⟨by decide +kernel, by decide, rfl⟩
theorem zd_M_isOwn_82 : decode zb_M_isOwn 82 = .ok (.iconst 1, 1) ∧ 82 + 1 = 83 := ⟨by decide +kernel, rfl⟩
theorem zd_M_isOwn_83 : decode zb_M_isOwn 83 = .ok (.ireturn, 1) ∧ 83 + 1 = 84 := ⟨by decide +kernel, rfl⟩
theorem zd_M_isOwn_84 : decode zb_M_isOwn 84 = .ok (.lload_n 0, 1) ∧ 84 + 1 = 85 := ⟨by decide +kernel, rfl⟩
theorem zd_M_isOwn_85 : decode zb_M_isOwn 85 = .ok (.ldc2_w 258, 3) ∧ 85 + 3 = 88 := ⟨by decide +kernel, rfl⟩
theorem zd_M_isOwn_88 : decode zb_M_isOwn 88 = .ok (.lcmp, 1) ∧ 88 + 1 = 89 := ⟨by decide +kernel, rfl⟩
theorem zd_M_isOwn_89 : decode zb_M_isOwn 89 = .ok (.ifCond .eq 35, 3) ∧ ((89 : Nat) : Int) + (35) = ((124 : Nat) : Int) ∧ 89 + 3 = 92 := ⟨by decide +kernel, by decide, rfl⟩
theorem zd_M_isOwn_92 : decode zb_M_isOwn 92 = .ok (.lload_n 0, 1) ∧ 92 + 1 = 93 := ⟨by decide +kernel, rfl⟩
theorem zd_M_isOwn_93 : decode zb_M_isOwn 93 = .ok (.ldc2_w 260, 3) ∧ 93 + 3 = 96 := ⟨by decide +kernel, rfl⟩
theorem zd_M_isOwn_96 : decode zb_M_isOwn 96 = .ok (.lcmp, 1) ∧ 96 + 1 = 97 := ⟨by decide +kernel, rfl⟩
theorem zd_M_isOwn_97 : decode zb_M_isOwn 97 = .ok (.ifCond .eq 27, 3) ∧ ((97 : Nat) : Int) + (27) = ((124 : Nat) : Int) ∧ 97 + 3 = 100 := ⟨by decide +kernel, by decide, rfl⟩
theorem zd_M_isOwn_100 : decode zb_M_isOwn 100 = .ok (.lload_n 0, 1) ∧ 100 + 1 = 101 := ⟨by decide +kernel, rfl⟩
theorem zd_M_isOwn_101 : decode zb_M_isOwn 101 = .ok (.ldc2_w 262, 3) ∧ 101 + 3 = 104 := ⟨by decide +kernel, rfl⟩
theorem zd_M_isOwn_104 : decode zb_M_isOwn 104 = .ok (.lcmp, 1) ∧ 104 + 1 = 105 := ⟨by decide +kernel, rfl⟩
theorem zd_M_isOwn_105 : decode zb_M_isOwn 105 = .ok (.ifCond .eq 19, 3) ∧ ((105 : Nat) : Int) + (19) = ((124 : Nat) : Int) ∧ 105 + 3 = 108 := ⟨by decide +kernel, by decide, rfl⟩
theorem zd_M_isOwn_108 : decode zb_M_isOwn 108 = .ok (.lload_n 0, 1) ∧ 108 + 1 = 109 := ⟨by decide +kernel, rfl⟩
theorem zd_M_isOwn_109 : decode zb_M_isOwn 109 = .ok (.ldc2_w 264, 3) ∧ 109 + 3 = 112 := ⟨by decide +kernel, rfl⟩
theorem zd_M_isOwn_112 : decode zb_M_isOwn 112 = .ok (.lcmp, 1) ∧ 112 + 1 = 113 := ⟨by decide +kernel, rfl⟩
theorem zd_M_isOwn_113 : decode zb_M_isOwn 113 = .ok (.ifCond .eq 11, 3) ∧ ((113 : Nat) : Int) + (11) = ((124 : Nat) : Int) ∧ 113 + 3 = 116 := ⟨by decide +kernel, by decide, rfl⟩
theorem zd_M_isOwn_116 : decode zb_M_isOwn 116 = .ok (.lload_n 0, 1) ∧ 116 + 1 = 117 := ⟨by decide +kernel, rfl⟩
theorem zd_M_isOwn_117 : decode zb_M_isOwn 117 = .ok (.ldc2_w 266, 3) ∧ 117 + 3 = 120 := ⟨by decide +kernel, rfl⟩
theorem zd_M_isOwn_120 : decode zb_M_isOwn 120 = .ok (.lcmp, 1) ∧ 120 + 1 = 121 := ⟨by decide +kernel, rfl⟩
theorem zd_M_isOwn_121 : decode zb_M_isOwn 121 = .ok (.ifCond .ne 5, 3) ∧ ((121 : Nat) : Int) + (5) = ((126 : Nat) : Int) ∧ 121 + 3 = 124 := ⟨by decide +kernel, by decide, rfl⟩
theorem zd_M_isOwn_124 : decode zb_M_isOwn 124 = .ok (.iconst 1, 1) ∧ 124 + 1 = 125 := ⟨by decide +kernel, rfl⟩
theorem zd_M_isOwn_125 : decode zb_M_isOwn 125 = .ok (.ireturn, 1) ∧ 125 + 1 = 126 := ⟨by decide +kernel, rfl⟩
theorem zd_M_isOwn_126 : decode zb_M_isOwn 126 = .ok (.lload_n 0, 1) ∧ 126 + 1 = 127 := ⟨by decide +kernel, rfl⟩
theorem zd_M_isOwn_127 : decode zb_M_isOwn 127 = .ok (.ldc2_w 268, 3) ∧ 127 + 3 = 130 := ⟨by decide +kernel, rfl⟩
theorem zd_M_isOwn_130 : decode zb_M_isOwn 130 = .ok (.lcmp, 1) ∧ 130 + 1 = 131 := ⟨by decide +kernel, rfl⟩
theorem zd_M_isOwn_131 : decode zb_M_isOwn 131 = .ok (.ifCond .eq 35, 3) ∧ ((131 : Nat) : Int) + (35) = ((166 : Nat) : Int) ∧ 131 + 3 = 134 := ⟨by decide +kernel, by decide, rfl⟩
theorem zd_M_isOwn_134 : decode zb_M_isOwn 134 = .ok (.lload_n 0, 1) ∧ 134 + 1 = 135 := ⟨by decide +kernel, rfl⟩
theorem zd_M_isOwn_135 : decode zb_M_isOwn 135 = .ok (.ldc2_w 270, 3) ∧ 135 + 3 = 138 := ⟨by decide +kernel, rfl⟩
theorem zd_M_isOwn_138 : decode zb_M_isOwn 138 = .ok (.lcmp, 1) ∧ 138 + 1 = 139 := ⟨by decide +kernel, rfl⟩
theorem zd_M_isOwn_139 : decode zb_M_isOwn 139 = .ok (.ifCond .eq 27, 3) ∧ ((139 : Nat) : Int) + (27) = ((166 : Nat) : Int) ∧ 139 + 3 = 142 := ⟨by decide +kernel, by decide, rfl⟩
theorem zd_M_isOwn_142 : decode zb_M_isOwn 142 = .ok (.lload_n 0, 1) ∧ 142 + 1 = 143 := ⟨by decide +kernel, rfl⟩
theorem zd_M_isOwn_143 : decode zb_M_isOwn 143 = .ok (.ldc2_w 272, 3) ∧ 143 + 3 = 146 := ⟨by decide +kernel, rfl⟩
theorem zd_M_isOwn_146 : decode zb_M_isOwn 146 = .ok (.lcmp, 1) ∧ 146 + 1 = 147 := ⟨by decide +kernel, rfl⟩
theorem zd_M_isOwn_147 : decode zb_M_isOwn 147 = .ok (.ifCond .eq 19, 3) ∧ ((147 : Nat) : Int) + (19) = ((166 : Nat) : Int) ∧ 147 + 3 = 150 := ⟨by decide +kernel, by decide, rfl⟩
theorem zd_M_isOwn_150 : decode zb_M_isOwn 150 = .ok (.lload_n 0, 1) ∧ 150 + 1 = 151 := ⟨by decide +kernel, rfl⟩
theorem zd_M_isOwn_151 : decode zb_M_isOwn 151 = .ok (.ldc2_w 274, 3) ∧ 151 + 3 = 154 := ⟨by decide +kernel, rfl⟩
theorem zd_M_isOwn_154 : decode zb_M_isOwn 154 = .ok (.lcmp, 1) ∧ 154 + 1 = 155 := ⟨by decide +kernel, rfl⟩
theorem zd_M_isOwn_155 : decode zb_M_isOwn 155 = .ok (.ifCond .eq 11, 3) ∧ ((155 : Nat) : Int) + (11) = ((166 : Nat) : Int) ∧ 155 + 3 = 158 := ⟨by decide +kernel, by decide, rfl⟩
theorem zd_M_isOwn_158 : decode zb_M_isOwn 158 = .ok (.lload_n 0, 1) ∧ 158 + 1 = 159 := ⟨by decide +kernel, rfl⟩
theorem zd_M_isOwn_159 : decode zb_M_isOwn 159 = .ok (.ldc2_w 276, 3) ∧ 159 + 3 = 162 := ⟨by decide +kernel, rfl⟩
theorem zd_M_isOwn_162 : decode zb_M_isOwn 162 = .ok (.lcmp, 1) ∧ 162 + 1 = 163 := ⟨by decide +kernel, rfl⟩
theorem zd_M_isOwn_163 : decode zb_M_isOwn 163 = .ok (.ifCond .ne 5, 3) ∧ ((163 : Nat) : Int) + (5) = ((168 : Nat) : Int) ∧ 163 + 3 = 166 := ⟨by decide +kernel, by decide, rfl⟩
theorem zd_M_isOwn_166 : decode zb_M_isOwn 166 = .ok (.iconst 1, 1) ∧ 166 + 1 = 167 := ⟨by decide +kernel, rfl⟩
theorem zd_M_isOwn_167 : decode zb_M_isOwn 167 = .ok (.ireturn, 1) ∧ 167 + 1 = 168 := ⟨by decide +kernel, rfl⟩
theorem zd_M_isOwn_168 : decode zb_M_isOwn 168 = .ok (.lload_n 0, 1) ∧ 168 + 1 = 169 := ⟨by decide +kernel, rfl⟩
theorem zd_M_isOwn_169 : decode zb_M_isOwn 169 = .ok (.ldc2_w 278, 3) ∧ 169 + 3 = 172 := ⟨by decide +kernel, rfl⟩
theorem zd_M_isOwn_172 : decode zb_M_isOwn 172 = .ok (.lcmp, 1) ∧ 172 + 1 = 173 := ⟨by decide +kernel, rfl⟩
theorem zd_M_isOwn_173 : decode zb_M_isOwn 173 = .ok (.ifCond .eq 35, 3) ∧ ((173 : Nat) : Int) + (35) = ((208 : Nat) : Int) ∧ 173 + 3 = 176 := ⟨by decide +kernel, by decide, rfl⟩
theorem zd_M_isOwn_176 : decode zb_M_isOwn 176 = .ok (.lload_n 0, 1) ∧ 176 + 1 = 177 := ⟨by decide +kernel, rfl⟩
theorem zd_M_isOwn_177 : decode zb_M_isOwn 177 = .ok (.ldc2_w 280, 3) ∧ 177 + 3 = 180 := ⟨by decide +kernel, rfl⟩
theorem zd_M_isOwn_180 : decode zb_M_isOwn 180 = .ok (.lcmp, 1) ∧ 180 + 1 = 181 := ⟨by decide +kernel, rfl⟩
theorem zd_M_isOwn_181 : decode zb_M_isOwn 181 = .ok (.ifCond .eq 27, 3) ∧ ((181 : Nat) : Int) + (27) = ((208 : Nat) : Int) ∧ 181 + 3 = 184 := ⟨by decide +kernel, by decide, rfl⟩
theorem zd_M_isOwn_184 : decode zb_M_isOwn 184 = .ok (.lload_n 0, 1) ∧ 184 + 1 = 185 := ⟨by decide +kernel, rfl⟩
theorem zd_M_isOwn_185 : decode zb_M_isOwn 185 = .ok (.ldc2_w 282, 3) ∧ 185 + 3 = 188 := ⟨by decide +kernel, rfl⟩
theorem zd_M_isOwn_188 : decode zb_M_isOwn 188 = .ok (.lcmp, 1) ∧ 188 + 1 = 189 := ⟨by decide +kernel, rfl⟩
theorem zd_M_isOwn_189 : decode zb_M_isOwn 189 = .ok (.ifCond .eq 19, 3) ∧ ((189 : Nat) : Int) + (19) = ((208 : Nat) : Int) ∧ 189 + 3 = 192 := ⟨by decide +kernel, by decide, rfl⟩
theorem zd_M_isOwn_192 : decode zb_M_isOwn 192 = .ok (.lload_n 0, 1) ∧ 192 + 1 = 193 := ⟨by decide +kernel, rfl⟩
theorem zd_M_isOwn_193 : decode zb_M_isOwn 193 = .ok (.ldc2_w 284, 3) ∧ 193 + 3 = 196 := ⟨by decide +kernel, rfl⟩
theorem zd_M_isOwn_196 : decode zb_M_isOwn 196 = .ok (.lcmp, 1) ∧ 196 + 1 = 197 := ⟨by decide +kernel, rfl⟩
theorem zd_M_isOwn_197 : decode zb_M_isOwn 197 = .ok (.ifCond .eq 11, 3) ∧ ((197 : Nat) : Int) + (11) = ((208 : Nat) : Int) ∧ 197 + 3 = 200 := ⟨by decide +kernel, by decide, rfl⟩
theorem zd_M_isOwn_200 : decode zb_M_isOwn 200 = .ok (.lload_n 0, 1) ∧ 200 + 1 = 201 := ⟨by decide +kernel, rfl⟩
theorem zd_M_isOwn_201 : decode zb_M_isOwn 201 = .ok (.ldc2_w 286, 3) ∧ 201 + 3 = 204 := ⟨by decide +kernel, rfl⟩
theorem zd_M_isOwn_204 : decode zb_M_isOwn 204 = .ok (.lcmp, 1) ∧ 204 + 1 = 205 := ⟨by decide +kernel, rfl⟩
theorem zd_M_isOwn_205 : decode zb_M_isOwn 205 = .ok (.ifCond .ne 5, 3) ∧ ((205 : Nat) : Int) + (5) = ((210 : Nat) : Int) ∧ 205 + 3 = 208 := ⟨by decide +kernel, by decide, rfl⟩
theorem zd_M_isOwn_208 : decode zb_M_isOwn 208 = .ok (.iconst 1, 1) ∧ 208 + 1 = 209 := ⟨by decide +kernel, rfl⟩
theorem zd_M_isOwn_209 : decode zb_M_isOwn 209 = .ok (.ireturn, 1) ∧ 209 + 1 = 210 := ⟨by decide +kernel, rfl⟩
theorem zd_M_isOwn_210 : decode zb_M_isOwn 210 = .ok (.lload_n 0, 1) ∧ 210 + 1 = 211 := ⟨by decide +kernel, rfl⟩
theorem zd_M_isOwn_211 : decode zb_M_isOwn 211 = .ok (.ldc2_w 288, 3) ∧ 211 + 3 = 214 := ⟨by decide +kernel, rfl⟩
theorem zd_M_isOwn_214 : decode zb_M_isOwn 214 = .ok (.lcmp, 1) ∧ 214 + 1 = 215 := ⟨by decide +kernel, rfl⟩
theorem zd_M_isOwn_215 : decode zb_M_isOwn 215 = .ok (.ifCond .eq 11, 3) ∧ ((215 : Nat) : Int) + (11) = ((226 : Nat) : Int) ∧ 215 + 3 = 218 := ⟨by decide +kernel, by decide, rfl⟩
theorem zd_M_isOwn_218 : decode zb_M_isOwn 218 = .ok (.lload_n 0, 1) ∧ 218 + 1 = 219 := ⟨by decide +kernel, rfl⟩
theorem zd_M_isOwn_219 : decode zb_M_isOwn 219 = .ok (.ldc2_w 290, 3) ∧ 219 + 3 = 222 := ⟨by decide +kernel, rfl⟩
theorem zd_M_isOwn_222 : decode zb_M_isOwn 222 = .ok (.lcmp, 1) ∧ 222 + 1 = 223 := ⟨by decide +kernel, rfl⟩
theorem zd_M_isOwn_223 : decode zb_M_isOwn 223 = .ok (.ifCond .ne 5, 3) ∧ ((223 : Nat) : Int) + (5) = ((228 : Nat) : Int) ∧ 223 + 3 = 226 := ⟨by decide +kernel, by decide, rfl⟩
theorem zd_M_isOwn_226 : decode zb_M_isOwn 226 = .ok (.iconst 1, 1) ∧ 226 + 1 = 227 := ⟨by decide +kernel, rfl⟩
theorem zd_M_isOwn_227 : decode zb_M_isOwn 227 = .ok (.ireturn, 1) ∧ 227 + 1 = 228 := ⟨by decide +kernel, rfl⟩
theorem zd_M_isOwn_228 : decode zb_M_isOwn 228 = .ok (.iconst 0, 1) ∧ 228 + 1 = 229 := ⟨by decide +kernel, rfl⟩
theorem zd_M_isOwn_229 : decode zb_M_isOwn 229 = .ok (.ireturn, 1) ∧ 229 + 1 = 230 := ⟨by decide +kernel, rfl⟩
theorem zd_M_next_0 : decode zb_M_next 0 = .ok (.aload_n 0, 1) ∧ 0 + 1 = 1 := ⟨by decide +kernel, rfl⟩
theorem zd_M_next_1 : decode zb_M_next 1 = .ok (.invokevirtual 292, 3) ∧ 1 + 3 = 4 := ⟨by decide +kernel, rfl⟩
theorem zd_M_next_4 : decode zb_M_next 4 = .ok (.aload_n 0, 1) ∧ 4 + 1 = 5 := ⟨by decide +kernel, rfl⟩
theorem zd_M_next_5 : decode zb_M_next 5 = .ok (.getfield 48, 3) ∧ 5 + 3 = 8 := ⟨by decide +kernel, rfl⟩
theorem zd_M_next_8 : decode zb_M_next 8 = .ok (.iconst (-1), 1) ∧ 8 + 1 = 9 := ⟨by decide +kernel, rfl⟩
theorem zd_M_next_9 : decode zb_M_next 9 = .ok (.if_icmp .eq 12, 3) ∧ ((9 : Nat) : Int) + (12) = ((21 : Nat) : Int) ∧ 9 + 3 = 12 := ⟨by decide +kernel, by decide, rfl⟩
theorem zd_M_next_12 : decode zb_M_next 12 = .ok (.aload_n 0, 1) ∧ 12 + 1 = 13 := ⟨by decide +kernel, rfl⟩
theorem zd_M_next_13 : decode zb_M_next 13 = .ok (.iconst 1, 1) ∧ 13 + 1 = 14 := ⟨by decide +kernel, rfl⟩
theorem zd_M_next_14 : decode zb_M_next 14 = .ok (.aload_n 0, 1) ∧ 14 + 1 = 15 := ⟨by decide +kernel, rfl⟩
theorem zd_M_next_15 : decode zb_M_next 15 = .ok (.getfield 48, 3) ∧ 15 + 3 = 18 := ⟨by decide +kernel, rfl⟩
theorem zd_M_next_18 : decode zb_M_next 18 = .ok (.invokevirtual 295, 3) ∧ 18 + 3 = 21 := ⟨by decide +kernel, rfl⟩
theorem zd_M_next_21 : decode zb_M_next 21 = .ok (.return_, 1) ∧ 21 + 1 = 22 := ⟨by decide +kernel, rfl⟩
theorem zd_M_looks_0 : decode zb_M_looks 0 = .ok (.aload_n 0, 1) ∧ 0 + 1 = 1 := ⟨by decide +kernel, rfl⟩
theorem zd_M_looks_1 : decode zb_M_looks 1 = .ok (.iconst (-1), 1) ∧ 1 + 1 = 2 := ⟨by decide +kernel, rfl⟩
theorem zd_M_looks_2 : decode zb_M_looks 2 = .ok (.putfield 48, 3) ∧ 2 + 3 = 5 := ⟨by decide +kernel, rfl⟩
theorem zd_M_looks_5 : decode zb_M_looks 5 = .ok (.aload_n 0, 1) ∧ 5 + 1 = 6 := ⟨by decide +kernel, rfl⟩
theorem zd_M_looks_6 : decode zb_M_looks 6 = .ok (.getfield 42, 3) ∧ 6 + 3 = 9 := ⟨by decide +kernel, rfl⟩
theorem zd_M_looks_9 : decode zb_M_looks 9 = .ok (.ifCond .le 4, 3) ∧ ((9 : Nat) : Int) + (4) = ((13 : Nat) : Int) ∧ 9 + 3 = 12 := ⟨by decide +kernel, by decide, rfl⟩
theorem zd_M_looks_12 : decode zb_M_looks 12 = .ok (.return_, 1) ∧ 12 + 1 = 13 := ⟨by decide +kernel, rfl⟩
theorem zd_M_looks_13 : decode zb_M_looks 13 = .ok (.aload_n 0, 1) ∧ 13 + 1 = 14 := ⟨by decide +kernel, rfl⟩
theorem zd_M_looks_14 : decode zb_M_looks 14 = .ok (.getfield 29, 3) ∧ 14 + 3 = 17 := ⟨by decide +kernel, rfl⟩
theorem zd_M_looks_17 : decode zb_M_looks 17 = .ok (.istore_n 1, 1) ∧ 17 + 1 = 18 := ⟨by decide +kernel, rfl⟩
theorem zd_M_looks_18 : decode zb_M_looks 18 = .ok (.iload_n 1, 1) ∧ 18 + 1 = 19 := ⟨by decide +kernel, rfl⟩
theorem zd_M_looks_19 : decode zb_M_looks 19 = .ok (.ifCond .le 33, 3) ∧ ((19 : Nat) : Int) + (33) = ((52 : Nat) : Int) ∧ 19 + 3 = 22 := ⟨by decide +kernel, by decide, rfl⟩
theorem zd_M_looks_22 : decode zb_M_looks 22 = .ok (.aload_n 0, 1) ∧ 22 + 1 = 23 := ⟨by decide +kernel, rfl⟩
theorem zd_M_looks_23 : decode zb_M_looks 23 = .ok (.iload_n 1, 1) ∧ 23 + 1 = 24 := ⟨by decide +kernel, rfl⟩
theorem zd_M_looks_24 : decode zb_M_looks 24 = .ok (.iconst 1, 1) ∧ 24 + 1 = 25 := ⟨by decide +kernel, rfl⟩
theorem zd_M_looks_25 : decode zb_M_looks 25 = .ok (.isub, 1) ∧ 25 + 1 = 26 := ⟨by decide +kernel, rfl⟩
theorem zd_M_looks_26 : decode zb_M_looks 26 = .ok (.invokevirtual 299, 3) ∧ 26 + 3 = 29 := ⟨by decide +kernel, rfl⟩
theorem zd_M_looks_29 : decode zb_M_looks 29 = .ok (.invokestatic 303, 3) ∧ 29 + 3 = 32 := ⟨by decide +kernel, rfl⟩
theorem zd_M_looks_32 : decode zb_M_looks 32 = .ok (.ifCond .ne 16, 3) ∧ ((32 : Nat) : Int) + (16) = ((48 : Nat) : Int) ∧ 32 + 3 = 35 := ⟨by decide +kernel, by decide, rfl⟩
theorem zd_M_looks_35 : decode zb_M_looks 35 = .ok (.aload_n 0, 1) ∧ 35 + 1 = 36 := ⟨by decide +kernel, rfl⟩
theorem zd_M_looks_36 : decode zb_M_looks 36 = .ok (.iload_n 1, 1) ∧ 36 + 1 = 37 := ⟨by decide +kernel, rfl⟩
theorem zd_M_looks_37 : decode zb_M_looks 37 = .ok (.iconst 1, 1) ∧ 37 + 1 = 38 := ⟨by decide +kernel, rfl⟩
theorem zd_M_looks_38 : decode zb_M_looks 38 = .ok (.isub, 1) ∧ 38 + 1 = 39 := ⟨by decide +kernel, rfl⟩
theorem zd_M_looks_39 : decode zb_M_looks 39 = .ok (.invokevirtual 299, 3) ∧ 39 + 3 = 42 := ⟨by decide +kernel, rfl⟩
theorem zd_M_looks_42 : decode zb_M_looks 42 = .ok (.invokestatic 307, 3) ∧ 42 + 3 = 45 := ⟨by decide +kernel, rfl⟩
theorem zd_M_looks_45 : decode zb_M_looks 45 = .ok (.ifCond .eq 7, 3) ∧ ((45 : Nat) : Int) + (7) = ((52 : Nat) : Int) ∧ 45 + 3 = 48 := ⟨by decide +kernel, by decide, rfl⟩
theorem zd_M_looks_48 : decode zb_M_looks 48 = .ok (.iconst 1, 1) ∧ 48 + 1 = 49 := ⟨by decide +kernel, rfl⟩
theorem zd_M_looks_49 : decode zb_M_looks 49 = .ok (.goto 4, 3) ∧ ((49 : Nat) : Int) + (4) = ((53 : Nat) : Int) ∧ 49 + 3 = 52 := ⟨by decide +kernel, by decide, rfl⟩
theorem zd_M_looks_52 : decode zb_M_looks 52 = .ok (.iconst 0, 1) ∧ 52 + 1 = 53 := ⟨by decide +kernel, rfl⟩
theorem zd_M_looks_53 : decode zb_M_looks 53 = .ok (.istore_n 2, 1) ∧ 53 + 1 = 54 := ⟨by decide +kernel, rfl⟩
theorem zd_M_looks_54 : decode zb_M_looks 54 = .ok (.aload_n 0, 1) ∧ 54 + 1 = 55 := ⟨by decide +kernel, rfl⟩
theorem zd_M_looks_55 : decode zb_M_looks 55 = .ok (.iload_n 1, 1) ∧ 55 + 1 = 56 := ⟨by decide +kernel, rfl⟩
theorem zd_M_looks_56 : decode zb_M_looks 56 = .ok (.invokevirtual 299, 3) ∧ 56 + 3 = 59 := ⟨by decide +kernel, rfl⟩
theorem zd_M_looks_59 : decode zb_M_looks 59 = .ok (.bipush 32, 2) ∧ 59 + 2 = 61 := ⟨by decide +kernel, rfl⟩
theorem zd_M_looks_61 : decode zb_M_looks 61 = .ok (.if_icmp .eq 13, 3) ∧ ((61 : Nat) : Int) + (13) = ((74 : Nat) : Int) ∧ 61 + 3 = 64 := ⟨by decide +kernel, by decide, rfl⟩
theorem zd_M_looks_64 : decode zb_M_looks 64 = .ok (.aload_n 0, 1) ∧ 64 + 1 = 65 := ⟨by decide +kernel, rfl⟩
theorem zd_M_looks_65 : decode zb_M_looks 65 = .ok (.iload_n 1, 1) ∧ 65 + 1 = 66 := ⟨by decide +kernel, rfl⟩
theorem zd_M_looks_66 : decode zb_M_looks 66 = .ok (.invokevirtual 299, 3) ∧ 66 + 3 = 69 := ⟨by decide +kernel, rfl⟩
theorem zd_M_looks_69 : decode zb_M_looks 69 = .ok (.bipush 10, 2) ∧ 69 + 2 = 71 := ⟨by decide +kernel, rfl⟩
theorem zd_M_looks_71 : decode zb_M_looks 71 = .ok (.if_icmp .ne 9, 3) ∧ ((71 : Nat) : Int) + (9) = ((80 : Nat) : Int) ∧ 71 + 3 = 74 := ⟨by decide +kernel, by decide, rfl⟩
theorem zd_M_looks_74 : decode zb_M_looks 74 = .ok (.iinc 1 1, 3) ∧ 74 + 3 = 77 := ⟨by decide +kernel, rfl⟩
theorem zd_M_looks_77 : decode zb_M_looks 77 = .ok (.goto (-23), 3) ∧ ((77 : Nat) : Int) + (-23) = ((54 : Nat) : Int) ∧ 77 + 3 = 80 := ⟨by decide +kernel, by decide, rfl⟩
theorem zd_M_looks_80 : decode zb_M_looks 80 = .ok (.aload_n 0, 1) ∧ 80 + 1 = 81 := ⟨by decide +kernel, rfl⟩
theorem zd_M_looks_81 : decode zb_M_looks 81 = .ok (.iload_n 1, 1) ∧ 81 + 1 = 82 := ⟨by decide +kernel, rfl⟩
theorem zd_M_looks_82 : decode zb_M_looks 82 = .ok (.putfield 26, 3) ∧ 82 + 3 = 85 := ⟨by decide +kernel, rfl⟩
theorem zd_M_looks_85 : decode zb_M_looks 85 = .ok (.aload_n 0, 1) ∧ 85 + 1 = 86 := ⟨by decide +kernel, rfl⟩
theorem zd_M_looks_86 : decode zb_M_looks 86 = .ok (.iload_n 1, 1) ∧ 86 + 1 = 87 := ⟨by decide +kernel, rfl⟩
theorem zd_M_looks_87 : decode zb_M_looks 87 = .ok (.invokevirtual 299, 3) ∧ 87 + 3 = 90 := ⟨by decide +kernel, rfl⟩
theorem zd_M_looks_90 : decode zb_M_looks 90 = .ok (.istore_n 3, 1) ∧ 90 + 1 = 91 := ⟨by decide +kernel, rfl⟩
theorem zd_M_looks_91 : decode zb_M_looks 91 = .ok (.aload_n 0, 1) ∧ 91 + 1 = 92 := ⟨by decide +kernel, rfl⟩
theorem zd_M_looks_92 : decode zb_M_looks 92 = .ok (.iload_n 3, 1) ∧ 92 + 1 = 93 := ⟨by decide +kernel, rfl⟩
theorem zd_M_looks_93 : decode zb_M_looks 93 = .ok (.iconst (-1), 1) ∧ 93 + 1 = 94 := ⟨by decide +kernel, rfl⟩
theorem zd_M_looks_94 : decode zb_M_looks 94 = .ok (.if_icmp .ne 7, 3) ∧ ((94 : Nat) : Int) + (7) = ((101 : Nat) : Int) ∧ 94 + 3 = 97 := ⟨by decide +kernel, by decide, rfl⟩
theorem zd_M_looks_97 : decode zb_M_looks 97 = .ok (.iconst 0, 1) ∧ 97 + 1 = 98 := ⟨by decide +kernel, rfl⟩
theorem zd_M_looks_98 : decode zb_M_looks 98 = .ok (.goto 26, 3) ∧ ((98 : Nat) : Int) + (26) = ((124 : Nat) : Int) ∧ 98 + 3 = 101 := ⟨by decide +kernel, by decide, rfl⟩
theorem zd_M_looks_101 : decode zb_M_looks 101 = .ok (.iload_n 3, 1) ∧ 101 + 1 = 102 := ⟨by decide +kernel, rfl⟩
theorem zd_M_looks_102 : decode zb_M_looks 102 = .ok (.invokestatic 303, 3) ∧ 102 + 3 = 105 := ⟨by decide +kernel, rfl⟩
theorem zd_M_looks_105 : decode zb_M_looks 105 = .ok (.ifCond .eq 7, 3) ∧ ((105 : Nat) : Int) + (7) = ((112 : Nat) : Int) ∧ 105 + 3 = 108 := ⟨by decide +kernel, by decide, rfl⟩
theorem zd_M_looks_108 : decode zb_M_looks 108 = .ok (.iconst 1, 1) ∧ 108 + 1 = 109 := ⟨by decide +kernel, rfl⟩
theorem zd_M_looks_109 : decode zb_M_looks 109 = .ok (.goto 15, 3) ∧ ((109 : Nat) : Int) + (15) = ((124 : Nat) : Int) ∧ 109 + 3 = 112 := ⟨by decide +kernel, by decide, rfl⟩
theorem zd_M_looks_112 : decode zb_M_looks 112 = .ok (.iload_n 3, 1) ∧ 112 + 1 = 113 := ⟨by decide +kernel, rfl⟩
theorem zd_M_looks_113 : decode zb_M_looks 113 = .ok (.invokestatic 307, 3) ∧ 113 + 3 = 116 := ⟨by decide +kernel, rfl⟩
theorem zd_M_looks_116 : decode zb_M_looks 116 = .ok (.ifCond .eq 7, 3) ∧ ((116 : Nat) : Int) + (7) = ((123 : Nat) : Int) ∧ 116 + 3 = 119 := ⟨by decide +kernel, by decide, rfl⟩
theorem zd_M_looks_119 : decode zb_M_looks 119 = .ok (.iconst 2, 1) ∧ 119 + 1 = 120 := ⟨by decide +kernel, rfl⟩
theorem zd_M_looks_120 : decode zb_M_looks 120 = .ok (.goto 4, 3) ∧ ((120 : Nat) : Int) + (4) = ((124 : Nat) : Int) ∧ 120 + 3 = 123 := ⟨by decide +kernel, by decide, rfl⟩
theorem zd_M_looks_123 : decode zb_M_looks 123 = .ok (.iconst 3, 1) ∧ 123 + 1 = 124 := ⟨by decide +kernel, rfl⟩
theorem zd_M_looks_124 : decode zb_M_looks 124 = .ok (.putfield 32, 3) ∧ 124 + 3 = 127 := ⟨by decide +kernel, rfl⟩
theorem zd_M_looks_127 : decode zb_M_looks 127 = .ok (.aload_n 0, 1) ∧ 127 + 1 = 128 := ⟨by decide +kernel, rfl⟩
theorem zd_M_looks_128 : decode zb_M_looks 128 = .ok (.lconst 0, 1) ∧ 128 + 1 = 129 := ⟨by decide +kernel, rfl⟩
theorem zd_M_looks_129 : decode zb_M_looks 129 = .ok (.putfield 35, 3) ∧ 129 + 3 = 132 := ⟨by decide +kernel, rfl⟩
theorem zd_M_looks_132 : decode zb_M_looks 132 = .ok (.aload_n 0, 1) ∧ 132 + 1 = 133 := ⟨by decide +kernel, rfl⟩
theorem zd_M_looks_133 : decode zb_M_looks 133 = .ok (.iconst 0, 1) ∧ 133 + 1 = 134 := ⟨by decide +kernel, rfl⟩
theorem zd_M_looks_134 : decode zb_M_looks 134 = .ok (.putfield 39, 3) ∧ 134 + 3 = 137 := ⟨by decide +kernel, rfl⟩
theorem zd_M_looks_137 : decode zb_M_looks 137 = .ok (.aload_n 0, 1) ∧ 137 + 1 = 138 := ⟨by decide +kernel, rfl⟩
theorem zd_M_looks_138 : decode zb_M_looks 138 = .ok (.getfield 32, 3) ∧ 138 + 3 = 141 := ⟨by decide +kernel, rfl⟩
theorem zd_M_looks_141 : decode zb_M_looks 141 = .ok (.iconst 1, 1) ∧ 141 + 1 = 142 := ⟨by decide +kernel, rfl⟩
theorem zd_M_looks_142 : decode zb_M_looks 142 = .ok (.if_icmp .eq 11, 3) ∧ ((142 : Nat) : Int) + (11) = ((153 : Nat) : Int) ∧ 142 + 3 = 145 := ⟨by decide +kernel, by decide, rfl⟩
theorem zd_M_looks_145 : decode zb_M_looks 145 = .ok (.aload_n 0, 1) ∧ 145 + 1 = 146 := ⟨by decide +kernel, rfl⟩
theorem zd_M_looks_146 : decode zb_M_looks 146 = .ok (.getfield 32, 3) ∧ 146 + 3 = 149 := ⟨by decide +kernel, rfl⟩
theorem zd_M_looks_149 : decode zb_M_looks 149 = .ok (.iconst 2, 1) ∧ 149 + 1 = 150 := ⟨by decide +kernel, rfl⟩
theorem zd_M_looks_150 : decode zb_M_looks 150 = .ok (.if_icmp .ne 20, 3) ∧ ((150 : Nat) : Int) + (20) = ((170 : Nat) : Int) ∧ 150 + 3 = 153 := ⟨by decide +kernel, by decide, rfl⟩
theorem zd_M_looks_153 : decode zb_M_looks 153 = .ok (.iload_n 2, 1) ∧ 153 + 1 = 154 := ⟨by decide +kernel, rfl⟩
theorem zd_M_looks_154 : decode zb_M_looks 154 = .ok (.ifCond .eq 16, 3) ∧ ((154 : Nat) : Int) + (16) = ((170 : Nat) : Int) ∧ 154 + 3 = 157 := ⟨by decide +kernel, by decide, rfl⟩
theorem zd_M_looks_157 : decode zb_M_looks 157 = .ok (.iload_n 1, 1) ∧ 157 + 1 = 158 := ⟨by decide +kernel, rfl⟩
theorem zd_M_looks_158 : decode zb_M_looks 158 = .ok (.aload_n 0, 1) ∧ 158 + 1 = 159 := ⟨by decide +kernel, rfl⟩
theorem zd_M_looks_159 : decode zb_M_looks 159 = .ok (.getfield 29, 3) ∧ 159 + 3 = 162 := ⟨by decide +kernel, rfl⟩
theorem zd_M_looks_162 : decode zb_M_looks 162 = .ok (.if_icmp .ne 8, 3) ∧ ((162 : Nat) : Int) + (8) = ((170 : Nat) : Int) ∧ 162 + 3 = 165 := ⟨by decide +kernel, by decide, rfl⟩
theorem zd_M_looks_165 : decode zb_M_looks 165 = .ok (.aload_n 0, 1) ∧ 165 + 1 = 166 := ⟨by decide +kernel, rfl⟩
theorem zd_M_looks_166 : decode zb_M_looks 166 = .ok (.iload_n 1, 1) ∧ 166 + 1 = 167 := ⟨by decide +kernel, rfl⟩
theorem zd_M_looks_167 : decode zb_M_looks 167 = .ok (.putfield 48, 3) ∧ 167 + 3 = 170 := ⟨by decide +kernel, rfl⟩
theorem zd_M_looks_170 : decode zb_M_looks 170 = .ok (.iconst 0, 1) ∧ 170 + 1 = 171 := ⟨by decide +kernel, rfl⟩
theorem zd_M_looks_171 : decode zb_M_looks 171 = .ok (.istore 4, 2) ∧ 171 + 2 = 173 := ⟨by decide +kernel, rfl⟩
theorem zd_M_looks_173 : decode zb_M_looks 173 = .ok (.aload_n 0, 1) ∧ 173 + 1 = 174 := ⟨by decide +kernel, rfl⟩
theorem zd_M_looks_174 : decode zb_M_looks 174 = .ok (.getfield 32, 3) ∧ 174 + 3 = 177 := ⟨by decide +kernel, rfl⟩
theorem zd_M_looks_177 : decode zb_M_looks 177 = .ok (.iconst 1, 1) ∧ 177 + 1 = 178 := ⟨by decide +kernel, rfl⟩
theorem zd_M_looks_178 : decode zb_M_looks 178 = .ok (.if_icmp .ne 14, 3) ∧ ((178 : Nat) : Int) + (14) = ((192 : Nat) : Int) ∧ 178 + 3 = 181 := ⟨by decide +kernel, by decide, rfl⟩
theorem zd_M_looks_181 : decode zb_M_looks 181 = .ok (.aload_n 0, 1) ∧ 181 + 1 = 182 := ⟨by decide +kernel, rfl⟩
theorem zd_M_looks_182 : decode zb_M_looks 182 = .ok (.iload_n 1, 1) ∧ 182 + 1 = 183 := ⟨by decide +kernel, rfl⟩
theorem zd_M_looks_183 : decode zb_M_looks 183 = .ok (.invokevirtual 299, 3) ∧ 183 + 3 = 186 := ⟨by decide +kernel, rfl⟩
theorem zd_M_looks_186 : decode zb_M_looks 186 = .ok (.invokestatic 303, 3) ∧ 186 + 3 = 189 := ⟨by decide +kernel, rfl⟩
theorem zd_M_looks_189 : decode zb_M_looks 189 = .ok (.ifCond .ne 28, 3) ∧ ((189 : Nat) : Int) + (28) = ((217 : Nat) : Int) ∧ 189 + 3 = 192 := ⟨by decide +kernel, by decide, rfl⟩
theorem zd_M_looks_192 : decode zb_M_looks 192 = .ok (.aload_n 0, 1) ∧ 192 + 1 = 193 := ⟨by decide +kernel, rfl⟩
theorem zd_M_looks_193 : decode zb_M_looks 193 = .ok (.getfield 32, 3) ∧ 193 + 3 = 196 := ⟨by decide +kernel, rfl⟩
theorem zd_M_looks_196 : decode zb_M_looks 196 = .ok (.iconst 2, 1) ∧ 196 + 1 = 197 := ⟨by decide +kernel, rfl⟩
theorem zd_M_looks_197 : decode zb_M_looks 197 = .ok (.if_icmp .ne 121, 3) ∧ ((197 : Nat) : Int) + (121) = ((318 : Nat) : Int) ∧ 197 + 3 = 200 := ⟨by decide +kernel, by decide, rfl⟩
theorem zd_M_looks_200 : decode zb_M_looks 200 = .ok (.aload_n 0, 1) ∧ 200 + 1 = 201 := ⟨by decide +kernel, rfl⟩
theorem zd_M_looks_201 : decode zb_M_looks 201 = .ok (.iload_n 1, 1) ∧ 201 + 1 = 202 := ⟨by decide +kernel, rfl⟩
theorem zd_M_looks_202 : decode zb_M_looks 202 = .ok (.invokevirtual 299, 3) ∧ 202 + 3 = 205 := ⟨by decide +kernel, rfl⟩
theorem zd_M_looks_205 : decode zb_M_looks 205 = .ok (.invokestatic 307, 3) ∧ 205 + 3 = 208 := ⟨by decide +kernel, rfl⟩
theorem zd_M_looks_208 : decode zb_M_looks 208 = .ok (.ifCond .eq 110, 3) ∧ ((208 : Nat) : Int) + (110) = ((318 : Nat) : Int) ∧ 208 + 3 = 211 := ⟨by decide +kernel, by decide, rfl⟩
theorem zd_M_looks_211 : decode zb_M_looks 211 = .ok (.iload 4, 2) ∧ 211 + 2 = 213 := ⟨by decide +kernel, rfl⟩
theorem zd_M_looks_213 : decode zb_M_looks 213 = .ok (.iconst 5, 1) ∧ 213 + 1 = 214 := ⟨by decide +kernel, rfl⟩
theorem zd_M_looks_214 : decode zb_M_looks 214 = .ok (.if_icmp .ge 104, 3) ∧ ((214 : Nat) : Int) + (104) = ((318 : Nat) : Int) ∧ 214 + 3 = 217 := ⟨by decide +kernel, by decide, rfl⟩
theorem zd_M_looks_217 : decode zb_M_looks 217 = .ok (.aload_n 0, 1) ∧ 217 + 1 = 218 := ⟨by decide +kernel, rfl⟩
theorem zd_M_looks_218 : decode zb_M_looks 218 = .ok (.getfield 32, 3) ∧ 218 + 3 = 221 := ⟨by decide +kernel, rfl⟩
theorem zd_M_looks_221 : decode zb_M_looks 221 = .ok (.iconst 2, 1) ∧ 221 + 1 = 222 := ⟨by decide +kernel, rfl⟩
theorem zd_M_looks_222 : decode zb_M_looks 222 = .ok (.if_icmp .ne 22, 3) ∧ ((222 : Nat) : Int) + (22) = ((244 : Nat) : Int) ∧ 222 + 3 = 225 := ⟨by decide +kernel, by decide, rfl⟩
theorem zd_M_looks_225 : decode zb_M_looks 225 = .ok (.iload 4, 2) ∧ 225 + 2 = 227 := ⟨by decide +kernel, rfl⟩
theorem zd_M_looks_227 : decode zb_M_looks 227 = .ok (.iconst 4, 1) ∧ 227 + 1 = 228 := ⟨by decide +kernel, rfl⟩
theorem zd_M_looks_228 : decode zb_M_looks 228 = .ok (.if_icmp .ne 16, 3) ∧ ((228 : Nat) : Int) + (16) = ((244 : Nat) : Int) ∧ 228 + 3 = 231 := ⟨by decide +kernel, by decide, rfl⟩
theorem zd_M_looks_231 : decode zb_M_looks 231 = .ok (.aload_n 0, 1) ∧ 231 + 1 = 232 := ⟨by decide +kernel, rfl⟩
theorem zd_M_looks_232 : decode zb_M_looks 232 = .ok (.getfield 48, 3) ∧ 232 + 3 = 235 := ⟨by decide +kernel, rfl⟩
theorem zd_M_looks_235 : decode zb_M_looks 235 = .ok (.iconst (-1), 1) ∧ 235 + 1 = 236 := ⟨by decide +kernel, rfl⟩
theorem zd_M_looks_236 : decode zb_M_looks 236 = .ok (.if_icmp .ne 8, 3) ∧ ((236 : Nat) : Int) + (8) = ((244 : Nat) : Int) ∧ 236 + 3 = 239 := ⟨by decide +kernel, by decide, rfl⟩
theorem zd_M_looks_239 : decode zb_M_looks 239 = .ok (.aload_n 0, 1) ∧ 239 + 1 = 240 := ⟨by decide +kernel, rfl⟩
theorem zd_M_looks_240 : decode zb_M_looks 240 = .ok (.iload_n 1, 1) ∧ 240 + 1 = 241 := ⟨by decide +kernel, rfl⟩
theorem zd_M_looks_241 : decode zb_M_looks 241 = .ok (.putfield 48, 3) ∧ 241 + 3 = 244 := ⟨by decide +kernel, rfl⟩
theorem zd_M_looks_244 : decode zb_M_looks 244 = .ok (.aload_n 0, 1) ∧ 244 + 1 = 245 := ⟨by decide +kernel, rfl⟩
theorem zd_M_looks_245 : decode zb_M_looks 245 = .ok (.getfield 32, 3) ∧ 245 + 3 = 248 := ⟨by decide +kernel, rfl⟩
theorem zd_M_looks_248 : decode zb_M_looks 248 = .ok (.iconst 1, 1) ∧ 248 + 1 = 249 := ⟨by decide +kernel, rfl⟩
theorem zd_M_looks_249 : decode zb_M_looks 249 = .ok (.if_icmp .ne 28, 3) ∧ ((249 : Nat) : Int) + (28) = ((277 : Nat) : Int) ∧ 249 + 3 = 252 := ⟨by decide +kernel, by decide, rfl⟩
theorem zd_M_looks_252 : decode zb_M_looks 252 = .ok (.iload 4, 2) ∧ 252 + 2 = 254 := ⟨by decide +kernel, rfl⟩
theorem zd_M_looks_254 : decode zb_M_looks 254 = .ok (.bipush 8, 2) ∧ 254 + 2 = 256 := ⟨by decide +kernel, rfl⟩
theorem zd_M_looks_256 : decode zb_M_looks 256 = .ok (.if_icmp .ge 21, 3) ∧ ((256 : Nat) : Int) + (21) = ((277 : Nat) : Int) ∧ 256 + 3 = 259 := ⟨by decide +kernel, by decide, rfl⟩
theorem zd_M_looks_259 : decode zb_M_looks 259 = .ok (.aload_n 0, 1) ∧ 259 + 1 = 260 := ⟨by decide +kernel, rfl⟩
theorem zd_M_looks_260 : decode zb_M_looks 260 = .ok (.aload_n 0, 1) ∧ 260 + 1 = 261 := ⟨by decide +kernel, rfl⟩
theorem zd_M_looks_261 : decode zb_M_looks 261 = .ok (.getfield 35, 3) ∧ 261 + 3 = 264 := ⟨by decide +kernel, rfl⟩
theorem zd_M_looks_264 : decode zb_M_looks 264 = .ok (.bipush 8, 2) ∧ 264 + 2 = 266 := ⟨by decide +kernel, rfl⟩
theorem zd_M_looks_266 : decode zb_M_looks 266 = .ok (.lshl, 1) ∧ 266 + 1 = 267 := ⟨by decide +kernel, rfl⟩
theorem zd_M_looks_267 : decode zb_M_looks 267 = .ok (.aload_n 0, 1) ∧ 267 + 1 = 268 := ⟨by decide +kernel, rfl⟩
theorem zd_M_looks_268 : decode zb_M_looks 268 = .ok (.iload_n 1, 1) ∧ 268 + 1 = 269 := ⟨by decide +kernel, rfl⟩
theorem zd_M_looks_269 : decode zb_M_looks 269 = .ok (.invokevirtual 299, 3) ∧ 269 + 3 = 272 := ⟨by decide +kernel, rfl⟩
theorem zd_M_looks_272 : decode zb_M_looks 272 = .ok (.i2l, 1) ∧ 272 + 1 = 273 := ⟨by decide +kernel, rfl⟩
theorem zd_M_looks_273 : decode zb_M_looks 273 = .ok (.lor, 1) ∧ 273 + 1 = 274 := ⟨by decide +kernel, rfl⟩
theorem zd_M_looks_274 : decode zb_M_looks 274 = .ok (.putfield 35, 3) ∧ 274 + 3 = 277 := ⟨by decide +kernel, rfl⟩
theorem zd_M_looks_277 : decode zb_M_looks 277 = .ok (.aload_n 0, 1) ∧ 277 + 1 = 278 := ⟨by decide +kernel, rfl⟩
theorem zd_M_looks_278 : decode zb_M_looks 278 = .ok (.aload_n 0, 1) ∧ 278 + 1 = 279 := ⟨by decide +kernel, rfl⟩
theorem zd_M_looks_279 : decode zb_M_looks 279 = .ok (.getfield 32, 3) ∧ 279 + 3 = 282 := ⟨by decide +kernel, rfl⟩
theorem zd_M_looks_282 : decode zb_M_looks 282 = .ok (.iconst 2, 1) ∧ 282 + 1 = 283 := ⟨by decide +kernel, rfl⟩
theorem zd_M_looks_283 : decode zb_M_looks 283 = .ok (.if_icmp .ne 22, 3) ∧ ((283 : Nat) : Int) + (22) = ((305 : Nat) : Int) ∧ 283 + 3 = 286 := ⟨by decide +kernel, by decide, rfl⟩
theorem zd_M_looks_286 : decode zb_M_looks 286 = .ok (.bipush 10, 2) ∧ 286 + 2 = 288 := ⟨by decide +kernel, rfl⟩
theorem zd_M_looks_288 : decode zb_M_looks 288 = .ok (.aload_n 0, 1) ∧ 288 + 1 = 289 := ⟨by decide +kernel, rfl⟩
theorem zd_M_looks_289 : decode zb_M_looks 289 = .ok (.getfield 39, 3) ∧ 289 + 3 = 292 := ⟨by decide +kernel, rfl⟩
theorem zd_M_looks_292 : decode zb_M_looks 292 = .ok (.imul, 1) ∧ 292 + 1 = 293 := ⟨by decide +kernel, rfl⟩
theorem zd_M_looks_293 : decode zb_M_looks 293 = .ok (.aload_n 0, 1) ∧ 293 + 1 = 294 := ⟨by decide +kernel, rfl⟩
theorem zd_M_looks_294 : decode zb_M_looks 294 = .ok (.iload_n 1, 1) ∧ 294 + 1 = 295 := ⟨by decide +kernel, rfl⟩
theorem zd_M_looks_295 : decode zb_M_looks 295 = .ok (.invokevirtual 299, 3) ∧ 295 + 3 = 298 := ⟨by decide +kernel, rfl⟩
theorem zd_M_looks_298 : decode zb_M_looks 298 = .ok (.iadd, 1) ∧ 298 + 1 = 299 := ⟨by decide +kernel, rfl⟩
theorem zd_M_looks_299 : decode zb_M_looks 299 = .ok (.bipush 48, 2) ∧ 299 + 2 = 301 := ⟨by decide +kernel, rfl⟩
theorem zd_M_looks_301 : decode zb_M_looks 301 = .ok (.isub, 1) ∧ 301 + 1 = 302 := ⟨by decide +kernel, rfl⟩
theorem zd_M_looks_302 : decode zb_M_looks 302 = .ok (.goto 4, 3) ∧ ((302 : Nat) : Int) + (4) = ((306 : Nat) : Int) ∧ 302 + 3 = 305 := ⟨by decide +kernel, by decide, rfl⟩
theorem zd_M_looks_305 : decode zb_M_looks 305 = .ok (.iconst 0, 1) ∧ 305 + 1 = 306 := ⟨by decide +kernel, rfl⟩
theorem zd_M_looks_306 : decode zb_M_looks 306 = .ok (.putfield 39, 3) ∧ 306 + 3 = 309 := ⟨by decide +kernel, rfl⟩
theorem zd_M_looks_309 : decode zb_M_looks 309 = .ok (.iinc 1 1, 3) ∧ 309 + 3 = 312 := ⟨by decide +kernel, rfl⟩
theorem zd_M_looks_312 : decode zb_M_looks 312 = .ok (.iinc 4 1, 3) ∧ 312 + 3 = 315 := ⟨by decide +kernel, rfl⟩
theorem zd_M_looks_315 : decode zb_M_looks 315 = .ok (.goto (-142), 3) ∧ ((315 : Nat) : Int) + (-142) = ((173 : Nat) : Int) ∧ 315 + 3 = 318 := ⟨by decide +kernel, by decide, rfl⟩
theorem zd_M_looks_318 : decode zb_M_looks 318 = .ok (.aload_n 0, 1) ∧ 318 + 1 = 319 := ⟨by decide +kernel, rfl⟩
theorem zd_M_looks_319 : decode zb_M_looks 319 = .ok (.getfield 32, 3) ∧ 319 + 3 = 322 := ⟨by decide +kernel, rfl⟩
theorem zd_M_looks_322 : decode zb_M_looks 322 = .ok (.iconst 1, 1) ∧ 322 + 1 = 323 := ⟨by decide +kernel, rfl⟩
theorem zd_M_looks_323 : decode zb_M_looks 323 = .ok (.if_icmp .ne 39, 3) ∧ ((323 : Nat) : Int) + (39) = ((362 : Nat) : Int) ∧ 323 + 3 = 326 := ⟨by decide +kernel, by decide, rfl⟩
theorem zd_M_looks_326 : decode zb_M_looks 326 = .ok (.iload 4, 2) ∧ 326 + 2 = 328 := ⟨by decide +kernel, rfl⟩
theorem zd_M_looks_328 : decode zb_M_looks 328 = .ok (.bipush 6, 2) ∧ 328 + 2 = 330 := ⟨by decide +kernel, rfl⟩
theorem zd_M_looks_330 : decode zb_M_looks 330 = .ok (.if_icmp .le 32, 3) ∧ ((330 : Nat) : Int) + (32) = ((362 : Nat) : Int) ∧ 330 + 3 = 333 := ⟨by decide +kernel, by decide, rfl⟩
theorem zd_M_looks_333 : decode zb_M_looks 333 = .ok (.aload_n 0, 1) ∧ 333 + 1 = 334 := ⟨by decide +kernel, rfl⟩
theorem zd_M_looks_334 : decode zb_M_looks 334 = .ok (.getfield 35, 3) ∧ 334 + 3 = 337 := ⟨by decide +kernel, rfl⟩
theorem zd_M_looks_337 : decode zb_M_looks 337 = .ok (.invokestatic 310, 3) ∧ 337 + 3 = 340 := ⟨by decide +kernel, rfl⟩
theorem zd_M_looks_340 : decode zb_M_looks 340 = .ok (.ifCond .ne 22, 3) ∧ ((340 : Nat) : Int) + (22) = ((362 : Nat) : Int) ∧ 340 + 3 = 343 := ⟨by decide +kernel, by decide, rfl⟩
theorem zd_M_looks_343 : decode zb_M_looks 343 = .ok (.aload_n 0, 1) ∧ 343 + 1 = 344 := ⟨by decide +kernel, rfl⟩
theorem zd_M_looks_344 : decode zb_M_looks 344 = .ok (.getfield 48, 3) ∧ 344 + 3 = 347 := ⟨by decide +kernel, rfl⟩
theorem zd_M_looks_347 : decode zb_M_looks 347 = .ok (.iconst (-1), 1) ∧ 347 + 1 = 348 := ⟨by decide +kernel, rfl⟩
theorem zd_M_looks_348 : decode zb_M_looks 348 = .ok (.if_icmp .ne 14, 3) ∧ ((348 : Nat) : Int) + (14) = ((362 : Nat) : Int) ∧ 348 + 3 = 351 := ⟨by decide +kernel, by decide, rfl⟩
theorem zd_M_looks_351 : decode zb_M_looks 351 = .ok (.aload_n 0, 1) ∧ 351 + 1 = 352 := ⟨by decide +kernel, rfl⟩
theorem zd_M_looks_352 : decode zb_M_looks 352 = .ok (.aload_n 0, 1) ∧ 352 + 1 = 353 := ⟨by decide +kernel, rfl⟩
theorem zd_M_looks_353 : decode zb_M_looks 353 = .ok (.getfield 26, 3) ∧ 353 + 3 = 356 := ⟨by decide +kernel, rfl⟩
theorem zd_M_looks_356 : decode zb_M_looks 356 = .ok (.bipush 6, 2) ∧ 356 + 2 = 358 := ⟨by decide +kernel, rfl⟩
theorem zd_M_looks_358 : decode zb_M_looks 358 = .ok (.iadd, 1) ∧ 358 + 1 = 359 := ⟨by decide +kernel, rfl⟩
theorem zd_M_looks_359 : decode zb_M_looks 359 = .ok (.putfield 48, 3) ∧ 359 + 3 = 362 := ⟨by decide +kernel, rfl⟩
theorem zd_M_looks_362 : decode zb_M_looks 362 = .ok (.aload_n 0, 1) ∧ 362 + 1 = 363 := ⟨by decide +kernel, rfl⟩
theorem zd_M_looks_363 : decode zb_M_looks 363 = .ok (.aload_n 0, 1) ∧ 363 + 1 = 364 := ⟨by decide +kernel, rfl⟩
theorem zd_M_looks_364 : decode zb_M_looks 364 = .ok (.getfield 32, 3) ∧ 364 + 3 = 367 := ⟨by decide +kernel, rfl⟩
theorem zd_M_looks_367 : decode zb_M_looks 367 = .ok (.iconst 3, 1) ∧ 367 + 1 = 368 := ⟨by decide +kernel, rfl⟩
theorem zd_M_looks_368 : decode zb_M_looks 368 = .ok (.if_icmp .ne 9, 3) ∧ ((368 : Nat) : Int) + (9) = ((377 : Nat) : Int) ∧ 368 + 3 = 371 := ⟨by decide +kernel, by decide, rfl⟩
theorem zd_M_looks_371 : decode zb_M_looks 371 = .ok (.iload_n 1, 1) ∧ 371 + 1 = 372 := ⟨by decide +kernel, rfl⟩
theorem zd_M_looks_372 : decode zb_M_looks 372 = .ok (.iconst 1, 1) ∧ 372 + 1 = 373 := ⟨by decide +kernel, rfl⟩
theorem zd_M_looks_373 : decode zb_M_looks 373 = .ok (.iadd, 1) ∧ 373 + 1 = 374 := ⟨by decide +kernel, rfl⟩
theorem zd_M_looks_374 : decode zb_M_looks 374 = .ok (.goto 4, 3) ∧ ((374 : Nat) : Int) + (4) = ((378 : Nat) : Int) ∧ 374 + 3 = 377 := ⟨by decide +kernel, by decide, rfl⟩
theorem zd_M_looks_377 : decode zb_M_looks 377 = .ok (.iload_n 1, 1) ∧ 377 + 1 = 378 := ⟨by decide +kernel, rfl⟩
theorem zd_M_looks_378 : decode zb_M_looks 378 = .ok (.putfield 29, 3) ∧ 378 + 3 = 381 := ⟨by decide +kernel, rfl⟩
theorem zd_M_looks_381 : decode zb_M_looks 381 = .ok (.return_, 1) ∧ 381 + 1 = 382 := ⟨by decide +kernel, rfl⟩
theorem zd_M_isWord_0 : decode zb_M_isWord 0 = .ok (.aload_n 0, 1) ∧ 0 + 1 = 1 := ⟨by decide +kernel, rfl⟩
theorem zd_M_isWord_1 : decode zb_M_isWord 1 = .ok (.getfield 42, 3) ∧ 1 + 3 = 4 := ⟨by decide +kernel, rfl⟩
theorem zd_M_isWord_4 : decode zb_M_isWord 4 = .ok (.ifCond .ne 24, 3) ∧ ((4 : Nat) : Int) + (24) = ((28 : Nat) : Int) ∧ 4 + 3 = 7 := ⟨by decide +kernel, by decide, rfl⟩
theorem zd_M_isWord_7 : decode zb_M_isWord 7 = .ok (.aload_n 0, 1) ∧ 7 + 1 = 8 := ⟨by decide +kernel, rfl⟩
theorem zd_M_isWord_8 : decode zb_M_isWord 8 = .ok (.getfield 32, 3) ∧ 8 + 3 = 11 := ⟨by decide +kernel, rfl⟩
theorem zd_M_isWord_11 : decode zb_M_isWord 11 = .ok (.iconst 1, 1) ∧ 11 + 1 = 12 := ⟨by decide +kernel, rfl⟩
theorem zd_M_isWord_12 : decode zb_M_isWord 12 = .ok (.if_icmp .ne 16, 3) ∧ ((12 : Nat) : Int) + (16) = ((28 : Nat) : Int) ∧ 12 + 3 = 15 := ⟨by decide +kernel, by decide, rfl⟩
theorem zd_M_isWord_15 : decode zb_M_isWord 15 = .ok (.aload_n 0, 1) ∧ 15 + 1 = 16 := ⟨by decide +kernel, rfl⟩
theorem zd_M_isWord_16 : decode zb_M_isWord 16 = .ok (.getfield 35, 3) ∧ 16 + 3 = 19 := ⟨by decide +kernel, rfl⟩
theorem zd_M_isWord_19 : decode zb_M_isWord 19 = .ok (.lload_n 1, 1) ∧ 19 + 1 = 20 := ⟨by decide +kernel, rfl⟩
theorem zd_M_isWord_20 : decode zb_M_isWord 20 = .ok (.lcmp, 1) ∧ 20 + 1 = 21 := ⟨by decide +kernel, rfl⟩
theorem zd_M_isWord_21 : decode zb_M_isWord 21 = .ok (.ifCond .ne 7, 3) ∧ ((21 : Nat) : Int) + (7) = ((28 : Nat) : Int) ∧ 21 + 3 = 24 := ⟨by decide +kernel, by decide, rfl⟩
theorem zd_M_isWord_24 : decode zb_M_isWord 24 = .ok (.iconst 1, 1) ∧ 24 + 1 = 25 := ⟨by decide +kernel, rfl⟩
theorem zd_M_isWord_25 : decode zb_M_isWord 25 = .ok (.goto 4, 3) ∧ ((25 : Nat) : Int) + (4) = ((29 : Nat) : Int) ∧ 25 + 3 = 28 := ⟨by decide +kernel, by decide, rfl⟩
theorem zd_M_isWord_28 : decode zb_M_isWord 28 = .ok (.iconst 0, 1) ∧ 28 + 1 = 29 := ⟨by decide +kernel, rfl⟩
theorem zd_M_isWord_29 : decode zb_M_isWord 29 = .ok (.ireturn, 1) ∧ 29 + 1 = 30 := ⟨by decide +kernel, rfl⟩
theorem zd_M_isSign_0 : decode zb_M_isSign 0 = .ok (.aload_n 0, 1) ∧ 0 + 1 = 1 := ⟨by decide +kernel, rfl⟩
theorem zd_M_isSign_1 : decode zb_M_isSign 1 = .ok (.getfield 42, 3) ∧ 1 + 3 = 4 := ⟨by decide +kernel, rfl⟩
theorem zd_M_isSign_4 : decode zb_M_isSign 4 = .ok (.ifCond .ne 27, 3) ∧ ((4 : Nat) : Int) + (27) = ((31 : Nat) : Int) ∧ 4 + 3 = 7 := ⟨by decide +kernel, by decide, rfl⟩
theorem zd_M_isSign_7 : decode zb_M_isSign 7 = .ok (.aload_n 0, 1) ∧ 7 + 1 = 8 := ⟨by decide +kernel, rfl⟩
theorem zd_M_isSign_8 : decode zb_M_isSign 8 = .ok (.getfield 32, 3) ∧ 8 + 3 = 11 := ⟨by decide +kernel, rfl⟩
theorem zd_M_isSign_11 : decode zb_M_isSign 11 = .ok (.iconst 3, 1) ∧ 11 + 1 = 12 := ⟨by decide +kernel, rfl⟩
theorem zd_M_isSign_12 : decode zb_M_isSign 12 = .ok (.if_icmp .ne 19, 3) ∧ ((12 : Nat) : Int) + (19) = ((31 : Nat) : Int) ∧ 12 + 3 = 15 := ⟨by decide +kernel, by decide, rfl⟩
theorem zd_M_isSign_15 : decode zb_M_isSign 15 = .ok (.aload_n 0, 1) ∧ 15 + 1 = 16 := ⟨by decide +kernel, rfl⟩
theorem zd_M_isSign_16 : decode zb_M_isSign 16 = .ok (.aload_n 0, 1) ∧ 16 + 1 = 17 := ⟨by decide +kernel, rfl⟩
theorem zd_M_isSign_17 : decode zb_M_isSign 17 = .ok (.getfield 26, 3) ∧ 17 + 3 = 20 := ⟨by decide +kernel, rfl⟩
theorem zd_M_isSign_20 : decode zb_M_isSign 20 = .ok (.invokevirtual 299, 3) ∧ 20 + 3 = 23 := ⟨by decide +kernel, rfl⟩
theorem zd_M_isSign_23 : decode zb_M_isSign 23 = .ok (.iload_n 1, 1) ∧ 23 + 1 = 24 := ⟨by decide +kernel, rfl⟩
theorem zd_M_isSign_24 : decode zb_M_isSign 24 = .ok (.if_icmp .ne 7, 3) ∧ ((24 : Nat) : Int) + (7) = ((31 : Nat) : Int) ∧ 24 + 3 = 27 := ⟨by decide +kernel, by decide, rfl⟩
theorem zd_M_isSign_27 : decode zb_M_isSign 27 = .ok (.iconst 1, 1) ∧ 27 + 1 = 28 := ⟨by decide +kernel, rfl⟩
theorem zd_M_isSign_28 : decode zb_M_isSign 28 = .ok (.goto 4, 3) ∧ ((28 : Nat) : Int) + (4) = ((32 : Nat) : Int) ∧ 28 + 3 = 31 := ⟨by decide +kernel, by decide, rfl⟩
theorem zd_M_isSign_31 : decode zb_M_isSign 31 = .ok (.iconst 0, 1) ∧ 31 + 1 = 32 := ⟨by decide +kernel, rfl⟩
theorem zd_M_isSign_32 : decode zb_M_isSign 32 = .ok (.ireturn, 1) ∧ 32 + 1 = 33 := ⟨by decide +kernel, rfl⟩
theorem zd_M_mustWord_0 : decode zb_M_mustWord 0 = .ok (.aload_n 0, 1) ∧ 0 + 1 = 1 := ⟨by decide +kernel, rfl⟩
theorem zd_M_mustWord_1 : decode zb_M_mustWord 1 = .ok (.getfield 42, 3) ∧ 1 + 3 = 4 := ⟨by decide +kernel, rfl⟩
theorem zd_M_mustWord_4 : decode zb_M_mustWord 4 = .ok (.ifCond .le 4, 3) ∧ ((4 : Nat) : Int) + (4) = ((8 : Nat) : Int) ∧ 4 + 3 = 7 := ⟨by decide +kernel, by decide, rfl⟩
theorem zd_M_mustWord_7 : decode zb_M_mustWord 7 = .ok (.return_, 1) ∧ 7 + 1 = 8 := ⟨by decide +kernel, rfl⟩
theorem zd_M_mustWord_8 : decode zb_M_mustWord 8 = .ok (.aload_n 0, 1) ∧ 8 + 1 = 9 := ⟨by decide +kernel, rfl⟩
theorem zd_M_mustWord_9 : decode zb_M_mustWord 9 = .ok (.lload_n 1, 1) ∧ 9 + 1 = 10 := ⟨by decide +kernel, rfl⟩
theorem zd_M_mustWord_10 : decode zb_M_mustWord 10 = .ok (.invokevirtual 314, 3) ∧ 10 + 3 = 13 := ⟨by decide +kernel, rfl⟩
theorem zd_M_mustWord_13 : decode zb_M_mustWord 13 = .ok (.ifCond .ne 12, 3) ∧ ((13 : Nat) : Int) + (12) = ((25 : Nat) : Int) ∧ 13 + 3 = 16 := ⟨by decide +kernel, by decide, rfl⟩
theorem zd_M_mustWord_16 : decode zb_M_mustWord 16 = .ok (.aload_n 0, 1) ∧ 16 + 1 = 17 := ⟨by decide +kernel, rfl⟩
theorem zd_M_mustWord_17 : decode zb_M_mustWord 17 = .ok (.iconst 1, 1) ∧ 17 + 1 = 18 := ⟨by decide +kernel, rfl⟩
theorem zd_M_mustWord_18 : decode zb_M_mustWord 18 = .ok (.aload_n 0, 1) ∧ 18 + 1 = 19 := ⟨by decide +kernel, rfl⟩
theorem zd_M_mustWord_19 : decode zb_M_mustWord 19 = .ok (.getfield 26, 3) ∧ 19 + 3 = 22 := ⟨by decide +kernel, rfl⟩
theorem zd_M_mustWord_22 : decode zb_M_mustWord 22 = .ok (.invokevirtual 295, 3) ∧ 22 + 3 = 25 := ⟨by decide +kernel, rfl⟩
theorem zd_M_mustWord_25 : decode zb_M_mustWord 25 = .ok (.aload_n 0, 1) ∧ 25 + 1 = 26 := ⟨by decide +kernel, rfl⟩
theorem zd_M_mustWord_26 : decode zb_M_mustWord 26 = .ok (.getfield 42, 3) ∧ 26 + 3 = 29 := ⟨by decide +kernel, rfl⟩
theorem zd_M_mustWord_29 : decode zb_M_mustWord 29 = .ok (.ifCond .ne 7, 3) ∧ ((29 : Nat) : Int) + (7) = ((36 : Nat) : Int) ∧ 29 + 3 = 32 := ⟨by decide +kernel, by decide, rfl⟩
theorem zd_M_mustWord_32 : decode zb_M_mustWord 32 = .ok (.aload_n 0, 1) ∧ 32 + 1 = 33 := ⟨by decide +kernel, rfl⟩
theorem zd_M_mustWord_33 : decode zb_M_mustWord 33 = .ok (.invokevirtual 317, 3) ∧ 33 + 3 = 36 := ⟨by decide +kernel, rfl⟩
theorem zd_M_mustWord_36 : decode zb_M_mustWord 36 = .ok (.return_, 1) ∧ 36 + 1 = 37 := ⟨by decide +kernel, rfl⟩
theorem zd_M_number_0 : decode zb_M_number 0 = .ok (.aload_n 0, 1) ∧ 0 + 1 = 1 := ⟨by decide +kernel, rfl⟩
theorem zd_M_number_1 : decode zb_M_number 1 = .ok (.getfield 42, 3) ∧ 1 + 3 = 4 := ⟨by decide +kernel, rfl⟩
theorem zd_M_number_4 : decode zb_M_number 4 = .ok (.ifCond .le 5, 3) ∧ ((4 : Nat) : Int) + (5) = ((9 : Nat) : Int) ∧ 4 + 3 = 7 := ⟨by decide +kernel, by decide, rfl⟩
theorem zd_M_number_7 : decode zb_M_number 7 = .ok (.iconst 0, 1) ∧ 7 + 1 = 8 := ⟨by decide +kernel, rfl⟩
theorem zd_M_number_8 : decode zb_M_number 8 = .ok (.ireturn, 1) ∧ 8 + 1 = 9 := ⟨by decide +kernel, rfl⟩
theorem zd_M_number_9 : decode zb_M_number 9 = .ok (.aload_n 0, 1) ∧ 9 + 1 = 10 := ⟨by decide +kernel, rfl⟩
theorem zd_M_number_10 : decode zb_M_number 10 = .ok (.getfield 32, 3) ∧ 10 + 3 = 13 := ⟨by decide +kernel, rfl⟩
theorem zd_M_number_13 : decode zb_M_number 13 = .ok (.iconst 2, 1) ∧ 13 + 1 = 14 := ⟨by decide +kernel, rfl⟩
theorem zd_M_number_14 : decode zb_M_number 14 = .ok (.if_icmp .eq 12, 3) ∧ ((14 : Nat) : Int) + (12) = ((26 : Nat) : Int) ∧ 14 + 3 = 17 := ⟨by decide +kernel, by decide, rfl⟩
theorem zd_M_number_17 : decode zb_M_number 17 = .ok (.aload_n 0, 1) ∧ 17 + 1 = 18 := ⟨by decide +kernel, rfl⟩
theorem zd_M_number_18 : decode zb_M_number 18 = .ok (.iconst 1, 1) ∧ 18 + 1 = 19 := ⟨by decide +kernel, rfl⟩
theorem zd_M_number_19 : decode zb_M_number 19 = .ok (.aload_n 0, 1) ∧ 19 + 1 = 20 := ⟨by decide +kernel, rfl⟩
theorem zd_M_number_20 : decode zb_M_number 20 = .ok (.getfield 26, 3) ∧ 20 + 3 = 23 := ⟨by decide +kernel, rfl⟩
theorem zd_M_number_23 : decode zb_M_number 23 = .ok (.invokevirtual 295, 3) ∧ 23 + 3 = 26 := ⟨by decide +kernel, rfl⟩
theorem zd_M_number_26 : decode zb_M_number 26 = .ok (.aload_n 0, 1) ∧ 26 + 1 = 27 := ⟨by decide +kernel, rfl⟩
theorem zd_M_number_27 : decode zb_M_number 27 = .ok (.getfield 42, 3) ∧ 27 + 3 = 30 := ⟨by decide +kernel, rfl⟩
theorem zd_M_number_30 : decode zb_M_number 30 = .ok (.ifCond .ne 24, 3) ∧ ((30 : Nat) : Int) + (24) = ((54 : Nat) : Int) ∧ 30 + 3 = 33 := ⟨by decide +kernel, by decide, rfl⟩
theorem zd_M_number_33 : decode zb_M_number 33 = .ok (.aload_n 0, 1) ∧ 33 + 1 = 34 := ⟨by decide +kernel, rfl⟩
theorem zd_M_number_34 : decode zb_M_number 34 = .ok (.getfield 39, 3) ∧ 34 + 3 = 37 := ⟨by decide +kernel, rfl⟩
theorem zd_M_number_37 : decode zb_M_number 37 = .ok (.iload_n 1, 1) ∧ 37 + 1 = 38 := ⟨by decide +kernel, rfl⟩
theorem zd_M_number_38 : decode zb_M_number 38 = .ok (.iload_n 2, 1) ∧ 38 + 1 = 39 := ⟨by decide +kernel, rfl⟩
theorem zd_M_number_39 : decode zb_M_number 39 = .ok (.invokestatic 320, 3) ∧ 39 + 3 = 42 := ⟨by decide +kernel, rfl⟩
theorem zd_M_number_42 : decode zb_M_number 42 = .ok (.ifCond .ne 12, 3) ∧ ((42 : Nat) : Int) + (12) = ((54 : Nat) : Int) ∧ 42 + 3 = 45 := ⟨by decide +kernel, by decide, rfl⟩
theorem zd_M_number_45 : decode zb_M_number 45 = .ok (.aload_n 0, 1) ∧ 45 + 1 = 46 := ⟨by decide +kernel, rfl⟩
theorem zd_M_number_46 : decode zb_M_number 46 = .ok (.iconst 2, 1) ∧ 46 + 1 = 47 := ⟨by decide +kernel, rfl⟩
theorem zd_M_number_47 : decode zb_M_number 47 = .ok (.aload_n 0, 1) ∧ 47 + 1 = 48 := ⟨by decide +kernel, rfl⟩
theorem zd_M_number_48 : decode zb_M_number 48 = .ok (.getfield 26, 3) ∧ 48 + 3 = 51 := ⟨by decide +kernel, rfl⟩
theorem zd_M_number_51 : decode zb_M_number 51 = .ok (.invokevirtual 295, 3) ∧ 51 + 3 = 54 := ⟨by decide +kernel, rfl⟩
theorem zd_M_number_54 : decode zb_M_number 54 = .ok (.aload_n 0, 1) ∧ 54 + 1 = 55 := ⟨by decide +kernel, rfl⟩
theorem zd_M_number_55 : decode zb_M_number 55 = .ok (.getfield 39, 3) ∧ 55 + 3 = 58 := ⟨by decide +kernel, rfl⟩
theorem zd_M_number_58 : decode zb_M_number 58 = .ok (.istore_n 3, 1) ∧ 58 + 1 = 59 := ⟨by decide +kernel, rfl⟩
theorem zd_M_number_59 : decode zb_M_number 59 = .ok (.aload_n 0, 1) ∧ 59 + 1 = 60 := ⟨by decide +kernel, rfl⟩
theorem zd_M_number_60 : decode zb_M_number 60 = .ok (.getfield 42, 3) ∧ 60 + 3 = 63 := ⟨by decide +kernel, rfl⟩
theorem zd_M_number_63 : decode zb_M_number 63 = .ok (.ifCond .ne 7, 3) ∧ ((63 : Nat) : Int) + (7) = ((70 : Nat) : Int) ∧ 63 + 3 = 66 := ⟨by decide +kernel, by decide, rfl⟩
theorem zd_M_number_66 : decode zb_M_number 66 = .ok (.aload_n 0, 1) ∧ 66 + 1 = 67 := ⟨by decide +kernel, rfl⟩
theorem zd_M_number_67 : decode zb_M_number 67 = .ok (.invokevirtual 317, 3) ∧ 67 + 3 = 70 := ⟨by decide +kernel, rfl⟩
theorem zd_M_number_70 : decode zb_M_number 70 = .ok (.iload_n 3, 1) ∧ 70 + 1 = 71 := ⟨by decide +kernel, rfl⟩
theorem zd_M_number_71 : decode zb_M_number 71 = .ok (.ireturn, 1) ∧ 71 + 1 = 72 := ⟨by decide +kernel, rfl⟩
theorem zd_M_eyeOf_0 : decode zb_M_eyeOf 0 = .ok (.iconst 0, 1) ∧ 0 + 1 = 1 := ⟨by decide +kernel, rfl⟩
theorem zd_M_eyeOf_1 : decode zb_M_eyeOf 1 = .ok (.istore_n 3, 1) ∧ 1 + 1 = 2 := ⟨by decide +kernel, rfl⟩
theorem zd_M_eyeOf_2 : decode zb_M_eyeOf 2 = .ok (.iload_n 3, 1) ∧ 2 + 1 = 3 := ⟨by decide +kernel, rfl⟩
theorem zd_M_eyeOf_3 : decode zb_M_eyeOf 3 = .ok (.aload_n 0, 1) ∧ 3 + 1 = 4 := ⟨by decide +kernel, rfl⟩
theorem zd_M_eyeOf_4 : decode zb_M_eyeOf 4 = .ok (.getfield 72, 3) ∧ 4 + 3 = 7 := ⟨by decide +kernel, rfl⟩
theorem zd_M_eyeOf_7 : decode zb_M_eyeOf 7 = .ok (.aload_n 0, 1) ∧ 7 + 1 = 8 := ⟨by decide +kernel, rfl⟩
theorem zd_M_eyeOf_8 : decode zb_M_eyeOf 8 = .ok (.getfield 118, 3) ∧ 8 + 3 = 11 := ⟨by decide +kernel, rfl⟩
theorem zd_M_eyeOf_11 : decode zb_M_eyeOf 11 = .ok (.iaload, 1) ∧ 11 + 1 = 12 := ⟨by decide +kernel, rfl⟩
theorem zd_M_eyeOf_12 : decode zb_M_eyeOf 12 = .ok (.if_icmp .ge 30, 3) ∧ ((12 : Nat) : Int) + (30) = ((42 : Nat) : Int) ∧ 12 + 3 = 15 := ⟨by decide +kernel, by decide, rfl⟩
theorem zd_M_eyeOf_15 : decode zb_M_eyeOf 15 = .ok (.aload_n 0, 1) ∧ 15 + 1 = 16 := ⟨by decide +kernel, rfl⟩
theorem zd_M_eyeOf_16 : decode zb_M_eyeOf 16 = .ok (.getfield 87, 3) ∧ 16 + 3 = 19 := ⟨by decide +kernel, rfl⟩
theorem zd_M_eyeOf_19 : decode zb_M_eyeOf 19 = .ok (.bipush 8, 2) ∧ 19 + 2 = 21 := ⟨by decide +kernel, rfl⟩
theorem zd_M_eyeOf_21 : decode zb_M_eyeOf 21 = .ok (.aload_n 0, 1) ∧ 21 + 1 = 22 := ⟨by decide +kernel, rfl⟩
theorem zd_M_eyeOf_22 : decode zb_M_eyeOf 22 = .ok (.getfield 118, 3) ∧ 22 + 3 = 25 := ⟨by decide +kernel, rfl⟩
theorem zd_M_eyeOf_25 : decode zb_M_eyeOf 25 = .ok (.imul, 1) ∧ 25 + 1 = 26 := ⟨by decide +kernel, rfl⟩
theorem zd_M_eyeOf_26 : decode zb_M_eyeOf 26 = .ok (.iload_n 3, 1) ∧ 26 + 1 = 27 := ⟨by decide +kernel, rfl⟩
theorem zd_M_eyeOf_27 : decode zb_M_eyeOf 27 = .ok (.iadd, 1) ∧ 27 + 1 = 28 := ⟨by decide +kernel, rfl⟩
theorem zd_M_eyeOf_28 : decode zb_M_eyeOf 28 = .ok (.laload, 1) ∧ 28 + 1 = 29 := ⟨by decide +kernel, rfl⟩
theorem zd_M_eyeOf_29 : decode zb_M_eyeOf 29 = .ok (.lload_n 1, 1) ∧ 29 + 1 = 30 := ⟨by decide +kernel, rfl⟩
theorem zd_M_eyeOf_30 : decode zb_M_eyeOf 30 = .ok (.lcmp, 1) ∧ 30 + 1 = 31 := ⟨by decide +kernel, rfl⟩
theorem zd_M_eyeOf_31 : decode zb_M_eyeOf 31 = .ok (.ifCond .ne 5, 3) ∧ ((31 : Nat) : Int) + (5) = ((36 : Nat) : Int) ∧ 31 + 3 = 34 := ⟨by decide +kernel, by decide, rfl⟩
theorem zd_M_eyeOf_34 : decode zb_M_eyeOf 34 = .ok (.iload_n 3, 1) ∧ 34 + 1 = 35 := ⟨by decide +kernel, rfl⟩
theorem zd_M_eyeOf_35 : decode zb_M_eyeOf 35 = .ok (.ireturn, 1) ∧ 35 + 1 = 36 := ⟨by decide +kernel, rfl⟩
theorem zd_M_eyeOf_36 : decode zb_M_eyeOf 36 = .ok (.iinc 3 1, 3) ∧ 36 + 3 = 39 := ⟨by decide +kernel, rfl⟩
theorem zd_M_eyeOf_39 : decode zb_M_eyeOf 39 = .ok (.goto (-37), 3) ∧ ((39 : Nat) : Int) + (-37) = ((2 : Nat) : Int) ∧ 39 + 3 = 42 := ⟨by decide +kernel, by decide, rfl⟩
theorem zd_M_eyeOf_42 : decode zb_M_eyeOf 42 = .ok (.iconst (-1), 1) ∧ 42 + 1 = 43 := ⟨by decide +kernel, rfl⟩
theorem zd_M_eyeOf_43 : decode zb_M_eyeOf 43 = .ok (.ireturn, 1) ∧ 43 + 1 = 44 := ⟨by decide +kernel, rfl⟩
theorem zd_M_colour_0 : decode zb_M_colour 0 = .ok (.aload_n 0, 1) ∧ 0 + 1 = 1 := ⟨by decide +kernel, rfl⟩
theorem zd_M_colour_1 : decode zb_M_colour 1 = .ok (.ldc2_w 262, 3) ∧ 1 + 3 = 4 := ⟨by decide +kernel, rfl⟩
theorem zd_M_colour_4 : decode zb_M_colour 4 = .ok (.invokevirtual 314, 3) ∧ 4 + 3 = 7 := ⟨by decide +kernel, rfl⟩
theorem zd_M_colour_7 : decode zb_M_colour 7 = .ok (.ifCond .eq 7, 3) ∧ ((7 : Nat) : Int) + (7) = ((14 : Nat) : Int) ∧ 7 + 3 = 10 := ⟨by decide +kernel, by decide, rfl⟩
theorem zd_M_colour_10 : decode zb_M_colour 10 = .ok (.iconst 1, 1) ∧ 10 + 1 = 11 := ⟨by decide +kernel, rfl⟩
theorem zd_M_colour_11 : decode zb_M_colour 11 = .ok (.goto 47, 3) ∧ ((11 : Nat) : Int) + (47) = ((58 : Nat) : Int) ∧ 11 + 3 = 14 := ⟨by decide +kernel, by decide, rfl⟩
theorem zd_M_colour_14 : decode zb_M_colour 14 = .ok (.aload_n 0, 1) ∧ 14 + 1 = 15 := ⟨by decide +kernel, rfl⟩
theorem zd_M_colour_15 : decode zb_M_colour 15 = .ok (.ldc2_w 264, 3) ∧ 15 + 3 = 18 := ⟨by decide +kernel, rfl⟩
theorem zd_M_colour_18 : decode zb_M_colour 18 = .ok (.invokevirtual 314, 3) ∧ 18 + 3 = 21 := ⟨by decide +kernel, rfl⟩
theorem zd_M_colour_21 : decode zb_M_colour 21 = .ok (.ifCond .eq 7, 3) ∧ ((21 : Nat) : Int) + (7) = ((28 : Nat) : Int) ∧ 21 + 3 = 24 := ⟨by decide +kernel, by decide, rfl⟩
theorem zd_M_colour_24 : decode zb_M_colour 24 = .ok (.iconst 2, 1) ∧ 24 + 1 = 25 := ⟨by decide +kernel, rfl⟩
theorem zd_M_colour_25 : decode zb_M_colour 25 = .ok (.goto 33, 3) ∧ ((25 : Nat) : Int) + (33) = ((58 : Nat) : Int) ∧ 25 + 3 = 28 := ⟨by decide +kernel, by decide, rfl⟩
theorem zd_M_colour_28 : decode zb_M_colour 28 = .ok (.aload_n 0, 1) ∧ 28 + 1 = 29 := ⟨by decide +kernel, rfl⟩
theorem zd_M_colour_29 : decode zb_M_colour 29 = .ok (.ldc2_w 266, 3) ∧ 29 + 3 = 32 := ⟨by decide +kernel, rfl⟩
theorem zd_M_colour_32 : decode zb_M_colour 32 = .ok (.invokevirtual 314, 3) ∧ 32 + 3 = 35 := ⟨by decide +kernel, rfl⟩
theorem zd_M_colour_35 : decode zb_M_colour 35 = .ok (.ifCond .eq 7, 3) ∧ ((35 : Nat) : Int) + (7) = ((42 : Nat) : Int) ∧ 35 + 3 = 38 := ⟨by decide +kernel, by decide, rfl⟩
theorem zd_M_colour_38 : decode zb_M_colour 38 = .ok (.iconst 4, 1) ∧ 38 + 1 = 39 := ⟨by decide +kernel, rfl⟩
theorem zd_M_colour_39 : decode zb_M_colour 39 = .ok (.goto 19, 3) ∧ ((39 : Nat) : Int) + (19) = ((58 : Nat) : Int) ∧ 39 + 3 = 42 := ⟨by decide +kernel, by decide, rfl⟩
theorem zd_M_colour_42 : decode zb_M_colour 42 = .ok (.aload_n 0, 1) ∧ 42 + 1 = 43 := ⟨by decide +kernel, rfl⟩
theorem zd_M_colour_43 : decode zb_M_colour 43 = .ok (.ldc2_w 268, 3) ∧ 43 + 3 = 46 := ⟨by decide +kernel, rfl⟩
theorem zd_M_colour_46 : decode zb_M_colour 46 = .ok (.invokevirtual 314, 3) ∧ 46 + 3 = 49 := ⟨by decide +kernel, rfl⟩
theorem zd_M_colour_49 : decode zb_M_colour 49 = .ok (.ifCond .eq 8, 3) ∧ ((49 : Nat) : Int) + (8) = ((57 : Nat) : Int) ∧ 49 + 3 = 52 := ⟨by decide +kernel, by decide, rfl⟩
theorem zd_M_colour_52 : decode zb_M_colour 52 = .ok (.bipush 7, 2) ∧ 52 + 2 = 54 := ⟨by decide +kernel, rfl⟩
theorem zd_M_colour_54 : decode zb_M_colour 54 = .ok (.goto 4, 3) ∧ ((54 : Nat) : Int) + (4) = ((58 : Nat) : Int) ∧ 54 + 3 = 57 := ⟨by decide +kernel, by decide, rfl⟩
theorem zd_M_colour_57 : decode zb_M_colour 57 = .ok (.iconst 0, 1) ∧ 57 + 1 = 58 := ⟨by decide +kernel, rfl⟩
theorem zd_M_colour_58 : decode zb_M_colour 58 = .ok (.istore_n 1, 1) ∧ 58 + 1 = 59 := ⟨by decide +kernel, rfl⟩
theorem zd_M_colour_59 : decode zb_M_colour 59 = .ok (.iload_n 1, 1) ∧ 59 + 1 = 60 := ⟨by decide +kernel, rfl⟩
theorem zd_M_colour_60 : decode zb_M_colour 60 = .ok (.ifCond .ne 12, 3) ∧ ((60 : Nat) : Int) + (12) = ((72 : Nat) : Int) ∧ 60 + 3 = 63 := ⟨by decide +kernel, by decide, rfl⟩
theorem zd_M_colour_63 : decode zb_M_colour 63 = .ok (.aload_n 0, 1) ∧ 63 + 1 = 64 := ⟨by decide +kernel, rfl⟩
theorem zd_M_colour_64 : decode zb_M_colour 64 = .ok (.iconst 1, 1) ∧ 64 + 1 = 65 := ⟨by decide +kernel, rfl⟩
theorem zd_M_colour_65 : decode zb_M_colour 65 = .ok (.aload_n 0, 1) ∧ 65 + 1 = 66 := ⟨by decide +kernel, rfl⟩
theorem zd_M_colour_66 : decode zb_M_colour 66 = .ok (.getfield 26, 3) ∧ 66 + 3 = 69 := ⟨by decide +kernel, rfl⟩
theorem zd_M_colour_69 : decode zb_M_colour 69 = .ok (.invokevirtual 295, 3) ∧ 69 + 3 = 72 := ⟨by decide +kernel, rfl⟩
theorem zd_M_colour_72 : decode zb_M_colour 72 = .ok (.aload_n 0, 1) ∧ 72 + 1 = 73 := ⟨by decide +kernel, rfl⟩
theorem zd_M_colour_73 : decode zb_M_colour 73 = .ok (.getfield 42, 3) ∧ 73 + 3 = 76 := ⟨by decide +kernel, rfl⟩
theorem zd_M_colour_76 : decode zb_M_colour 76 = .ok (.ifCond .ne 7, 3) ∧ ((76 : Nat) : Int) + (7) = ((83 : Nat) : Int) ∧ 76 + 3 = 79 := ⟨by decide +kernel, by decide, rfl⟩
theorem zd_M_colour_79 : decode zb_M_colour 79 = .ok (.aload_n 0, 1) ∧ 79 + 1 = 80 := ⟨by decide +kernel, rfl⟩
theorem zd_M_colour_80 : decode zb_M_colour 80 = .ok (.invokevirtual 317, 3) ∧ 80 + 3 = 83 := ⟨by decide +kernel, rfl⟩
theorem zd_M_colour_83 : decode zb_M_colour 83 = .ok (.iload_n 1, 1) ∧ 83 + 1 = 84 := ⟨by decide +kernel, rfl⟩
theorem zd_M_colour_84 : decode zb_M_colour 84 = .ok (.ireturn, 1) ∧ 84 + 1 = 85 := ⟨by decide +kernel, rfl⟩
theorem zd_M_ways_0 : decode zb_M_ways 0 = .ok (.aload_n 0, 1) ∧ 0 + 1 = 1 := ⟨by decide +kernel, rfl⟩
theorem zd_M_ways_1 : decode zb_M_ways 1 = .ok (.ldc2_w 270, 3) ∧ 1 + 3 = 4 := ⟨by decide +kernel, rfl⟩
theorem zd_M_ways_4 : decode zb_M_ways 4 = .ok (.invokevirtual 314, 3) ∧ 4 + 3 = 7 := ⟨by decide +kernel, rfl⟩
theorem zd_M_ways_7 : decode zb_M_ways 7 = .ok (.ifCond .eq 7, 3) ∧ ((7 : Nat) : Int) + (7) = ((14 : Nat) : Int) ∧ 7 + 3 = 10 := ⟨by decide +kernel, by decide, rfl⟩
theorem zd_M_ways_10 : decode zb_M_ways 10 = .ok (.iconst 0, 1) ∧ 10 + 1 = 11 := ⟨by decide +kernel, rfl⟩
theorem zd_M_ways_11 : decode zb_M_ways 11 = .ok (.goto 46, 3) ∧ ((11 : Nat) : Int) + (46) = ((57 : Nat) : Int) ∧ 11 + 3 = 14 := ⟨by decide +kernel, by decide, rfl⟩
theorem zd_M_ways_14 : decode zb_M_ways 14 = .ok (.aload_n 0, 1) ∧ 14 + 1 = 15 := ⟨by decide +kernel, rfl⟩
theorem zd_M_ways_15 : decode zb_M_ways 15 = .ok (.ldc2_w 272, 3) ∧ 15 + 3 = 18 := ⟨by decide +kernel, rfl⟩
theorem zd_M_ways_18 : decode zb_M_ways 18 = .ok (.invokevirtual 314, 3) ∧ 18 + 3 = 21 := ⟨by decide +kernel, rfl⟩
theorem zd_M_ways_21 : decode zb_M_ways 21 = .ok (.ifCond .eq 7, 3) ∧ ((21 : Nat) : Int) + (7) = ((28 : Nat) : Int) ∧ 21 + 3 = 24 := ⟨by decide +kernel, by decide, rfl⟩
theorem zd_M_ways_24 : decode zb_M_ways 24 = .ok (.iconst 1, 1) ∧ 24 + 1 = 25 := ⟨by decide +kernel, rfl⟩
theorem zd_M_ways_25 : decode zb_M_ways 25 = .ok (.goto 32, 3) ∧ ((25 : Nat) : Int) + (32) = ((57 : Nat) : Int) ∧ 25 + 3 = 28 := ⟨by decide +kernel, by decide, rfl⟩
theorem zd_M_ways_28 : decode zb_M_ways 28 = .ok (.aload_n 0, 1) ∧ 28 + 1 = 29 := ⟨by decide +kernel, rfl⟩
theorem zd_M_ways_29 : decode zb_M_ways 29 = .ok (.ldc2_w 274, 3) ∧ 29 + 3 = 32 := ⟨by decide +kernel, rfl⟩
theorem zd_M_ways_32 : decode zb_M_ways 32 = .ok (.invokevirtual 314, 3) ∧ 32 + 3 = 35 := ⟨by decide +kernel, rfl⟩
theorem zd_M_ways_35 : decode zb_M_ways 35 = .ok (.ifCond .eq 7, 3) ∧ ((35 : Nat) : Int) + (7) = ((42 : Nat) : Int) ∧ 35 + 3 = 38 := ⟨by decide +kernel, by decide, rfl⟩
theorem zd_M_ways_38 : decode zb_M_ways 38 = .ok (.iconst 2, 1) ∧ 38 + 1 = 39 := ⟨by decide +kernel, rfl⟩
theorem zd_M_ways_39 : decode zb_M_ways 39 = .ok (.goto 18, 3) ∧ ((39 : Nat) : Int) + (18) = ((57 : Nat) : Int) ∧ 39 + 3 = 42 := ⟨by decide +kernel, by decide, rfl⟩
theorem zd_M_ways_42 : decode zb_M_ways 42 = .ok (.aload_n 0, 1) ∧ 42 + 1 = 43 := ⟨by decide +kernel, rfl⟩
theorem zd_M_ways_43 : decode zb_M_ways 43 = .ok (.ldc2_w 276, 3) ∧ 43 + 3 = 46 := ⟨by decide +kernel, rfl⟩
theorem zd_M_ways_46 : decode zb_M_ways 46 = .ok (.invokevirtual 314, 3) ∧ 46 + 3 = 49 := ⟨by decide +kernel, rfl⟩
theorem zd_M_ways_49 : decode zb_M_ways 49 = .ok (.ifCond .eq 7, 3) ∧ ((49 : Nat) : Int) + (7) = ((56 : Nat) : Int) ∧ 49 + 3 = 52 := ⟨by decide +kernel, by decide, rfl⟩
theorem zd_M_ways_52 : decode zb_M_ways 52 = .ok (.iconst 3, 1) ∧ 52 + 1 = 53 := ⟨by decide +kernel, rfl⟩
theorem zd_M_ways_53 : decode zb_M_ways 53 = .ok (.goto 4, 3) ∧ ((53 : Nat) : Int) + (4) = ((57 : Nat) : Int) ∧ 53 + 3 = 56 := ⟨by decide +kernel, by decide, rfl⟩
theorem zd_M_ways_56 : decode zb_M_ways 56 = .ok (.iconst (-1), 1) ∧ 56 + 1 = 57 := ⟨by decide +kernel, rfl⟩
theorem zd_M_ways_57 : decode zb_M_ways 57 = .ok (.istore_n 1, 1) ∧ 57 + 1 = 58 := ⟨by decide +kernel, rfl⟩
theorem zd_M_ways_58 : decode zb_M_ways 58 = .ok (.iload_n 1, 1) ∧ 58 + 1 = 59 := ⟨by decide +kernel, rfl⟩
theorem zd_M_ways_59 : decode zb_M_ways 59 = .ok (.iconst (-1), 1) ∧ 59 + 1 = 60 := ⟨by decide +kernel, rfl⟩
theorem zd_M_ways_60 : decode zb_M_ways 60 = .ok (.if_icmp .ne 12, 3) ∧ ((60 : Nat) : Int) + (12) = ((72 : Nat) : Int) ∧ 60 + 3 = 63 := ⟨by decide +kernel, by decide, rfl⟩
theorem zd_M_ways_63 : decode zb_M_ways 63 = .ok (.aload_n 0, 1) ∧ 63 + 1 = 64 := ⟨by decide +kernel, rfl⟩
theorem zd_M_ways_64 : decode zb_M_ways 64 = .ok (.iconst 1, 1) ∧ 64 + 1 = 65 := ⟨by decide +kernel, rfl⟩
theorem zd_M_ways_65 : decode zb_M_ways 65 = .ok (.aload_n 0, 1) ∧ 65 + 1 = 66 := ⟨by decide +kernel, rfl⟩
theorem zd_M_ways_66 : decode zb_M_ways 66 = .ok (.getfield 26, 3) ∧ 66 + 3 = 69 := ⟨by decide +kernel, rfl⟩
theorem zd_M_ways_69 : decode zb_M_ways 69 = .ok (.invokevirtual 295, 3) ∧ 69 + 3 = 72 := ⟨by decide +kernel, rfl⟩
theorem zd_M_ways_72 : decode zb_M_ways 72 = .ok (.aload_n 0, 1) ∧ 72 + 1 = 73 := ⟨by decide +kernel, rfl⟩
theorem zd_M_ways_73 : decode zb_M_ways 73 = .ok (.getfield 42, 3) ∧ 73 + 3 = 76 := ⟨by decide +kernel, rfl⟩
theorem zd_M_ways_76 : decode zb_M_ways 76 = .ok (.ifCond .ne 7, 3) ∧ ((76 : Nat) : Int) + (7) = ((83 : Nat) : Int) ∧ 76 + 3 = 79 := ⟨by decide +kernel, by decide, rfl⟩
theorem zd_M_ways_79 : decode zb_M_ways 79 = .ok (.aload_n 0, 1) ∧ 79 + 1 = 80 := ⟨by decide +kernel, rfl⟩
theorem zd_M_ways_80 : decode zb_M_ways 80 = .ok (.invokevirtual 317, 3) ∧ 80 + 3 = 83 := ⟨by decide +kernel, rfl⟩
theorem zd_M_ways_83 : decode zb_M_ways 83 = .ok (.iload_n 1, 1) ∧ 83 + 1 = 84 := ⟨by decide +kernel, rfl⟩
theorem zd_M_ways_84 : decode zb_M_ways 84 = .ok (.ireturn, 1) ∧ 84 + 1 = 85 := ⟨by decide +kernel, rfl⟩
theorem zd_M_forms_0 : decode zb_M_forms 0 = .ok (.aload_n 0, 1) ∧ 0 + 1 = 1 := ⟨by decide +kernel, rfl⟩
theorem zd_M_forms_1 : decode zb_M_forms 1 = .ok (.ldc2_w 278, 3) ∧ 1 + 3 = 4 := ⟨by decide +kernel, rfl⟩
theorem zd_M_forms_4 : decode zb_M_forms 4 = .ok (.invokevirtual 314, 3) ∧ 4 + 3 = 7 := ⟨by decide +kernel, rfl⟩
theorem zd_M_forms_7 : decode zb_M_forms 7 = .ok (.ifCond .eq 7, 3) ∧ ((7 : Nat) : Int) + (7) = ((14 : Nat) : Int) ∧ 7 + 3 = 10 := ⟨by decide +kernel, by decide, rfl⟩
theorem zd_M_forms_10 : decode zb_M_forms 10 = .ok (.iconst 0, 1) ∧ 10 + 1 = 11 := ⟨by decide +kernel, rfl⟩
theorem zd_M_forms_11 : decode zb_M_forms 11 = .ok (.goto 18, 3) ∧ ((11 : Nat) : Int) + (18) = ((29 : Nat) : Int) ∧ 11 + 3 = 14 := ⟨by decide +kernel, by decide, rfl⟩
theorem zd_M_forms_14 : decode zb_M_forms 14 = .ok (.aload_n 0, 1) ∧ 14 + 1 = 15 := ⟨by decide +kernel, rfl⟩
theorem zd_M_forms_15 : decode zb_M_forms 15 = .ok (.ldc2_w 280, 3) ∧ 15 + 3 = 18 := ⟨by decide +kernel, rfl⟩
theorem zd_M_forms_18 : decode zb_M_forms 18 = .ok (.invokevirtual 314, 3) ∧ 18 + 3 = 21 := ⟨by decide +kernel, rfl⟩
theorem zd_M_forms_21 : decode zb_M_forms 21 = .ok (.ifCond .eq 7, 3) ∧ ((21 : Nat) : Int) + (7) = ((28 : Nat) : Int) ∧ 21 + 3 = 24 := ⟨by decide +kernel, by decide, rfl⟩
theorem zd_M_forms_24 : decode zb_M_forms 24 = .ok (.iconst 1, 1) ∧ 24 + 1 = 25 := ⟨by decide +kernel, rfl⟩
theorem zd_M_forms_25 : decode zb_M_forms 25 = .ok (.goto 4, 3) ∧ ((25 : Nat) : Int) + (4) = ((29 : Nat) : Int) ∧ 25 + 3 = 28 := ⟨by decide +kernel, by decide, rfl⟩
theorem zd_M_forms_28 : decode zb_M_forms 28 = .ok (.iconst (-1), 1) ∧ 28 + 1 = 29 := ⟨by decide +kernel, rfl⟩
theorem zd_M_forms_29 : decode zb_M_forms 29 = .ok (.istore_n 1, 1) ∧ 29 + 1 = 30 := ⟨by decide +kernel, rfl⟩
theorem zd_M_forms_30 : decode zb_M_forms 30 = .ok (.iload_n 1, 1) ∧ 30 + 1 = 31 := ⟨by decide +kernel, rfl⟩
theorem zd_M_forms_31 : decode zb_M_forms 31 = .ok (.iconst (-1), 1) ∧ 31 + 1 = 32 := ⟨by decide +kernel, rfl⟩
theorem zd_M_forms_32 : decode zb_M_forms 32 = .ok (.if_icmp .ne 12, 3) ∧ ((32 : Nat) : Int) + (12) = ((44 : Nat) : Int) ∧ 32 + 3 = 35 := ⟨by decide +kernel, by decide, rfl⟩
theorem zd_M_forms_35 : decode zb_M_forms 35 = .ok (.aload_n 0, 1) ∧ 35 + 1 = 36 := ⟨by decide +kernel, rfl⟩
theorem zd_M_forms_36 : decode zb_M_forms 36 = .ok (.iconst 1, 1) ∧ 36 + 1 = 37 := ⟨by decide +kernel, rfl⟩
theorem zd_M_forms_37 : decode zb_M_forms 37 = .ok (.aload_n 0, 1) ∧ 37 + 1 = 38 := ⟨by decide +kernel, rfl⟩
theorem zd_M_forms_38 : decode zb_M_forms 38 = .ok (.getfield 26, 3) ∧ 38 + 3 = 41 := ⟨by decide +kernel, rfl⟩
theorem zd_M_forms_41 : decode zb_M_forms 41 = .ok (.invokevirtual 295, 3) ∧ 41 + 3 = 44 := ⟨by decide +kernel, rfl⟩
theorem zd_M_forms_44 : decode zb_M_forms 44 = .ok (.aload_n 0, 1) ∧ 44 + 1 = 45 := ⟨by decide +kernel, rfl⟩
theorem zd_M_forms_45 : decode zb_M_forms 45 = .ok (.getfield 42, 3) ∧ 45 + 3 = 48 := ⟨by decide +kernel, rfl⟩
theorem zd_M_forms_48 : decode zb_M_forms 48 = .ok (.ifCond .ne 7, 3) ∧ ((48 : Nat) : Int) + (7) = ((55 : Nat) : Int) ∧ 48 + 3 = 51 := ⟨by decide +kernel, by decide, rfl⟩
theorem zd_M_forms_51 : decode zb_M_forms 51 = .ok (.aload_n 0, 1) ∧ 51 + 1 = 52 := ⟨by decide +kernel, rfl⟩
theorem zd_M_forms_52 : decode zb_M_forms 52 = .ok (.invokevirtual 317, 3) ∧ 52 + 3 = 55 := ⟨by decide +kernel, rfl⟩
theorem zd_M_forms_55 : decode zb_M_forms 55 = .ok (.iload_n 1, 1) ∧ 55 + 1 = 56 := ⟨by decide +kernel, rfl⟩
theorem zd_M_forms_56 : decode zb_M_forms 56 = .ok (.ireturn, 1) ∧ 56 + 1 = 57 := ⟨by decide +kernel, rfl⟩
theorem zd_M_add_0 : decode zb_M_add 0 = .ok (.aload_n 0, 1) ∧ 0 + 1 = 1 := ⟨by decide +kernel, rfl⟩
theorem zd_M_add_1 : decode zb_M_add 1 = .ok (.getfield 100, 3) ∧ 1 + 3 = 4 := ⟨by decide +kernel, rfl⟩
theorem zd_M_add_4 : decode zb_M_add 4 = .ok (.sipush 1600, 3) ∧ 4 + 3 = 7 := ⟨by decide +kernel, rfl⟩
theorem zd_M_add_7 : decode zb_M_add 7 = .ok (.aload_n 0, 1) ∧ 7 + 1 = 8 := ⟨by decide +kernel, rfl⟩
theorem zd_M_add_8 : decode zb_M_add 8 = .ok (.getfield 118, 3) ∧ 8 + 3 = 11 := ⟨by decide +kernel, rfl⟩
theorem zd_M_add_11 : decode zb_M_add 11 = .ok (.imul, 1) ∧ 11 + 1 = 12 := ⟨by decide +kernel, rfl⟩
theorem zd_M_add_12 : decode zb_M_add 12 = .ok (.aload_n 0, 1) ∧ 12 + 1 = 13 := ⟨by decide +kernel, rfl⟩
theorem zd_M_add_13 : decode zb_M_add 13 = .ok (.getfield 115, 3) ∧ 13 + 3 = 16 := ⟨by decide +kernel, rfl⟩
theorem zd_M_add_16 : decode zb_M_add 16 = .ok (.iadd, 1) ∧ 16 + 1 = 17 := ⟨by decide +kernel, rfl⟩
theorem zd_M_add_17 : decode zb_M_add 17 = .ok (.iload_n 1, 1) ∧ 17 + 1 = 18 := ⟨by decide +kernel, rfl⟩
theorem zd_M_add_18 : decode zb_M_add 18 = .ok (.iastore, 1) ∧ 18 + 1 = 19 := ⟨by decide +kernel, rfl⟩
theorem zd_M_add_19 : decode zb_M_add 19 = .ok (.aload_n 0, 1) ∧ 19 + 1 = 20 := ⟨by decide +kernel, rfl⟩
theorem zd_M_add_20 : decode zb_M_add 20 = .ok (.getfield 103, 3) ∧ 20 + 3 = 23 := ⟨by decide +kernel, rfl⟩
theorem zd_M_add_23 : decode zb_M_add 23 = .ok (.sipush 1600, 3) ∧ 23 + 3 = 26 := ⟨by decide +kernel, rfl⟩
theorem zd_M_add_26 : decode zb_M_add 26 = .ok (.aload_n 0, 1) ∧ 26 + 1 = 27 := ⟨by decide +kernel, rfl⟩
theorem zd_M_add_27 : decode zb_M_add 27 = .ok (.getfield 118, 3) ∧ 27 + 3 = 30 := ⟨by decide +kernel, rfl⟩
theorem zd_M_add_30 : decode zb_M_add 30 = .ok (.imul, 1) ∧ 30 + 1 = 31 := ⟨by decide +kernel, rfl⟩
theorem zd_M_add_31 : decode zb_M_add 31 = .ok (.aload_n 0, 1) ∧ 31 + 1 = 32 := ⟨by decide +kernel, rfl⟩
theorem zd_M_add_32 : decode zb_M_add 32 = .ok (.getfield 115, 3) ∧ 32 + 3 = 35 := ⟨by decide +kernel, rfl⟩
theorem zd_M_add_35 : decode zb_M_add 35 = .ok (.iadd, 1) ∧ 35 + 1 = 36 := ⟨by decide +kernel, rfl⟩
theorem zd_M_add_36 : decode zb_M_add 36 = .ok (.iload_n 2, 1) ∧ 36 + 1 = 37 := ⟨by decide +kernel, rfl⟩
theorem zd_M_add_37 : decode zb_M_add 37 = .ok (.iastore, 1) ∧ 37 + 1 = 38 := ⟨by decide +kernel, rfl⟩
theorem zd_M_add_38 : decode zb_M_add 38 = .ok (.aload_n 0, 1) ∧ 38 + 1 = 39 := ⟨by decide +kernel, rfl⟩
theorem zd_M_add_39 : decode zb_M_add 39 = .ok (.getfield 106, 3) ∧ 39 + 3 = 42 := ⟨by decide +kernel, rfl⟩
theorem zd_M_add_42 : decode zb_M_add 42 = .ok (.sipush 1600, 3) ∧ 42 + 3 = 45 := ⟨by decide +kernel, rfl⟩
theorem zd_M_add_45 : decode zb_M_add 45 = .ok (.aload_n 0, 1) ∧ 45 + 1 = 46 := ⟨by decide +kernel, rfl⟩
theorem zd_M_add_46 : decode zb_M_add 46 = .ok (.getfield 118, 3) ∧ 46 + 3 = 49 := ⟨by decide +kernel, rfl⟩
theorem zd_M_add_49 : decode zb_M_add 49 = .ok (.imul, 1) ∧ 49 + 1 = 50 := ⟨by decide +kernel, rfl⟩
theorem zd_M_add_50 : decode zb_M_add 50 = .ok (.aload_n 0, 1) ∧ 50 + 1 = 51 := ⟨by decide +kernel, rfl⟩
theorem zd_M_add_51 : decode zb_M_add 51 = .ok (.getfield 115, 3) ∧ 51 + 3 = 54 := ⟨by decide +kernel, rfl⟩
theorem zd_M_add_54 : decode zb_M_add 54 = .ok (.iadd, 1) ∧ 54 + 1 = 55 := ⟨by decide +kernel, rfl⟩
theorem zd_M_add_55 : decode zb_M_add 55 = .ok (.iconst (-1), 1) ∧ 55 + 1 = 56 := ⟨by decide +kernel, rfl⟩
theorem zd_M_add_56 : decode zb_M_add 56 = .ok (.iastore, 1) ∧ 56 + 1 = 57 := ⟨by decide +kernel, rfl⟩
theorem zd_M_add_57 : decode zb_M_add 57 = .ok (.aload_n 0, 1) ∧ 57 + 1 = 58 := ⟨by decide +kernel, rfl⟩
theorem zd_M_add_58 : decode zb_M_add 58 = .ok (.dup, 1) ∧ 58 + 1 = 59 := ⟨by decide +kernel, rfl⟩
theorem zd_M_add_59 : decode zb_M_add 59 = .ok (.getfield 115, 3) ∧ 59 + 3 = 62 := ⟨by decide +kernel, rfl⟩
theorem zd_M_add_62 : decode zb_M_add 62 = .ok (.iconst 1, 1) ∧ 62 + 1 = 63 := ⟨by decide +kernel, rfl⟩
theorem zd_M_add_63 : decode zb_M_add 63 = .ok (.iadd, 1) ∧ 63 + 1 = 64 := ⟨by decide +kernel, rfl⟩
theorem zd_M_add_64 : decode zb_M_add 64 = .ok (.putfield 115, 3) ∧ 64 + 3 = 67 := ⟨by decide +kernel, rfl⟩
theorem zd_M_add_67 : decode zb_M_add 67 = .ok (.return_, 1) ∧ 67 + 1 = 68 := ⟨by decide +kernel, rfl⟩
theorem zd_M_pushes_0 : decode zb_M_pushes 0 = .ok (.aload_n 0, 1) ∧ 0 + 1 = 1 := ⟨by decide +kernel, rfl⟩
theorem zd_M_pushes_1 : decode zb_M_pushes 1 = .ok (.getfield 121, 3) ∧ 1 + 3 = 4 := ⟨by decide +kernel, rfl⟩
theorem zd_M_pushes_4 : decode zb_M_pushes 4 = .ok (.aload_n 0, 1) ∧ 4 + 1 = 5 := ⟨by decide +kernel, rfl⟩
theorem zd_M_pushes_5 : decode zb_M_pushes 5 = .ok (.getfield 131, 3) ∧ 5 + 3 = 8 := ⟨by decide +kernel, rfl⟩
theorem zd_M_pushes_8 : decode zb_M_pushes 8 = .ok (.iload_n 1, 1) ∧ 8 + 1 = 9 := ⟨by decide +kernel, rfl⟩
theorem zd_M_pushes_9 : decode zb_M_pushes 9 = .ok (.iastore, 1) ∧ 9 + 1 = 10 := ⟨by decide +kernel, rfl⟩
theorem zd_M_pushes_10 : decode zb_M_pushes 10 = .ok (.aload_n 0, 1) ∧ 10 + 1 = 11 := ⟨by decide +kernel, rfl⟩
theorem zd_M_pushes_11 : decode zb_M_pushes 11 = .ok (.getfield 124, 3) ∧ 11 + 3 = 14 := ⟨by decide +kernel, rfl⟩
theorem zd_M_pushes_14 : decode zb_M_pushes 14 = .ok (.aload_n 0, 1) ∧ 14 + 1 = 15 := ⟨by decide +kernel, rfl⟩
theorem zd_M_pushes_15 : decode zb_M_pushes 15 = .ok (.getfield 131, 3) ∧ 15 + 3 = 18 := ⟨by decide +kernel, rfl⟩
theorem zd_M_pushes_18 : decode zb_M_pushes 18 = .ok (.iconst 0, 1) ∧ 18 + 1 = 19 := ⟨by decide +kernel, rfl⟩
theorem zd_M_pushes_19 : decode zb_M_pushes 19 = .ok (.bastore, 1) ∧ 19 + 1 = 20 := ⟨by decide +kernel, rfl⟩
theorem zd_M_pushes_20 : decode zb_M_pushes 20 = .ok (.aload_n 0, 1) ∧ 20 + 1 = 21 := ⟨by decide +kernel, rfl⟩
theorem zd_M_pushes_21 : decode zb_M_pushes 21 = .ok (.getfield 128, 3) ∧ 21 + 3 = 24 := ⟨by decide +kernel, rfl⟩
theorem zd_M_pushes_24 : decode zb_M_pushes 24 = .ok (.aload_n 0, 1) ∧ 24 + 1 = 25 := ⟨by decide +kernel, rfl⟩
theorem zd_M_pushes_25 : decode zb_M_pushes 25 = .ok (.getfield 131, 3) ∧ 25 + 3 = 28 := ⟨by decide +kernel, rfl⟩
theorem zd_M_pushes_28 : decode zb_M_pushes 28 = .ok (.iconst 0, 1) ∧ 28 + 1 = 29 := ⟨by decide +kernel, rfl⟩
theorem zd_M_pushes_29 : decode zb_M_pushes 29 = .ok (.bastore, 1) ∧ 29 + 1 = 30 := ⟨by decide +kernel, rfl⟩
theorem zd_M_pushes_30 : decode zb_M_pushes 30 = .ok (.aload_n 0, 1) ∧ 30 + 1 = 31 := ⟨by decide +kernel, rfl⟩
theorem zd_M_pushes_31 : decode zb_M_pushes 31 = .ok (.dup, 1) ∧ 31 + 1 = 32 := ⟨by decide +kernel, rfl⟩
theorem zd_M_pushes_32 : decode zb_M_pushes 32 = .ok (.getfield 131, 3) ∧ 32 + 3 = 35 := ⟨by decide +kernel, rfl⟩
theorem zd_M_pushes_35 : decode zb_M_pushes 35 = .ok (.iconst 1, 1) ∧ 35 + 1 = 36 := ⟨by decide +kernel, rfl⟩
theorem zd_M_pushes_36 : decode zb_M_pushes 36 = .ok (.iadd, 1) ∧ 36 + 1 = 37 := ⟨by decide +kernel, rfl⟩
theorem zd_M_pushes_37 : decode zb_M_pushes 37 = .ok (.putfield 131, 3) ∧ 37 + 3 = 40 := ⟨by decide +kernel, rfl⟩
theorem zd_M_pushes_40 : decode zb_M_pushes 40 = .ok (.return_, 1) ∧ 40 + 1 = 41 := ⟨by decide +kernel, rfl⟩
theorem zd_M_opens_0 : decode zb_M_opens 0 = .ok (.aload_n 0, 1) ∧ 0 + 1 = 1 := ⟨by decide +kernel, rfl⟩
theorem zd_M_opens_1 : decode zb_M_opens 1 = .ok (.getfield 134, 3) ∧ 1 + 3 = 4 := ⟨by decide +kernel, rfl⟩
theorem zd_M_opens_4 : decode zb_M_opens 4 = .ok (.bipush 6, 2) ∧ 4 + 2 = 6 := ⟨by decide +kernel, rfl⟩
theorem zd_M_opens_6 : decode zb_M_opens 6 = .ok (.if_icmp .ne 12, 3) ∧ ((6 : Nat) : Int) + (12) = ((18 : Nat) : Int) ∧ 6 + 3 = 9 := ⟨by decide +kernel, by decide, rfl⟩
theorem zd_M_opens_9 : decode zb_M_opens 9 = .ok (.aload_n 0, 1) ∧ 9 + 1 = 10 := ⟨by decide +kernel, rfl⟩
theorem zd_M_opens_10 : decode zb_M_opens 10 = .ok (.iconst 4, 1) ∧ 10 + 1 = 11 := ⟨by decide +kernel, rfl⟩
theorem zd_M_opens_11 : decode zb_M_opens 11 = .ok (.aload_n 0, 1) ∧ 11 + 1 = 12 := ⟨by decide +kernel, rfl⟩
theorem zd_M_opens_12 : decode zb_M_opens 12 = .ok (.getfield 26, 3) ∧ 12 + 3 = 15 := ⟨by decide +kernel, rfl⟩
theorem zd_M_opens_15 : decode zb_M_opens 15 = .ok (.invokevirtual 295, 3) ∧ 15 + 3 = 18 := ⟨by decide +kernel, rfl⟩
theorem zd_M_opens_18 : decode zb_M_opens 18 = .ok (.aload_n 0, 1) ∧ 18 + 1 = 19 := ⟨by decide +kernel, rfl⟩
theorem zd_M_opens_19 : decode zb_M_opens 19 = .ok (.getfield 42, 3) ∧ 19 + 3 = 22 := ⟨by decide +kernel, rfl⟩
theorem zd_M_opens_22 : decode zb_M_opens 22 = .ok (.ifCond .le 4, 3) ∧ ((22 : Nat) : Int) + (4) = ((26 : Nat) : Int) ∧ 22 + 3 = 25 := ⟨by decide +kernel, by decide, rfl⟩
theorem zd_M_opens_25 : decode zb_M_opens 25 = .ok (.return_, 1) ∧ 25 + 1 = 26 := ⟨by decide +kernel, rfl⟩
theorem zd_M_opens_26 : decode zb_M_opens 26 = .ok (.aload_n 0, 1) ∧ 26 + 1 = 27 := ⟨by decide +kernel, rfl⟩
theorem zd_M_opens_27 : decode zb_M_opens 27 = .ok (.dup, 1) ∧ 27 + 1 = 28 := ⟨by decide +kernel, rfl⟩
theorem zd_M_opens_28 : decode zb_M_opens 28 = .ok (.getfield 134, 3) ∧ 28 + 3 = 31 := ⟨by decide +kernel, rfl⟩
theorem zd_M_opens_31 : decode zb_M_opens 31 = .ok (.iconst 1, 1) ∧ 31 + 1 = 32 := ⟨by decide +kernel, rfl⟩
theorem zd_M_opens_32 : decode zb_M_opens 32 = .ok (.iadd, 1) ∧ 32 + 1 = 33 := ⟨by decide +kernel, rfl⟩
theorem zd_M_opens_33 : decode zb_M_opens 33 = .ok (.putfield 134, 3) ∧ 33 + 3 = 36 := ⟨by decide +kernel, rfl⟩
theorem zd_M_opens_36 : decode zb_M_opens 36 = .ok (.aload_n 0, 1) ∧ 36 + 1 = 37 := ⟨by decide +kernel, rfl⟩
theorem zd_M_opens_37 : decode zb_M_opens 37 = .ok (.iload_n 1, 1) ∧ 37 + 1 = 38 := ⟨by decide +kernel, rfl⟩
theorem zd_M_opens_38 : decode zb_M_opens 38 = .ok (.invokevirtual 324, 3) ∧ 38 + 3 = 41 := ⟨by decide +kernel, rfl⟩
theorem zd_M_opens_41 : decode zb_M_opens 41 = .ok (.aload_n 0, 1) ∧ 41 + 1 = 42 := ⟨by decide +kernel, rfl⟩
theorem zd_M_opens_42 : decode zb_M_opens 42 = .ok (.invokevirtual 317, 3) ∧ 42 + 3 = 45 := ⟨by decide +kernel, rfl⟩
theorem zd_M_opens_45 : decode zb_M_opens 45 = .ok (.return_, 1) ∧ 45 + 1 = 46 := ⟨by decide +kernel, rfl⟩
theorem zd_M_fact_0 : decode zb_M_fact 0 = .ok (.aload_n 0, 1) ∧ 0 + 1 = 1 := ⟨by decide +kernel, rfl⟩
theorem zd_M_fact_1 : decode zb_M_fact 1 = .ok (.bipush 91, 2) ∧ 1 + 2 = 3 := ⟨by decide +kernel, rfl⟩
theorem zd_M_fact_3 : decode zb_M_fact 3 = .ok (.invokevirtual 327, 3) ∧ 3 + 3 = 6 := ⟨by decide +kernel, rfl⟩
theorem zd_M_fact_6 : decode zb_M_fact 6 = .ok (.ifCond .eq 9, 3) ∧ ((6 : Nat) : Int) + (9) = ((15 : Nat) : Int) ∧ 6 + 3 = 9 := ⟨by decide +kernel, by decide, rfl⟩
theorem zd_M_fact_9 : decode zb_M_fact 9 = .ok (.aload_n 0, 1) ∧ 9 + 1 = 10 := ⟨by decide +kernel, rfl⟩
theorem zd_M_fact_10 : decode zb_M_fact 10 = .ok (.iconst 1, 1) ∧ 10 + 1 = 11 := ⟨by decide +kernel, rfl⟩
theorem zd_M_fact_11 : decode zb_M_fact 11 = .ok (.invokevirtual 330, 3) ∧ 11 + 3 = 14 := ⟨by decide +kernel, rfl⟩
theorem zd_M_fact_14 : decode zb_M_fact 14 = .ok (.return_, 1) ∧ 14 + 1 = 15 := ⟨by decide +kernel, rfl⟩
theorem zd_M_fact_15 : decode zb_M_fact 15 = .ok (.aload_n 0, 1) ∧ 15 + 1 = 16 := ⟨by decide +kernel, rfl⟩
theorem zd_M_fact_16 : decode zb_M_fact 16 = .ok (.ldc2_w 286, 3) ∧ 16 + 3 = 19 := ⟨by decide +kernel, rfl⟩
theorem zd_M_fact_19 : decode zb_M_fact 19 = .ok (.invokevirtual 314, 3) ∧ 19 + 3 = 22 := ⟨by decide +kernel, rfl⟩
theorem zd_M_fact_22 : decode zb_M_fact 22 = .ok (.ifCond .eq 9, 3) ∧ ((22 : Nat) : Int) + (9) = ((31 : Nat) : Int) ∧ 22 + 3 = 25 := ⟨by decide +kernel, by decide, rfl⟩
theorem zd_M_fact_25 : decode zb_M_fact 25 = .ok (.aload_n 0, 1) ∧ 25 + 1 = 26 := ⟨by decide +kernel, rfl⟩
theorem zd_M_fact_26 : decode zb_M_fact 26 = .ok (.iconst 2, 1) ∧ 26 + 1 = 27 := ⟨by decide +kernel, rfl⟩
theorem zd_M_fact_27 : decode zb_M_fact 27 = .ok (.invokevirtual 330, 3) ∧ 27 + 3 = 30 := ⟨by decide +kernel, rfl⟩
theorem zd_M_fact_30 : decode zb_M_fact 30 = .ok (.return_, 1) ∧ 30 + 1 = 31 := ⟨by decide +kernel, rfl⟩
theorem zd_M_fact_31 : decode zb_M_fact 31 = .ok (.aload_n 0, 1) ∧ 31 + 1 = 32 := ⟨by decide +kernel, rfl⟩
theorem zd_M_fact_32 : decode zb_M_fact 32 = .ok (.iconst 1, 1) ∧ 32 + 1 = 33 := ⟨by decide +kernel, rfl⟩
theorem zd_M_fact_33 : decode zb_M_fact 33 = .ok (.putfield 137, 3) ∧ 33 + 3 = 36 := ⟨by decide +kernel, rfl⟩
theorem zd_M_fact_36 : decode zb_M_fact 36 = .ok (.aload_n 0, 1) ∧ 36 + 1 = 37 := ⟨by decide +kernel, rfl⟩
theorem zd_M_fact_37 : decode zb_M_fact 37 = .ok (.ldc2_w 288, 3) ∧ 37 + 3 = 40 := ⟨by decide +kernel, rfl⟩
theorem zd_M_fact_40 : decode zb_M_fact 40 = .ok (.invokevirtual 314, 3) ∧ 40 + 3 = 43 := ⟨by decide +kernel, rfl⟩
theorem zd_M_fact_43 : decode zb_M_fact 43 = .ok (.ifCond .eq 14, 3) ∧ ((43 : Nat) : Int) + (14) = ((57 : Nat) : Int) ∧ 43 + 3 = 46 := ⟨by decide +kernel, by decide, rfl⟩
theorem zd_M_fact_46 : decode zb_M_fact 46 = .ok (.aload_n 0, 1) ∧ 46 + 1 = 47 := ⟨by decide +kernel, rfl⟩
theorem zd_M_fact_47 : decode zb_M_fact 47 = .ok (.iconst 0, 1) ∧ 47 + 1 = 48 := ⟨by decide +kernel, rfl⟩
theorem zd_M_fact_48 : decode zb_M_fact 48 = .ok (.iconst 0, 1) ∧ 48 + 1 = 49 := ⟨by decide +kernel, rfl⟩
theorem zd_M_fact_49 : decode zb_M_fact 49 = .ok (.invokevirtual 333, 3) ∧ 49 + 3 = 52 := ⟨by decide +kernel, rfl⟩
theorem zd_M_fact_52 : decode zb_M_fact 52 = .ok (.aload_n 0, 1) ∧ 52 + 1 = 53 := ⟨by decide +kernel, rfl⟩
theorem zd_M_fact_53 : decode zb_M_fact 53 = .ok (.invokevirtual 317, 3) ∧ 53 + 3 = 56 := ⟨by decide +kernel, rfl⟩
theorem zd_M_fact_56 : decode zb_M_fact 56 = .ok (.return_, 1) ∧ 56 + 1 = 57 := ⟨by decide +kernel, rfl⟩
theorem zd_M_fact_57 : decode zb_M_fact 57 = .ok (.aload_n 0, 1) ∧ 57 + 1 = 58 := ⟨by decide +kernel, rfl⟩
theorem zd_M_fact_58 : decode zb_M_fact 58 = .ok (.ldc2_w 290, 3) ∧ 58 + 3 = 61 := ⟨by decide +kernel, rfl⟩
theorem zd_M_fact_61 : decode zb_M_fact 61 = .ok (.invokevirtual 336, 3) ∧ 61 + 3 = 64 := ⟨by decide +kernel, rfl⟩
theorem zd_M_fact_64 : decode zb_M_fact 64 = .ok (.aload_n 0, 1) ∧ 64 + 1 = 65 := ⟨by decide +kernel, rfl⟩
theorem zd_M_fact_65 : decode zb_M_fact 65 = .ok (.getfield 42, 3) ∧ 65 + 3 = 68 := ⟨by decide +kernel, rfl⟩
theorem zd_M_fact_68 : decode zb_M_fact 68 = .ok (.ifCond .ne 30, 3) ∧ ((68 : Nat) : Int) + (30) = ((98 : Nat) : Int) ∧ 68 + 3 = 71 := ⟨by decide +kernel, by decide, rfl⟩
theorem zd_M_fact_71 : decode zb_M_fact 71 = .ok (.aload_n 0, 1) ∧ 71 + 1 = 72 := ⟨by decide +kernel, rfl⟩
theorem zd_M_fact_72 : decode zb_M_fact 72 = .ok (.getfield 32, 3) ∧ 72 + 3 = 75 := ⟨by decide +kernel, rfl⟩
theorem zd_M_fact_75 : decode zb_M_fact 75 = .ok (.iconst 1, 1) ∧ 75 + 1 = 76 := ⟨by decide +kernel, rfl⟩
theorem zd_M_fact_76 : decode zb_M_fact 76 = .ok (.if_icmp .ne 13, 3) ∧ ((76 : Nat) : Int) + (13) = ((89 : Nat) : Int) ∧ 76 + 3 = 79 := ⟨by decide +kernel, by decide, rfl⟩
theorem zd_M_fact_79 : decode zb_M_fact 79 = .ok (.aload_n 0, 1) ∧ 79 + 1 = 80 := ⟨by decide +kernel, rfl⟩
theorem zd_M_fact_80 : decode zb_M_fact 80 = .ok (.getfield 35, 3) ∧ 80 + 3 = 83 := ⟨by decide +kernel, rfl⟩
theorem zd_M_fact_83 : decode zb_M_fact 83 = .ok (.invokestatic 310, 3) ∧ 83 + 3 = 86 := ⟨by decide +kernel, rfl⟩
theorem zd_M_fact_86 : decode zb_M_fact 86 = .ok (.ifCond .eq 12, 3) ∧ ((86 : Nat) : Int) + (12) = ((98 : Nat) : Int) ∧ 86 + 3 = 89 := ⟨by decide +kernel, by decide, rfl⟩
theorem zd_M_fact_89 : decode zb_M_fact 89 = .ok (.aload_n 0, 1) ∧ 89 + 1 = 90 := ⟨by decide +kernel, rfl⟩
theorem zd_M_fact_90 : decode zb_M_fact 90 = .ok (.iconst 1, 1) ∧ 90 + 1 = 91 := ⟨by decide +kernel, rfl⟩
theorem zd_M_fact_91 : decode zb_M_fact 91 = .ok (.aload_n 0, 1) ∧ 91 + 1 = 92 := ⟨by decide +kernel, rfl⟩
theorem zd_M_fact_92 : decode zb_M_fact 92 = .ok (.getfield 26, 3) ∧ 92 + 3 = 95 := ⟨by decide +kernel, rfl⟩
theorem zd_M_fact_95 : decode zb_M_fact 95 = .ok (.invokevirtual 295, 3) ∧ 95 + 3 = 98 := ⟨by decide +kernel, rfl⟩
theorem zd_M_fact_98 : decode zb_M_fact 98 = .ok (.aload_n 0, 1) ∧ 98 + 1 = 99 := ⟨by decide +kernel, rfl⟩
theorem zd_M_fact_99 : decode zb_M_fact 99 = .ok (.getfield 42, 3) ∧ 99 + 3 = 102 := ⟨by decide +kernel, rfl⟩
theorem zd_M_fact_102 : decode zb_M_fact 102 = .ok (.ifCond .le 4, 3) ∧ ((102 : Nat) : Int) + (4) = ((106 : Nat) : Int) ∧ 102 + 3 = 105 := ⟨by decide +kernel, by decide, rfl⟩
theorem zd_M_fact_105 : decode zb_M_fact 105 = .ok (.return_, 1) ∧ 105 + 1 = 106 := ⟨by decide +kernel, rfl⟩
theorem zd_M_fact_106 : decode zb_M_fact 106 = .ok (.aload_n 0, 1) ∧ 106 + 1 = 107 := ⟨by decide +kernel, rfl⟩
theorem zd_M_fact_107 : decode zb_M_fact 107 = .ok (.getfield 109, 3) ∧ 107 + 3 = 110 := ⟨by decide +kernel, rfl⟩
theorem zd_M_fact_110 : decode zb_M_fact 110 = .ok (.aload_n 0, 1) ∧ 110 + 1 = 111 := ⟨by decide +kernel, rfl⟩
theorem zd_M_fact_111 : decode zb_M_fact 111 = .ok (.getfield 115, 3) ∧ 111 + 3 = 114 := ⟨by decide +kernel, rfl⟩
theorem zd_M_fact_114 : decode zb_M_fact 114 = .ok (.aload_n 0, 1) ∧ 114 + 1 = 115 := ⟨by decide +kernel, rfl⟩
theorem zd_M_fact_115 : decode zb_M_fact 115 = .ok (.getfield 35, 3) ∧ 115 + 3 = 118 := ⟨by decide +kernel, rfl⟩
theorem zd_M_fact_118 : decode zb_M_fact 118 = .ok (.lastore, 1) ∧ 118 + 1 = 119 := ⟨by decide +kernel, rfl⟩
theorem zd_M_fact_119 : decode zb_M_fact 119 = .ok (.aload_n 0, 1) ∧ 119 + 1 = 120 := ⟨by decide +kernel, rfl⟩
theorem zd_M_fact_120 : decode zb_M_fact 120 = .ok (.getfield 112, 3) ∧ 120 + 3 = 123 := ⟨by decide +kernel, rfl⟩
theorem zd_M_fact_123 : decode zb_M_fact 123 = .ok (.aload_n 0, 1) ∧ 123 + 1 = 124 := ⟨by decide +kernel, rfl⟩
theorem zd_M_fact_124 : decode zb_M_fact 124 = .ok (.getfield 115, 3) ∧ 124 + 3 = 127 := ⟨by decide +kernel, rfl⟩
theorem zd_M_fact_127 : decode zb_M_fact 127 = .ok (.aload_n 0, 1) ∧ 127 + 1 = 128 := ⟨by decide +kernel, rfl⟩
theorem zd_M_fact_128 : decode zb_M_fact 128 = .ok (.getfield 26, 3) ∧ 128 + 3 = 131 := ⟨by decide +kernel, rfl⟩
theorem zd_M_fact_131 : decode zb_M_fact 131 = .ok (.iastore, 1) ∧ 131 + 1 = 132 := ⟨by decide +kernel, rfl⟩
theorem zd_M_fact_132 : decode zb_M_fact 132 = .ok (.aload_n 0, 1) ∧ 132 + 1 = 133 := ⟨by decide +kernel, rfl⟩
theorem zd_M_fact_133 : decode zb_M_fact 133 = .ok (.getfield 115, 3) ∧ 133 + 3 = 136 := ⟨by decide +kernel, rfl⟩
theorem zd_M_fact_136 : decode zb_M_fact 136 = .ok (.istore_n 1, 1) ∧ 136 + 1 = 137 := ⟨by decide +kernel, rfl⟩
theorem zd_M_fact_137 : decode zb_M_fact 137 = .ok (.aload_n 0, 1) ∧ 137 + 1 = 138 := ⟨by decide +kernel, rfl⟩
theorem zd_M_fact_138 : decode zb_M_fact 138 = .ok (.invokevirtual 317, 3) ∧ 138 + 3 = 141 := ⟨by decide +kernel, rfl⟩
theorem zd_M_fact_141 : decode zb_M_fact 141 = .ok (.aload_n 0, 1) ∧ 141 + 1 = 142 := ⟨by decide +kernel, rfl⟩
theorem zd_M_fact_142 : decode zb_M_fact 142 = .ok (.invokevirtual 340, 3) ∧ 142 + 3 = 145 := ⟨by decide +kernel, rfl⟩
theorem zd_M_fact_145 : decode zb_M_fact 145 = .ok (.istore_n 2, 1) ∧ 145 + 1 = 146 := ⟨by decide +kernel, rfl⟩
theorem zd_M_fact_146 : decode zb_M_fact 146 = .ok (.aload_n 0, 1) ∧ 146 + 1 = 147 := ⟨by decide +kernel, rfl⟩
theorem zd_M_fact_147 : decode zb_M_fact 147 = .ok (.getfield 42, 3) ∧ 147 + 3 = 150 := ⟨by decide +kernel, rfl⟩
theorem zd_M_fact_150 : decode zb_M_fact 150 = .ok (.ifCond .le 4, 3) ∧ ((150 : Nat) : Int) + (4) = ((154 : Nat) : Int) ∧ 150 + 3 = 153 := ⟨by decide +kernel, by decide, rfl⟩
theorem zd_M_fact_153 : decode zb_M_fact 153 = .ok (.return_, 1) ∧ 153 + 1 = 154 := ⟨by decide +kernel, rfl⟩
theorem zd_M_fact_154 : decode zb_M_fact 154 = .ok (.aload_n 0, 1) ∧ 154 + 1 = 155 := ⟨by decide +kernel, rfl⟩
theorem zd_M_fact_155 : decode zb_M_fact 155 = .ok (.iconst 1, 1) ∧ 155 + 1 = 156 := ⟨by decide +kernel, rfl⟩
theorem zd_M_fact_156 : decode zb_M_fact 156 = .ok (.iload_n 2, 1) ∧ 156 + 1 = 157 := ⟨by decide +kernel, rfl⟩
theorem zd_M_fact_157 : decode zb_M_fact 157 = .ok (.invokevirtual 333, 3) ∧ 157 + 3 = 160 := ⟨by decide +kernel, rfl⟩
theorem zd_M_fact_160 : decode zb_M_fact 160 = .ok (.aload_n 0, 1) ∧ 160 + 1 = 161 := ⟨by decide +kernel, rfl⟩
theorem zd_M_fact_161 : decode zb_M_fact 161 = .ok (.getfield 106, 3) ∧ 161 + 3 = 164 := ⟨by decide +kernel, rfl⟩
theorem zd_M_fact_164 : decode zb_M_fact 164 = .ok (.sipush 1600, 3) ∧ 164 + 3 = 167 := ⟨by decide +kernel, rfl⟩
theorem zd_M_fact_167 : decode zb_M_fact 167 = .ok (.aload_n 0, 1) ∧ 167 + 1 = 168 := ⟨by decide +kernel, rfl⟩
theorem zd_M_fact_168 : decode zb_M_fact 168 = .ok (.getfield 118, 3) ∧ 168 + 3 = 171 := ⟨by decide +kernel, rfl⟩
theorem zd_M_fact_171 : decode zb_M_fact 171 = .ok (.imul, 1) ∧ 171 + 1 = 172 := ⟨by decide +kernel, rfl⟩
theorem zd_M_fact_172 : decode zb_M_fact 172 = .ok (.iload_n 1, 1) ∧ 172 + 1 = 173 := ⟨by decide +kernel, rfl⟩
theorem zd_M_fact_173 : decode zb_M_fact 173 = .ok (.iadd, 1) ∧ 173 + 1 = 174 := ⟨by decide +kernel, rfl⟩
theorem zd_M_fact_174 : decode zb_M_fact 174 = .ok (.iconst 0, 1) ∧ 174 + 1 = 175 := ⟨by decide +kernel, rfl⟩
theorem zd_M_fact_175 : decode zb_M_fact 175 = .ok (.iastore, 1) ∧ 175 + 1 = 176 := ⟨by decide +kernel, rfl⟩
theorem zd_M_fact_176 : decode zb_M_fact 176 = .ok (.return_, 1) ∧ 176 + 1 = 177 := ⟨by decide +kernel, rfl⟩
theorem zd_M_joins_0 : decode zb_M_joins 0 = .ok (.aload_n 0, 1) ∧ 0 + 1 = 1 := ⟨by decide +kernel, rfl⟩
theorem zd_M_joins_1 : decode zb_M_joins 1 = .ok (.getfield 131, 3) ∧ 1 + 3 = 4 := ⟨by decide +kernel, rfl⟩
theorem zd_M_joins_4 : decode zb_M_joins 4 = .ok (.iconst 1, 1) ∧ 4 + 1 = 5 := ⟨by decide +kernel, rfl⟩
theorem zd_M_joins_5 : decode zb_M_joins 5 = .ok (.isub, 1) ∧ 5 + 1 = 6 := ⟨by decide +kernel, rfl⟩
theorem zd_M_joins_6 : decode zb_M_joins 6 = .ok (.istore_n 2, 1) ∧ 6 + 1 = 7 := ⟨by decide +kernel, rfl⟩
theorem zd_M_joins_7 : decode zb_M_joins 7 = .ok (.aload_n 0, 1) ∧ 7 + 1 = 8 := ⟨by decide +kernel, rfl⟩
theorem zd_M_joins_8 : decode zb_M_joins 8 = .ok (.getfield 124, 3) ∧ 8 + 3 = 11 := ⟨by decide +kernel, rfl⟩
theorem zd_M_joins_11 : decode zb_M_joins 11 = .ok (.iload_n 2, 1) ∧ 11 + 1 = 12 := ⟨by decide +kernel, rfl⟩
theorem zd_M_joins_12 : decode zb_M_joins 12 = .ok (.baload, 1) ∧ 12 + 1 = 13 := ⟨by decide +kernel, rfl⟩
theorem zd_M_joins_13 : decode zb_M_joins 13 = .ok (.ifCond .eq 9, 3) ∧ ((13 : Nat) : Int) + (9) = ((22 : Nat) : Int) ∧ 13 + 3 = 16 := ⟨by decide +kernel, by decide, rfl⟩
theorem zd_M_joins_16 : decode zb_M_joins 16 = .ok (.aload_n 0, 1) ∧ 16 + 1 = 17 := ⟨by decide +kernel, rfl⟩
theorem zd_M_joins_17 : decode zb_M_joins 17 = .ok (.iconst 2, 1) ∧ 17 + 1 = 18 := ⟨by decide +kernel, rfl⟩
theorem zd_M_joins_18 : decode zb_M_joins 18 = .ok (.iconst 0, 1) ∧ 18 + 1 = 19 := ⟨by decide +kernel, rfl⟩
theorem zd_M_joins_19 : decode zb_M_joins 19 = .ok (.invokevirtual 333, 3) ∧ 19 + 3 = 22 := ⟨by decide +kernel, rfl⟩
theorem zd_M_joins_22 : decode zb_M_joins 22 = .ok (.aload_n 0, 1) ∧ 22 + 1 = 23 := ⟨by decide +kernel, rfl⟩
theorem zd_M_joins_23 : decode zb_M_joins 23 = .ok (.getfield 124, 3) ∧ 23 + 3 = 26 := ⟨by decide +kernel, rfl⟩
theorem zd_M_joins_26 : decode zb_M_joins 26 = .ok (.iload_n 2, 1) ∧ 26 + 1 = 27 := ⟨by decide +kernel, rfl⟩
theorem zd_M_joins_27 : decode zb_M_joins 27 = .ok (.iconst 0, 1) ∧ 27 + 1 = 28 := ⟨by decide +kernel, rfl⟩
theorem zd_M_joins_28 : decode zb_M_joins 28 = .ok (.bastore, 1) ∧ 28 + 1 = 29 := ⟨by decide +kernel, rfl⟩
theorem zd_M_joins_29 : decode zb_M_joins 29 = .ok (.iload_n 1, 1) ∧ 29 + 1 = 30 := ⟨by decide +kernel, rfl⟩
theorem zd_M_joins_30 : decode zb_M_joins 30 = .ok (.ifCond .ne 4, 3) ∧ ((30 : Nat) : Int) + (4) = ((34 : Nat) : Int) ∧ 30 + 3 = 33 := ⟨by decide +kernel, by decide, rfl⟩
theorem zd_M_joins_33 : decode zb_M_joins 33 = .ok (.return_, 1) ∧ 33 + 1 = 34 := ⟨by decide +kernel, rfl⟩
theorem zd_M_joins_34 : decode zb_M_joins 34 = .ok (.aload_n 0, 1) ∧ 34 + 1 = 35 := ⟨by decide +kernel, rfl⟩
theorem zd_M_joins_35 : decode zb_M_joins 35 = .ok (.getfield 128, 3) ∧ 35 + 3 = 38 := ⟨by decide +kernel, rfl⟩
theorem zd_M_joins_38 : decode zb_M_joins 38 = .ok (.iload_n 2, 1) ∧ 38 + 1 = 39 := ⟨by decide +kernel, rfl⟩
theorem zd_M_joins_39 : decode zb_M_joins 39 = .ok (.baload, 1) ∧ 39 + 1 = 40 := ⟨by decide +kernel, rfl⟩
theorem zd_M_joins_40 : decode zb_M_joins 40 = .ok (.ifCond .eq 9, 3) ∧ ((40 : Nat) : Int) + (9) = ((49 : Nat) : Int) ∧ 40 + 3 = 43 := ⟨by decide +kernel, by decide, rfl⟩
theorem zd_M_joins_43 : decode zb_M_joins 43 = .ok (.aload_n 0, 1) ∧ 43 + 1 = 44 := ⟨by decide +kernel, rfl⟩
theorem zd_M_joins_44 : decode zb_M_joins 44 = .ok (.iconst 3, 1) ∧ 44 + 1 = 45 := ⟨by decide +kernel, rfl⟩
theorem zd_M_joins_45 : decode zb_M_joins 45 = .ok (.iconst 0, 1) ∧ 45 + 1 = 46 := ⟨by decide +kernel, rfl⟩
theorem zd_M_joins_46 : decode zb_M_joins 46 = .ok (.invokevirtual 333, 3) ∧ 46 + 3 = 49 := ⟨by decide +kernel, rfl⟩
theorem zd_M_joins_49 : decode zb_M_joins 49 = .ok (.aload_n 0, 1) ∧ 49 + 1 = 50 := ⟨by decide +kernel, rfl⟩
theorem zd_M_joins_50 : decode zb_M_joins 50 = .ok (.getfield 128, 3) ∧ 50 + 3 = 53 := ⟨by decide +kernel, rfl⟩
theorem zd_M_joins_53 : decode zb_M_joins 53 = .ok (.iload_n 2, 1) ∧ 53 + 1 = 54 := ⟨by decide +kernel, rfl⟩
theorem zd_M_joins_54 : decode zb_M_joins 54 = .ok (.iconst 0, 1) ∧ 54 + 1 = 55 := ⟨by decide +kernel, rfl⟩
theorem zd_M_joins_55 : decode zb_M_joins 55 = .ok (.bastore, 1) ∧ 55 + 1 = 56 := ⟨by decide +kernel, rfl⟩
theorem zd_M_joins_56 : decode zb_M_joins 56 = .ok (.return_, 1) ∧ 56 + 1 = 57 := ⟨by decide +kernel, rfl⟩
theorem zd_M_goesOn_0 : decode zb_M_goesOn 0 = .ok (.aload_n 0, 1) ∧ 0 + 1 = 1 := ⟨by decide +kernel, rfl⟩
theorem zd_M_goesOn_1 : decode zb_M_goesOn 1 = .ok (.getfield 131, 3) ∧ 1 + 3 = 4 := ⟨by decide +kernel, rfl⟩
theorem zd_M_goesOn_4 : decode zb_M_goesOn 4 = .ok (.iconst 1, 1) ∧ 4 + 1 = 5 := ⟨by decide +kernel, rfl⟩
theorem zd_M_goesOn_5 : decode zb_M_goesOn 5 = .ok (.isub, 1) ∧ 5 + 1 = 6 := ⟨by decide +kernel, rfl⟩
theorem zd_M_goesOn_6 : decode zb_M_goesOn 6 = .ok (.istore_n 1, 1) ∧ 6 + 1 = 7 := ⟨by decide +kernel, rfl⟩
theorem zd_M_goesOn_7 : decode zb_M_goesOn 7 = .ok (.aload_n 0, 1) ∧ 7 + 1 = 8 := ⟨by decide +kernel, rfl⟩
theorem zd_M_goesOn_8 : decode zb_M_goesOn 8 = .ok (.getfield 121, 3) ∧ 8 + 3 = 11 := ⟨by decide +kernel, rfl⟩
theorem zd_M_goesOn_11 : decode zb_M_goesOn 11 = .ok (.iload_n 1, 1) ∧ 11 + 1 = 12 := ⟨by decide +kernel, rfl⟩
theorem zd_M_goesOn_12 : decode zb_M_goesOn 12 = .ok (.iaload, 1) ∧ 12 + 1 = 13 := ⟨by decide +kernel, rfl⟩
theorem zd_M_goesOn_13 : decode zb_M_goesOn 13 = .ok (.iconst 2, 1) ∧ 13 + 1 = 14 := ⟨by decide +kernel, rfl⟩
theorem zd_M_goesOn_14 : decode zb_M_goesOn 14 = .ok (.if_icmp .ne 31, 3) ∧ ((14 : Nat) : Int) + (31) = ((45 : Nat) : Int) ∧ 14 + 3 = 17 := ⟨by decide +kernel, by decide, rfl⟩
theorem zd_M_goesOn_17 : decode zb_M_goesOn 17 = .ok (.aload_n 0, 1) ∧ 17 + 1 = 18 := ⟨by decide +kernel, rfl⟩
theorem zd_M_goesOn_18 : decode zb_M_goesOn 18 = .ok (.iconst 4, 1) ∧ 18 + 1 = 19 := ⟨by decide +kernel, rfl⟩
theorem zd_M_goesOn_19 : decode zb_M_goesOn 19 = .ok (.iconst 0, 1) ∧ 19 + 1 = 20 := ⟨by decide +kernel, rfl⟩
theorem zd_M_goesOn_20 : decode zb_M_goesOn 20 = .ok (.invokevirtual 333, 3) ∧ 20 + 3 = 23 := ⟨by decide +kernel, rfl⟩
theorem zd_M_goesOn_23 : decode zb_M_goesOn 23 = .ok (.aload_n 0, 1) ∧ 23 + 1 = 24 := ⟨by decide +kernel, rfl⟩
theorem zd_M_goesOn_24 : decode zb_M_goesOn 24 = .ok (.dup, 1) ∧ 24 + 1 = 25 := ⟨by decide +kernel, rfl⟩
theorem zd_M_goesOn_25 : decode zb_M_goesOn 25 = .ok (.getfield 131, 3) ∧ 25 + 3 = 28 := ⟨by decide +kernel, rfl⟩
theorem zd_M_goesOn_28 : decode zb_M_goesOn 28 = .ok (.iconst 1, 1) ∧ 28 + 1 = 29 := ⟨by decide +kernel, rfl⟩
theorem zd_M_goesOn_29 : decode zb_M_goesOn 29 = .ok (.isub, 1) ∧ 29 + 1 = 30 := ⟨by decide +kernel, rfl⟩
theorem zd_M_goesOn_30 : decode zb_M_goesOn 30 = .ok (.putfield 131, 3) ∧ 30 + 3 = 33 := ⟨by decide +kernel, rfl⟩
theorem zd_M_goesOn_33 : decode zb_M_goesOn 33 = .ok (.aload_n 0, 1) ∧ 33 + 1 = 34 := ⟨by decide +kernel, rfl⟩
theorem zd_M_goesOn_34 : decode zb_M_goesOn 34 = .ok (.dup, 1) ∧ 34 + 1 = 35 := ⟨by decide +kernel, rfl⟩
theorem zd_M_goesOn_35 : decode zb_M_goesOn 35 = .ok (.getfield 134, 3) ∧ 35 + 3 = 38 := ⟨by decide +kernel, rfl⟩
theorem zd_M_goesOn_38 : decode zb_M_goesOn 38 = .ok (.iconst 1, 1) ∧ 38 + 1 = 39 := ⟨by decide +kernel, rfl⟩
theorem zd_M_goesOn_39 : decode zb_M_goesOn 39 = .ok (.isub, 1) ∧ 39 + 1 = 40 := ⟨by decide +kernel, rfl⟩
theorem zd_M_goesOn_40 : decode zb_M_goesOn 40 = .ok (.putfield 134, 3) ∧ 40 + 3 = 43 := ⟨by decide +kernel, rfl⟩
theorem zd_M_goesOn_43 : decode zb_M_goesOn 43 = .ok (.iconst 1, 1) ∧ 43 + 1 = 44 := ⟨by decide +kernel, rfl⟩
theorem zd_M_goesOn_44 : decode zb_M_goesOn 44 = .ok (.ireturn, 1) ∧ 44 + 1 = 45 := ⟨by decide +kernel, rfl⟩
theorem zd_M_goesOn_45 : decode zb_M_goesOn 45 = .ok (.aload_n 0, 1) ∧ 45 + 1 = 46 := ⟨by decide +kernel, rfl⟩
theorem zd_M_goesOn_46 : decode zb_M_goesOn 46 = .ok (.ldc2_w 284, 3) ∧ 46 + 3 = 49 := ⟨by decide +kernel, rfl⟩
theorem zd_M_goesOn_49 : decode zb_M_goesOn 49 = .ok (.invokevirtual 314, 3) ∧ 49 + 3 = 52 := ⟨by decide +kernel, rfl⟩
theorem zd_M_goesOn_52 : decode zb_M_goesOn 52 = .ok (.ifCond .eq 26, 3) ∧ ((52 : Nat) : Int) + (26) = ((78 : Nat) : Int) ∧ 52 + 3 = 55 := ⟨by decide +kernel, by decide, rfl⟩
theorem zd_M_goesOn_55 : decode zb_M_goesOn 55 = .ok (.aload_n 0, 1) ∧ 55 + 1 = 56 := ⟨by decide +kernel, rfl⟩
theorem zd_M_goesOn_56 : decode zb_M_goesOn 56 = .ok (.iconst 0, 1) ∧ 56 + 1 = 57 := ⟨by decide +kernel, rfl⟩
theorem zd_M_goesOn_57 : decode zb_M_goesOn 57 = .ok (.invokevirtual 344, 3) ∧ 57 + 3 = 60 := ⟨by decide +kernel, rfl⟩
theorem zd_M_goesOn_60 : decode zb_M_goesOn 60 = .ok (.aload_n 0, 1) ∧ 60 + 1 = 61 := ⟨by decide +kernel, rfl⟩
theorem zd_M_goesOn_61 : decode zb_M_goesOn 61 = .ok (.getfield 124, 3) ∧ 61 + 3 = 64 := ⟨by decide +kernel, rfl⟩
theorem zd_M_goesOn_64 : decode zb_M_goesOn 64 = .ok (.iload_n 1, 1) ∧ 64 + 1 = 65 := ⟨by decide +kernel, rfl⟩
theorem zd_M_goesOn_65 : decode zb_M_goesOn 65 = .ok (.iconst 1, 1) ∧ 65 + 1 = 66 := ⟨by decide +kernel, rfl⟩
theorem zd_M_goesOn_66 : decode zb_M_goesOn 66 = .ok (.bastore, 1) ∧ 66 + 1 = 67 := ⟨by decide +kernel, rfl⟩
theorem zd_M_goesOn_67 : decode zb_M_goesOn 67 = .ok (.aload_n 0, 1) ∧ 67 + 1 = 68 := ⟨by decide +kernel, rfl⟩
theorem zd_M_goesOn_68 : decode zb_M_goesOn 68 = .ok (.iconst 0, 1) ∧ 68 + 1 = 69 := ⟨by decide +kernel, rfl⟩
theorem zd_M_goesOn_69 : decode zb_M_goesOn 69 = .ok (.putfield 137, 3) ∧ 69 + 3 = 72 := ⟨by decide +kernel, rfl⟩
theorem zd_M_goesOn_72 : decode zb_M_goesOn 72 = .ok (.aload_n 0, 1) ∧ 72 + 1 = 73 := ⟨by decide +kernel, rfl⟩
theorem zd_M_goesOn_73 : decode zb_M_goesOn 73 = .ok (.invokevirtual 317, 3) ∧ 73 + 3 = 76 := ⟨by decide +kernel, rfl⟩
theorem zd_M_goesOn_76 : decode zb_M_goesOn 76 = .ok (.iconst 1, 1) ∧ 76 + 1 = 77 := ⟨by decide +kernel, rfl⟩
theorem zd_M_goesOn_77 : decode zb_M_goesOn 77 = .ok (.ireturn, 1) ∧ 77 + 1 = 78 := ⟨by decide +kernel, rfl⟩
theorem zd_M_goesOn_78 : decode zb_M_goesOn 78 = .ok (.aload_n 0, 1) ∧ 78 + 1 = 79 := ⟨by decide +kernel, rfl⟩
theorem zd_M_goesOn_79 : decode zb_M_goesOn 79 = .ok (.ldc2_w 282, 3) ∧ 79 + 3 = 82 := ⟨by decide +kernel, rfl⟩
theorem zd_M_goesOn_82 : decode zb_M_goesOn 82 = .ok (.invokevirtual 314, 3) ∧ 82 + 3 = 85 := ⟨by decide +kernel, rfl⟩
theorem zd_M_goesOn_85 : decode zb_M_goesOn 85 = .ok (.ifCond .eq 26, 3) ∧ ((85 : Nat) : Int) + (26) = ((111 : Nat) : Int) ∧ 85 + 3 = 88 := ⟨by decide +kernel, by decide, rfl⟩
theorem zd_M_goesOn_88 : decode zb_M_goesOn 88 = .ok (.aload_n 0, 1) ∧ 88 + 1 = 89 := ⟨by decide +kernel, rfl⟩
theorem zd_M_goesOn_89 : decode zb_M_goesOn 89 = .ok (.iconst 1, 1) ∧ 89 + 1 = 90 := ⟨by decide +kernel, rfl⟩
theorem zd_M_goesOn_90 : decode zb_M_goesOn 90 = .ok (.invokevirtual 344, 3) ∧ 90 + 3 = 93 := ⟨by decide +kernel, rfl⟩
theorem zd_M_goesOn_93 : decode zb_M_goesOn 93 = .ok (.aload_n 0, 1) ∧ 93 + 1 = 94 := ⟨by decide +kernel, rfl⟩
theorem zd_M_goesOn_94 : decode zb_M_goesOn 94 = .ok (.getfield 128, 3) ∧ 94 + 3 = 97 := ⟨by decide +kernel, rfl⟩
theorem zd_M_goesOn_97 : decode zb_M_goesOn 97 = .ok (.iload_n 1, 1) ∧ 97 + 1 = 98 := ⟨by decide +kernel, rfl⟩
theorem zd_M_goesOn_98 : decode zb_M_goesOn 98 = .ok (.iconst 1, 1) ∧ 98 + 1 = 99 := ⟨by decide +kernel, rfl⟩
theorem zd_M_goesOn_99 : decode zb_M_goesOn 99 = .ok (.bastore, 1) ∧ 99 + 1 = 100 := ⟨by decide +kernel, rfl⟩
theorem zd_M_goesOn_100 : decode zb_M_goesOn 100 = .ok (.aload_n 0, 1) ∧ 100 + 1 = 101 := ⟨by decide +kernel, rfl⟩
theorem zd_M_goesOn_101 : decode zb_M_goesOn 101 = .ok (.iconst 0, 1) ∧ 101 + 1 = 102 := ⟨by decide +kernel, rfl⟩
theorem zd_M_goesOn_102 : decode zb_M_goesOn 102 = .ok (.putfield 137, 3) ∧ 102 + 3 = 105 := ⟨by decide +kernel, rfl⟩
theorem zd_M_goesOn_105 : decode zb_M_goesOn 105 = .ok (.aload_n 0, 1) ∧ 105 + 1 = 106 := ⟨by decide +kernel, rfl⟩
theorem zd_M_goesOn_106 : decode zb_M_goesOn 106 = .ok (.invokevirtual 317, 3) ∧ 106 + 3 = 109 := ⟨by decide +kernel, rfl⟩
theorem zd_M_goesOn_109 : decode zb_M_goesOn 109 = .ok (.iconst 1, 1) ∧ 109 + 1 = 110 := ⟨by decide +kernel, rfl⟩
theorem zd_M_goesOn_110 : decode zb_M_goesOn 110 = .ok (.ireturn, 1) ∧ 110 + 1 = 111 := ⟨by decide +kernel, rfl⟩
theorem zd_M_goesOn_111 : decode zb_M_goesOn 111 = .ok (.aload_n 0, 1) ∧ 111 + 1 = 112 := ⟨by decide +kernel, rfl⟩
theorem zd_M_goesOn_112 : decode zb_M_goesOn 112 = .ok (.iconst 1, 1) ∧ 112 + 1 = 113 := ⟨by decide +kernel, rfl⟩
theorem zd_M_goesOn_113 : decode zb_M_goesOn 113 = .ok (.invokevirtual 344, 3) ∧ 113 + 3 = 116 := ⟨by decide +kernel, rfl⟩
theorem zd_M_goesOn_116 : decode zb_M_goesOn 116 = .ok (.aload_n 0, 1) ∧ 116 + 1 = 117 := ⟨by decide +kernel, rfl⟩
theorem zd_M_goesOn_117 : decode zb_M_goesOn 117 = .ok (.getfield 121, 3) ∧ 117 + 3 = 120 := ⟨by decide +kernel, rfl⟩
theorem zd_M_goesOn_120 : decode zb_M_goesOn 120 = .ok (.iload_n 1, 1) ∧ 120 + 1 = 121 := ⟨by decide +kernel, rfl⟩
theorem zd_M_goesOn_121 : decode zb_M_goesOn 121 = .ok (.iaload, 1) ∧ 121 + 1 = 122 := ⟨by decide +kernel, rfl⟩
theorem zd_M_goesOn_122 : decode zb_M_goesOn 122 = .ok (.ifCond .ne 5, 3) ∧ ((122 : Nat) : Int) + (5) = ((127 : Nat) : Int) ∧ 122 + 3 = 125 := ⟨by decide +kernel, by decide, rfl⟩
theorem zd_M_goesOn_125 : decode zb_M_goesOn 125 = .ok (.iconst 0, 1) ∧ 125 + 1 = 126 := ⟨by decide +kernel, rfl⟩
theorem zd_M_goesOn_126 : decode zb_M_goesOn 126 = .ok (.ireturn, 1) ∧ 126 + 1 = 127 := ⟨by decide +kernel, rfl⟩
theorem zd_M_goesOn_127 : decode zb_M_goesOn 127 = .ok (.aload_n 0, 1) ∧ 127 + 1 = 128 := ⟨by decide +kernel, rfl⟩
theorem zd_M_goesOn_128 : decode zb_M_goesOn 128 = .ok (.bipush 93, 2) ∧ 128 + 2 = 130 := ⟨by decide +kernel, rfl⟩
theorem zd_M_goesOn_130 : decode zb_M_goesOn 130 = .ok (.invokevirtual 327, 3) ∧ 130 + 3 = 133 := ⟨by decide +kernel, rfl⟩
theorem zd_M_goesOn_133 : decode zb_M_goesOn 133 = .ok (.ifCond .ne 12, 3) ∧ ((133 : Nat) : Int) + (12) = ((145 : Nat) : Int) ∧ 133 + 3 = 136 := ⟨by decide +kernel, by decide, rfl⟩
theorem zd_M_goesOn_136 : decode zb_M_goesOn 136 = .ok (.aload_n 0, 1) ∧ 136 + 1 = 137 := ⟨by decide +kernel, rfl⟩
theorem zd_M_goesOn_137 : decode zb_M_goesOn 137 = .ok (.iconst 1, 1) ∧ 137 + 1 = 138 := ⟨by decide +kernel, rfl⟩
theorem zd_M_goesOn_138 : decode zb_M_goesOn 138 = .ok (.aload_n 0, 1) ∧ 138 + 1 = 139 := ⟨by decide +kernel, rfl⟩
theorem zd_M_goesOn_139 : decode zb_M_goesOn 139 = .ok (.getfield 26, 3) ∧ 139 + 3 = 142 := ⟨by decide +kernel, rfl⟩
theorem zd_M_goesOn_142 : decode zb_M_goesOn 142 = .ok (.invokevirtual 295, 3) ∧ 142 + 3 = 145 := ⟨by decide +kernel, rfl⟩
theorem zd_M_goesOn_145 : decode zb_M_goesOn 145 = .ok (.aload_n 0, 1) ∧ 145 + 1 = 146 := ⟨by decide +kernel, rfl⟩
theorem zd_M_goesOn_146 : decode zb_M_goesOn 146 = .ok (.getfield 42, 3) ∧ 146 + 3 = 149 := ⟨by decide +kernel, rfl⟩
theorem zd_M_goesOn_149 : decode zb_M_goesOn 149 = .ok (.ifCond .le 5, 3) ∧ ((149 : Nat) : Int) + (5) = ((154 : Nat) : Int) ∧ 149 + 3 = 152 := ⟨by decide +kernel, by decide, rfl⟩
theorem zd_M_goesOn_152 : decode zb_M_goesOn 152 = .ok (.iconst 0, 1) ∧ 152 + 1 = 153 := ⟨by decide +kernel, rfl⟩
theorem zd_M_goesOn_153 : decode zb_M_goesOn 153 = .ok (.ireturn, 1) ∧ 153 + 1 = 154 := ⟨by decide +kernel, rfl⟩
theorem zd_M_goesOn_154 : decode zb_M_goesOn 154 = .ok (.aload_n 0, 1) ∧ 154 + 1 = 155 := ⟨by decide +kernel, rfl⟩
theorem zd_M_goesOn_155 : decode zb_M_goesOn 155 = .ok (.dup, 1) ∧ 155 + 1 = 156 := ⟨by decide +kernel, rfl⟩
theorem zd_M_goesOn_156 : decode zb_M_goesOn 156 = .ok (.getfield 131, 3) ∧ 156 + 3 = 159 := ⟨by decide +kernel, rfl⟩
theorem zd_M_goesOn_159 : decode zb_M_goesOn 159 = .ok (.iconst 1, 1) ∧ 159 + 1 = 160 := ⟨by decide +kernel, rfl⟩
theorem zd_M_goesOn_160 : decode zb_M_goesOn 160 = .ok (.isub, 1) ∧ 160 + 1 = 161 := ⟨by decide +kernel, rfl⟩
theorem zd_M_goesOn_161 : decode zb_M_goesOn 161 = .ok (.putfield 131, 3) ∧ 161 + 3 = 164 := ⟨by decide +kernel, rfl⟩
theorem zd_M_goesOn_164 : decode zb_M_goesOn 164 = .ok (.aload_n 0, 1) ∧ 164 + 1 = 165 := ⟨by decide +kernel, rfl⟩
theorem zd_M_goesOn_165 : decode zb_M_goesOn 165 = .ok (.dup, 1) ∧ 165 + 1 = 166 := ⟨by decide +kernel, rfl⟩
theorem zd_M_goesOn_166 : decode zb_M_goesOn 166 = .ok (.getfield 134, 3) ∧ 166 + 3 = 169 := ⟨by decide +kernel, rfl⟩
theorem zd_M_goesOn_169 : decode zb_M_goesOn 169 = .ok (.iconst 1, 1) ∧ 169 + 1 = 170 := ⟨by decide +kernel, rfl⟩
theorem zd_M_goesOn_170 : decode zb_M_goesOn 170 = .ok (.isub, 1) ∧ 170 + 1 = 171 := ⟨by decide +kernel, rfl⟩
theorem zd_M_goesOn_171 : decode zb_M_goesOn 171 = .ok (.putfield 134, 3) ∧ 171 + 3 = 174 := ⟨by decide +kernel, rfl⟩
theorem zd_M_goesOn_174 : decode zb_M_goesOn 174 = .ok (.aload_n 0, 1) ∧ 174 + 1 = 175 := ⟨by decide +kernel, rfl⟩
theorem zd_M_goesOn_175 : decode zb_M_goesOn 175 = .ok (.invokevirtual 317, 3) ∧ 175 + 3 = 178 := ⟨by decide +kernel, rfl⟩
theorem zd_M_goesOn_178 : decode zb_M_goesOn 178 = .ok (.iconst 1, 1) ∧ 178 + 1 = 179 := ⟨by decide +kernel, rfl⟩
theorem zd_M_goesOn_179 : decode zb_M_goesOn 179 = .ok (.ireturn, 1) ∧ 179 + 1 = 180 := ⟨by decide +kernel, rfl⟩
theorem zd_M_test_0 : decode zb_M_test 0 = .ok (.aload_n 0, 1) ∧ 0 + 1 = 1 := ⟨by decide +kernel, rfl⟩
theorem zd_M_test_1 : decode zb_M_test 1 = .ok (.getfield 42, 3) ∧ 1 + 3 = 4 := ⟨by decide +kernel, rfl⟩
theorem zd_M_test_4 : decode zb_M_test 4 = .ok (.ifCond .le 4, 3) ∧ ((4 : Nat) : Int) + (4) = ((8 : Nat) : Int) ∧ 4 + 3 = 7 := ⟨by decide +kernel, by decide, rfl⟩
theorem zd_M_test_7 : decode zb_M_test 7 = .ok (.return_, 1) ∧ 7 + 1 = 8 := ⟨by decide +kernel, rfl⟩
theorem zd_M_test_8 : decode zb_M_test 8 = .ok (.aload_n 0, 1) ∧ 8 + 1 = 9 := ⟨by decide +kernel, rfl⟩
theorem zd_M_test_9 : decode zb_M_test 9 = .ok (.getfield 94, 3) ∧ 9 + 3 = 12 := ⟨by decide +kernel, rfl⟩
theorem zd_M_test_12 : decode zb_M_test 12 = .ok (.bipush 6, 2) ∧ 12 + 2 = 14 := ⟨by decide +kernel, rfl⟩
theorem zd_M_test_14 : decode zb_M_test 14 = .ok (.aload_n 0, 1) ∧ 14 + 1 = 15 := ⟨by decide +kernel, rfl⟩
theorem zd_M_test_15 : decode zb_M_test 15 = .ok (.getfield 118, 3) ∧ 15 + 3 = 18 := ⟨by decide +kernel, rfl⟩
theorem zd_M_test_18 : decode zb_M_test 18 = .ok (.imul, 1) ∧ 18 + 1 = 19 := ⟨by decide +kernel, rfl⟩
theorem zd_M_test_19 : decode zb_M_test 19 = .ok (.iload_n 1, 1) ∧ 19 + 1 = 20 := ⟨by decide +kernel, rfl⟩
theorem zd_M_test_20 : decode zb_M_test 20 = .ok (.iadd, 1) ∧ 20 + 1 = 21 := ⟨by decide +kernel, rfl⟩
theorem zd_M_test_21 : decode zb_M_test 21 = .ok (.aload_n 0, 1) ∧ 21 + 1 = 22 := ⟨by decide +kernel, rfl⟩
theorem zd_M_test_22 : decode zb_M_test 22 = .ok (.getfield 115, 3) ∧ 22 + 3 = 25 := ⟨by decide +kernel, rfl⟩
theorem zd_M_test_25 : decode zb_M_test 25 = .ok (.iastore, 1) ∧ 25 + 1 = 26 := ⟨by decide +kernel, rfl⟩
theorem zd_M_test_26 : decode zb_M_test 26 = .ok (.aload_n 0, 1) ∧ 26 + 1 = 27 := ⟨by decide +kernel, rfl⟩
theorem zd_M_test_27 : decode zb_M_test 27 = .ok (.iconst 0, 1) ∧ 27 + 1 = 28 := ⟨by decide +kernel, rfl⟩
theorem zd_M_test_28 : decode zb_M_test 28 = .ok (.putfield 131, 3) ∧ 28 + 3 = 31 := ⟨by decide +kernel, rfl⟩
theorem zd_M_test_31 : decode zb_M_test 31 = .ok (.aload_n 0, 1) ∧ 31 + 1 = 32 := ⟨by decide +kernel, rfl⟩
theorem zd_M_test_32 : decode zb_M_test 32 = .ok (.iconst 0, 1) ∧ 32 + 1 = 33 := ⟨by decide +kernel, rfl⟩
theorem zd_M_test_33 : decode zb_M_test 33 = .ok (.putfield 134, 3) ∧ 33 + 3 = 36 := ⟨by decide +kernel, rfl⟩
theorem zd_M_test_36 : decode zb_M_test 36 = .ok (.aload_n 0, 1) ∧ 36 + 1 = 37 := ⟨by decide +kernel, rfl⟩
theorem zd_M_test_37 : decode zb_M_test 37 = .ok (.iconst 0, 1) ∧ 37 + 1 = 38 := ⟨by decide +kernel, rfl⟩
theorem zd_M_test_38 : decode zb_M_test 38 = .ok (.putfield 137, 3) ∧ 38 + 3 = 41 := ⟨by decide +kernel, rfl⟩
theorem zd_M_test_41 : decode zb_M_test 41 = .ok (.aload_n 0, 1) ∧ 41 + 1 = 42 := ⟨by decide +kernel, rfl⟩
theorem zd_M_test_42 : decode zb_M_test 42 = .ok (.iconst 0, 1) ∧ 42 + 1 = 43 := ⟨by decide +kernel, rfl⟩
theorem zd_M_test_43 : decode zb_M_test 43 = .ok (.invokevirtual 324, 3) ∧ 43 + 3 = 46 := ⟨by decide +kernel, rfl⟩
theorem zd_M_test_46 : decode zb_M_test 46 = .ok (.iconst 1, 1) ∧ 46 + 1 = 47 := ⟨by decide +kernel, rfl⟩
theorem zd_M_test_47 : decode zb_M_test 47 = .ok (.istore_n 2, 1) ∧ 47 + 1 = 48 := ⟨by decide +kernel, rfl⟩
theorem zd_M_test_48 : decode zb_M_test 48 = .ok (.aload_n 0, 1) ∧ 48 + 1 = 49 := ⟨by decide +kernel, rfl⟩
theorem zd_M_test_49 : decode zb_M_test 49 = .ok (.getfield 42, 3) ∧ 49 + 3 = 52 := ⟨by decide +kernel, rfl⟩
theorem zd_M_test_52 : decode zb_M_test 52 = .ok (.ifCond .ne 29, 3) ∧ ((52 : Nat) : Int) + (29) = ((81 : Nat) : Int) ∧ 52 + 3 = 55 := ⟨by decide +kernel, by decide, rfl⟩
theorem zd_M_test_55 : decode zb_M_test 55 = .ok (.iload_n 2, 1) ∧ 55 + 1 = 56 := ⟨by decide +kernel, rfl⟩
theorem zd_M_test_56 : decode zb_M_test 56 = .ok (.ifCond .eq 25, 3) ∧ ((56 : Nat) : Int) + (25) = ((81 : Nat) : Int) ∧ 56 + 3 = 59 := ⟨by decide +kernel, by decide, rfl⟩
theorem zd_M_test_59 : decode zb_M_test 59 = .ok (.aload_n 0, 1) ∧ 59 + 1 = 60 := ⟨by decide +kernel, rfl⟩
theorem zd_M_test_60 : decode zb_M_test 60 = .ok (.getfield 137, 3) ∧ 60 + 3 = 63 := ⟨by decide +kernel, rfl⟩
theorem zd_M_test_63 : decode zb_M_test 63 = .ok (.ifCond .eq 11, 3) ∧ ((63 : Nat) : Int) + (11) = ((74 : Nat) : Int) ∧ 63 + 3 = 66 := ⟨by decide +kernel, by decide, rfl⟩
theorem zd_M_test_66 : decode zb_M_test 66 = .ok (.aload_n 0, 1) ∧ 66 + 1 = 67 := ⟨by decide +kernel, rfl⟩
theorem zd_M_test_67 : decode zb_M_test 67 = .ok (.invokevirtual 348, 3) ∧ 67 + 3 = 70 := ⟨by decide +kernel, rfl⟩
theorem zd_M_test_70 : decode zb_M_test 70 = .ok (.istore_n 2, 1) ∧ 70 + 1 = 71 := ⟨by decide +kernel, rfl⟩
theorem zd_M_test_71 : decode zb_M_test 71 = .ok (.goto (-23), 3) ∧ ((71 : Nat) : Int) + (-23) = ((48 : Nat) : Int) ∧ 71 + 3 = 74 := ⟨by decide +kernel, by decide, rfl⟩
theorem zd_M_test_74 : decode zb_M_test 74 = .ok (.aload_n 0, 1) ∧ 74 + 1 = 75 := ⟨by decide +kernel, rfl⟩
theorem zd_M_test_75 : decode zb_M_test 75 = .ok (.invokevirtual 352, 3) ∧ 75 + 3 = 78 := ⟨by decide +kernel, rfl⟩
theorem zd_M_test_78 : decode zb_M_test 78 = .ok (.goto (-30), 3) ∧ ((78 : Nat) : Int) + (-30) = ((48 : Nat) : Int) ∧ 78 + 3 = 81 := ⟨by decide +kernel, by decide, rfl⟩
theorem zd_M_test_81 : decode zb_M_test 81 = .ok (.aload_n 0, 1) ∧ 81 + 1 = 82 := ⟨by decide +kernel, rfl⟩
theorem zd_M_test_82 : decode zb_M_test 82 = .ok (.getfield 97, 3) ∧ 82 + 3 = 85 := ⟨by decide +kernel, rfl⟩
theorem zd_M_test_85 : decode zb_M_test 85 = .ok (.bipush 6, 2) ∧ 85 + 2 = 87 := ⟨by decide +kernel, rfl⟩
theorem zd_M_test_87 : decode zb_M_test 87 = .ok (.aload_n 0, 1) ∧ 87 + 1 = 88 := ⟨by decide +kernel, rfl⟩
theorem zd_M_test_88 : decode zb_M_test 88 = .ok (.getfield 118, 3) ∧ 88 + 3 = 91 := ⟨by decide +kernel, rfl⟩
theorem zd_M_test_91 : decode zb_M_test 91 = .ok (.imul, 1) ∧ 91 + 1 = 92 := ⟨by decide +kernel, rfl⟩
theorem zd_M_test_92 : decode zb_M_test 92 = .ok (.iload_n 1, 1) ∧ 92 + 1 = 93 := ⟨by decide +kernel, rfl⟩
theorem zd_M_test_93 : decode zb_M_test 93 = .ok (.iadd, 1) ∧ 93 + 1 = 94 := ⟨by decide +kernel, rfl⟩
theorem zd_M_test_94 : decode zb_M_test 94 = .ok (.aload_n 0, 1) ∧ 94 + 1 = 95 := ⟨by decide +kernel, rfl⟩
theorem zd_M_test_95 : decode zb_M_test 95 = .ok (.getfield 115, 3) ∧ 95 + 3 = 98 := ⟨by decide +kernel, rfl⟩
theorem zd_M_test_98 : decode zb_M_test 98 = .ok (.iastore, 1) ∧ 98 + 1 = 99 := ⟨by decide +kernel, rfl⟩
theorem zd_M_test_99 : decode zb_M_test 99 = .ok (.return_, 1) ∧ 99 + 1 = 100 := ⟨by decide +kernel, rfl⟩
theorem zd_M_sizes_0 : decode zb_M_sizes 0 = .ok (.aload_n 0, 1) ∧ 0 + 1 = 1 := ⟨by decide +kernel, rfl⟩
theorem zd_M_sizes_1 : decode zb_M_sizes 1 = .ok (.ldc2_w 238, 3) ∧ 1 + 3 = 4 := ⟨by decide +kernel, rfl⟩
theorem zd_M_sizes_4 : decode zb_M_sizes 4 = .ok (.invokevirtual 314, 3) ∧ 4 + 3 = 7 := ⟨by decide +kernel, rfl⟩
theorem zd_M_sizes_7 : decode zb_M_sizes 7 = .ok (.ifCond .ne 12, 3) ∧ ((7 : Nat) : Int) + (12) = ((19 : Nat) : Int) ∧ 7 + 3 = 10 := ⟨by decide +kernel, by decide, rfl⟩
theorem zd_M_sizes_10 : decode zb_M_sizes 10 = .ok (.aload_n 0, 1) ∧ 10 + 1 = 11 := ⟨by decide +kernel, rfl⟩
theorem zd_M_sizes_11 : decode zb_M_sizes 11 = .ok (.iconst 1, 1) ∧ 11 + 1 = 12 := ⟨by decide +kernel, rfl⟩
theorem zd_M_sizes_12 : decode zb_M_sizes 12 = .ok (.aload_n 0, 1) ∧ 12 + 1 = 13 := ⟨by decide +kernel, rfl⟩
theorem zd_M_sizes_13 : decode zb_M_sizes 13 = .ok (.getfield 26, 3) ∧ 13 + 3 = 16 := ⟨by decide +kernel, rfl⟩
theorem zd_M_sizes_16 : decode zb_M_sizes 16 = .ok (.invokevirtual 295, 3) ∧ 16 + 3 = 19 := ⟨by decide +kernel, rfl⟩
theorem zd_M_sizes_19 : decode zb_M_sizes 19 = .ok (.aload_n 0, 1) ∧ 19 + 1 = 20 := ⟨by decide +kernel, rfl⟩
theorem zd_M_sizes_20 : decode zb_M_sizes 20 = .ok (.getfield 42, 3) ∧ 20 + 3 = 23 := ⟨by decide +kernel, rfl⟩
theorem zd_M_sizes_23 : decode zb_M_sizes 23 = .ok (.ifCond .le 4, 3) ∧ ((23 : Nat) : Int) + (4) = ((27 : Nat) : Int) ∧ 23 + 3 = 26 := ⟨by decide +kernel, by decide, rfl⟩
theorem zd_M_sizes_26 : decode zb_M_sizes 26 = .ok (.return_, 1) ∧ 26 + 1 = 27 := ⟨by decide +kernel, rfl⟩
theorem zd_M_sizes_27 : decode zb_M_sizes 27 = .ok (.aload_n 0, 1) ∧ 27 + 1 = 28 := ⟨by decide +kernel, rfl⟩
theorem zd_M_sizes_28 : decode zb_M_sizes 28 = .ok (.invokevirtual 317, 3) ∧ 28 + 3 = 31 := ⟨by decide +kernel, rfl⟩
theorem zd_M_sizes_31 : decode zb_M_sizes 31 = .ok (.aload_n 0, 1) ∧ 31 + 1 = 32 := ⟨by decide +kernel, rfl⟩
theorem zd_M_sizes_32 : decode zb_M_sizes 32 = .ok (.getfield 54, 3) ∧ 32 + 3 = 35 := ⟨by decide +kernel, rfl⟩
theorem zd_M_sizes_35 : decode zb_M_sizes 35 = .ok (.aload_n 0, 1) ∧ 35 + 1 = 36 := ⟨by decide +kernel, rfl⟩
theorem zd_M_sizes_36 : decode zb_M_sizes 36 = .ok (.getfield 118, 3) ∧ 36 + 3 = 39 := ⟨by decide +kernel, rfl⟩
theorem zd_M_sizes_39 : decode zb_M_sizes 39 = .ok (.aload_n 0, 1) ∧ 39 + 1 = 40 := ⟨by decide +kernel, rfl⟩
theorem zd_M_sizes_40 : decode zb_M_sizes 40 = .ok (.iconst 2, 1) ∧ 40 + 1 = 41 := ⟨by decide +kernel, rfl⟩
theorem zd_M_sizes_41 : decode zb_M_sizes 41 = .ok (.bipush 12, 2) ∧ 41 + 2 = 43 := ⟨by decide +kernel, rfl⟩
theorem zd_M_sizes_43 : decode zb_M_sizes 43 = .ok (.invokevirtual 355, 3) ∧ 43 + 3 = 46 := ⟨by decide +kernel, rfl⟩
theorem zd_M_sizes_46 : decode zb_M_sizes 46 = .ok (.iastore, 1) ∧ 46 + 1 = 47 := ⟨by decide +kernel, rfl⟩
theorem zd_M_sizes_47 : decode zb_M_sizes 47 = .ok (.aload_n 0, 1) ∧ 47 + 1 = 48 := ⟨by decide +kernel, rfl⟩
theorem zd_M_sizes_48 : decode zb_M_sizes 48 = .ok (.getfield 57, 3) ∧ 48 + 3 = 51 := ⟨by decide +kernel, rfl⟩
theorem zd_M_sizes_51 : decode zb_M_sizes 51 = .ok (.aload_n 0, 1) ∧ 51 + 1 = 52 := ⟨by decide +kernel, rfl⟩
theorem zd_M_sizes_52 : decode zb_M_sizes 52 = .ok (.getfield 118, 3) ∧ 52 + 3 = 55 := ⟨by decide +kernel, rfl⟩
theorem zd_M_sizes_55 : decode zb_M_sizes 55 = .ok (.aload_n 0, 1) ∧ 55 + 1 = 56 := ⟨by decide +kernel, rfl⟩
theorem zd_M_sizes_56 : decode zb_M_sizes 56 = .ok (.iconst 2, 1) ∧ 56 + 1 = 57 := ⟨by decide +kernel, rfl⟩
theorem zd_M_sizes_57 : decode zb_M_sizes 57 = .ok (.bipush 12, 2) ∧ 57 + 2 = 59 := ⟨by decide +kernel, rfl⟩
theorem zd_M_sizes_59 : decode zb_M_sizes 59 = .ok (.invokevirtual 355, 3) ∧ 59 + 3 = 62 := ⟨by decide +kernel, rfl⟩
theorem zd_M_sizes_62 : decode zb_M_sizes 62 = .ok (.iastore, 1) ∧ 62 + 1 = 63 := ⟨by decide +kernel, rfl⟩
theorem zd_M_sizes_63 : decode zb_M_sizes 63 = .ok (.aload_n 0, 1) ∧ 63 + 1 = 64 := ⟨by decide +kernel, rfl⟩
theorem zd_M_sizes_64 : decode zb_M_sizes 64 = .ok (.invokevirtual 359, 3) ∧ 64 + 3 = 67 := ⟨by decide +kernel, rfl⟩
theorem zd_M_sizes_67 : decode zb_M_sizes 67 = .ok (.return_, 1) ∧ 67 + 1 = 68 := ⟨by decide +kernel, rfl⟩
theorem zd_M_place_0 : decode zb_M_place 0 = .ok (.aload_n 0, 1) ∧ 0 + 1 = 1 := ⟨by decide +kernel, rfl⟩
theorem zd_M_place_1 : decode zb_M_place 1 = .ok (.ldc2_w 258, 3) ∧ 1 + 3 = 4 := ⟨by decide +kernel, rfl⟩
theorem zd_M_place_4 : decode zb_M_place 4 = .ok (.invokevirtual 336, 3) ∧ 4 + 3 = 7 := ⟨by decide +kernel, rfl⟩
theorem zd_M_place_7 : decode zb_M_place 7 = .ok (.aload_n 0, 1) ∧ 7 + 1 = 8 := ⟨by decide +kernel, rfl⟩
theorem zd_M_place_8 : decode zb_M_place 8 = .ok (.getfield 42, 3) ∧ 8 + 3 = 11 := ⟨by decide +kernel, rfl⟩
theorem zd_M_place_11 : decode zb_M_place 11 = .ok (.ifCond .le 4, 3) ∧ ((11 : Nat) : Int) + (4) = ((15 : Nat) : Int) ∧ 11 + 3 = 14 := ⟨by decide +kernel, by decide, rfl⟩
theorem zd_M_place_14 : decode zb_M_place 14 = .ok (.return_, 1) ∧ 14 + 1 = 15 := ⟨by decide +kernel, rfl⟩
theorem zd_M_place_15 : decode zb_M_place 15 = .ok (.aload_n 0, 1) ∧ 15 + 1 = 16 := ⟨by decide +kernel, rfl⟩
theorem zd_M_place_16 : decode zb_M_place 16 = .ok (.getfield 26, 3) ∧ 16 + 3 = 19 := ⟨by decide +kernel, rfl⟩
theorem zd_M_place_19 : decode zb_M_place 19 = .ok (.istore 5, 2) ∧ 19 + 2 = 21 := ⟨by decide +kernel, rfl⟩
theorem zd_M_place_21 : decode zb_M_place 21 = .ok (.aload_n 0, 1) ∧ 21 + 1 = 22 := ⟨by decide +kernel, rfl⟩
theorem zd_M_place_22 : decode zb_M_place 22 = .ok (.iconst 0, 1) ∧ 22 + 1 = 23 := ⟨by decide +kernel, rfl⟩
theorem zd_M_place_23 : decode zb_M_place 23 = .ok (.aload_n 0, 1) ∧ 23 + 1 = 24 := ⟨by decide +kernel, rfl⟩
theorem zd_M_place_24 : decode zb_M_place 24 = .ok (.getfield 54, 3) ∧ 24 + 3 = 27 := ⟨by decide +kernel, rfl⟩
theorem zd_M_place_27 : decode zb_M_place 27 = .ok (.aload_n 0, 1) ∧ 27 + 1 = 28 := ⟨by decide +kernel, rfl⟩
theorem zd_M_place_28 : decode zb_M_place 28 = .ok (.getfield 118, 3) ∧ 28 + 3 = 31 := ⟨by decide +kernel, rfl⟩
theorem zd_M_place_31 : decode zb_M_place 31 = .ok (.iaload, 1) ∧ 31 + 1 = 32 := ⟨by decide +kernel, rfl⟩
theorem zd_M_place_32 : decode zb_M_place 32 = .ok (.iconst 1, 1) ∧ 32 + 1 = 33 := ⟨by decide +kernel, rfl⟩
theorem zd_M_place_33 : decode zb_M_place 33 = .ok (.isub, 1) ∧ 33 + 1 = 34 := ⟨by decide +kernel, rfl⟩
theorem zd_M_place_34 : decode zb_M_place 34 = .ok (.invokevirtual 355, 3) ∧ 34 + 3 = 37 := ⟨by decide +kernel, rfl⟩
theorem zd_M_place_37 : decode zb_M_place 37 = .ok (.istore 6, 2) ∧ 37 + 2 = 39 := ⟨by decide +kernel, rfl⟩
theorem zd_M_place_39 : decode zb_M_place 39 = .ok (.aload_n 0, 1) ∧ 39 + 1 = 40 := ⟨by decide +kernel, rfl⟩
theorem zd_M_place_40 : decode zb_M_place 40 = .ok (.getfield 42, 3) ∧ 40 + 3 = 43 := ⟨by decide +kernel, rfl⟩
theorem zd_M_place_43 : decode zb_M_place 43 = .ok (.ifCond .ne 20, 3) ∧ ((43 : Nat) : Int) + (20) = ((63 : Nat) : Int) ∧ 43 + 3 = 46 := ⟨by decide +kernel, by decide, rfl⟩
theorem zd_M_place_46 : decode zb_M_place 46 = .ok (.aload_n 0, 1) ∧ 46 + 1 = 47 := ⟨by decide +kernel, rfl⟩
theorem zd_M_place_47 : decode zb_M_place 47 = .ok (.getfield 32, 3) ∧ 47 + 3 = 50 := ⟨by decide +kernel, rfl⟩
theorem zd_M_place_50 : decode zb_M_place 50 = .ok (.iconst 2, 1) ∧ 50 + 1 = 51 := ⟨by decide +kernel, rfl⟩
theorem zd_M_place_51 : decode zb_M_place 51 = .ok (.if_icmp .eq 12, 3) ∧ ((51 : Nat) : Int) + (12) = ((63 : Nat) : Int) ∧ 51 + 3 = 54 := ⟨by decide +kernel, by decide, rfl⟩
theorem zd_M_place_54 : decode zb_M_place 54 = .ok (.aload_n 0, 1) ∧ 54 + 1 = 55 := ⟨by decide +kernel, rfl⟩
theorem zd_M_place_55 : decode zb_M_place 55 = .ok (.iconst 1, 1) ∧ 55 + 1 = 56 := ⟨by decide +kernel, rfl⟩
theorem zd_M_place_56 : decode zb_M_place 56 = .ok (.aload_n 0, 1) ∧ 56 + 1 = 57 := ⟨by decide +kernel, rfl⟩
theorem zd_M_place_57 : decode zb_M_place 57 = .ok (.getfield 26, 3) ∧ 57 + 3 = 60 := ⟨by decide +kernel, rfl⟩
theorem zd_M_place_60 : decode zb_M_place 60 = .ok (.invokevirtual 295, 3) ∧ 60 + 3 = 63 := ⟨by decide +kernel, rfl⟩
theorem zd_M_place_63 : decode zb_M_place 63 = .ok (.aload_n 0, 1) ∧ 63 + 1 = 64 := ⟨by decide +kernel, rfl⟩
theorem zd_M_place_64 : decode zb_M_place 64 = .ok (.getfield 42, 3) ∧ 64 + 3 = 67 := ⟨by decide +kernel, rfl⟩
theorem zd_M_place_67 : decode zb_M_place 67 = .ok (.ifCond .ne 34, 3) ∧ ((67 : Nat) : Int) + (34) = ((101 : Nat) : Int) ∧ 67 + 3 = 70 := ⟨by decide +kernel, by decide, rfl⟩
theorem zd_M_place_70 : decode zb_M_place 70 = .ok (.aload_n 0, 1) ∧ 70 + 1 = 71 := ⟨by decide +kernel, rfl⟩
theorem zd_M_place_71 : decode zb_M_place 71 = .ok (.getfield 39, 3) ∧ 71 + 3 = 74 := ⟨by decide +kernel, rfl⟩
theorem zd_M_place_74 : decode zb_M_place 74 = .ok (.iconst 0, 1) ∧ 74 + 1 = 75 := ⟨by decide +kernel, rfl⟩
theorem zd_M_place_75 : decode zb_M_place 75 = .ok (.aload_n 0, 1) ∧ 75 + 1 = 76 := ⟨by decide +kernel, rfl⟩
theorem zd_M_place_76 : decode zb_M_place 76 = .ok (.getfield 57, 3) ∧ 76 + 3 = 79 := ⟨by decide +kernel, rfl⟩
theorem zd_M_place_79 : decode zb_M_place 79 = .ok (.aload_n 0, 1) ∧ 79 + 1 = 80 := ⟨by decide +kernel, rfl⟩
theorem zd_M_place_80 : decode zb_M_place 80 = .ok (.getfield 118, 3) ∧ 80 + 3 = 83 := ⟨by decide +kernel, rfl⟩
theorem zd_M_place_83 : decode zb_M_place 83 = .ok (.iaload, 1) ∧ 83 + 1 = 84 := ⟨by decide +kernel, rfl⟩
theorem zd_M_place_84 : decode zb_M_place 84 = .ok (.iconst 1, 1) ∧ 84 + 1 = 85 := ⟨by decide +kernel, rfl⟩
theorem zd_M_place_85 : decode zb_M_place 85 = .ok (.isub, 1) ∧ 85 + 1 = 86 := ⟨by decide +kernel, rfl⟩
theorem zd_M_place_86 : decode zb_M_place 86 = .ok (.invokestatic 320, 3) ∧ 86 + 3 = 89 := ⟨by decide +kernel, rfl⟩
theorem zd_M_place_89 : decode zb_M_place 89 = .ok (.ifCond .ne 12, 3) ∧ ((89 : Nat) : Int) + (12) = ((101 : Nat) : Int) ∧ 89 + 3 = 92 := ⟨by decide +kernel, by decide, rfl⟩
theorem zd_M_place_92 : decode zb_M_place 92 = .ok (.aload_n 0, 1) ∧ 92 + 1 = 93 := ⟨by decide +kernel, rfl⟩
theorem zd_M_place_93 : decode zb_M_place 93 = .ok (.iconst 2, 1) ∧ 93 + 1 = 94 := ⟨by decide +kernel, rfl⟩
theorem zd_M_place_94 : decode zb_M_place 94 = .ok (.aload_n 0, 1) ∧ 94 + 1 = 95 := ⟨by decide +kernel, rfl⟩
theorem zd_M_place_95 : decode zb_M_place 95 = .ok (.getfield 26, 3) ∧ 95 + 3 = 98 := ⟨by decide +kernel, rfl⟩
theorem zd_M_place_98 : decode zb_M_place 98 = .ok (.invokevirtual 295, 3) ∧ 98 + 3 = 101 := ⟨by decide +kernel, rfl⟩
theorem zd_M_place_101 : decode zb_M_place 101 = .ok (.aload_n 0, 1) ∧ 101 + 1 = 102 := ⟨by decide +kernel, rfl⟩
theorem zd_M_place_102 : decode zb_M_place 102 = .ok (.getfield 42, 3) ∧ 102 + 3 = 105 := ⟨by decide +kernel, rfl⟩
theorem zd_M_place_105 : decode zb_M_place 105 = .ok (.ifCond .le 4, 3) ∧ ((105 : Nat) : Int) + (4) = ((109 : Nat) : Int) ∧ 105 + 3 = 108 := ⟨by decide +kernel, by decide, rfl⟩
theorem zd_M_place_108 : decode zb_M_place 108 = .ok (.return_, 1) ∧ 108 + 1 = 109 := ⟨by decide +kernel, rfl⟩
theorem zd_M_place_109 : decode zb_M_place 109 = .ok (.aload_n 0, 1) ∧ 109 + 1 = 110 := ⟨by decide +kernel, rfl⟩
theorem zd_M_place_110 : decode zb_M_place 110 = .ok (.getfield 39, 3) ∧ 110 + 3 = 113 := ⟨by decide +kernel, rfl⟩
theorem zd_M_place_113 : decode zb_M_place 113 = .ok (.istore 7, 2) ∧ 113 + 2 = 115 := ⟨by decide +kernel, rfl⟩
theorem zd_M_place_115 : decode zb_M_place 115 = .ok (.sipush 144, 3) ∧ 115 + 3 = 118 := ⟨by decide +kernel, rfl⟩
theorem zd_M_place_118 : decode zb_M_place 118 = .ok (.aload_n 0, 1) ∧ 118 + 1 = 119 := ⟨by decide +kernel, rfl⟩
theorem zd_M_place_119 : decode zb_M_place 119 = .ok (.getfield 118, 3) ∧ 119 + 3 = 122 := ⟨by decide +kernel, rfl⟩
theorem zd_M_place_122 : decode zb_M_place 122 = .ok (.imul, 1) ∧ 122 + 1 = 123 := ⟨by decide +kernel, rfl⟩
theorem zd_M_place_123 : decode zb_M_place 123 = .ok (.bipush 12, 2) ∧ 123 + 2 = 125 := ⟨by decide +kernel, rfl⟩
theorem zd_M_place_125 : decode zb_M_place 125 = .ok (.iload 7, 2) ∧ 125 + 2 = 127 := ⟨by decide +kernel, rfl⟩
theorem zd_M_place_127 : decode zb_M_place 127 = .ok (.imul, 1) ∧ 127 + 1 = 128 := ⟨by decide +kernel, rfl⟩
theorem zd_M_place_128 : decode zb_M_place 128 = .ok (.iadd, 1) ∧ 128 + 1 = 129 := ⟨by decide +kernel, rfl⟩
theorem zd_M_place_129 : decode zb_M_place 129 = .ok (.iload 6, 2) ∧ 129 + 2 = 131 := ⟨by decide +kernel, rfl⟩
theorem zd_M_place_131 : decode zb_M_place 131 = .ok (.iadd, 1) ∧ 131 + 1 = 132 := ⟨by decide +kernel, rfl⟩
theorem zd_M_place_132 : decode zb_M_place 132 = .ok (.istore 8, 2) ∧ 132 + 2 = 134 := ⟨by decide +kernel, rfl⟩
theorem zd_M_place_134 : decode zb_M_place 134 = .ok (.aload_n 0, 1) ∧ 134 + 1 = 135 := ⟨by decide +kernel, rfl⟩
theorem zd_M_place_135 : decode zb_M_place 135 = .ok (.getfield 75, 3) ∧ 135 + 3 = 138 := ⟨by decide +kernel, rfl⟩
theorem zd_M_place_138 : decode zb_M_place 138 = .ok (.iload 8, 2) ∧ 138 + 2 = 140 := ⟨by decide +kernel, rfl⟩
theorem zd_M_place_140 : decode zb_M_place 140 = .ok (.iaload, 1) ∧ 140 + 1 = 141 := ⟨by decide +kernel, rfl⟩
theorem zd_M_place_141 : decode zb_M_place 141 = .ok (.ifCond .eq 10, 3) ∧ ((141 : Nat) : Int) + (10) = ((151 : Nat) : Int) ∧ 141 + 3 = 144 := ⟨by decide +kernel, by decide, rfl⟩
theorem zd_M_place_144 : decode zb_M_place 144 = .ok (.aload_n 0, 1) ∧ 144 + 1 = 145 := ⟨by decide +kernel, rfl⟩
theorem zd_M_place_145 : decode zb_M_place 145 = .ok (.iconst 3, 1) ∧ 145 + 1 = 146 := ⟨by decide +kernel, rfl⟩
theorem zd_M_place_146 : decode zb_M_place 146 = .ok (.iload 5, 2) ∧ 146 + 2 = 148 := ⟨by decide +kernel, rfl⟩
theorem zd_M_place_148 : decode zb_M_place 148 = .ok (.invokevirtual 295, 3) ∧ 148 + 3 = 151 := ⟨by decide +kernel, rfl⟩
theorem zd_M_place_151 : decode zb_M_place 151 = .ok (.aload_n 0, 1) ∧ 151 + 1 = 152 := ⟨by decide +kernel, rfl⟩
theorem zd_M_place_152 : decode zb_M_place 152 = .ok (.getfield 42, 3) ∧ 152 + 3 = 155 := ⟨by decide +kernel, rfl⟩
theorem zd_M_place_155 : decode zb_M_place 155 = .ok (.ifCond .le 4, 3) ∧ ((155 : Nat) : Int) + (4) = ((159 : Nat) : Int) ∧ 155 + 3 = 158 := ⟨by decide +kernel, by decide, rfl⟩
theorem zd_M_place_158 : decode zb_M_place 158 = .ok (.return_, 1) ∧ 158 + 1 = 159 := ⟨by decide +kernel, rfl⟩
theorem zd_M_place_159 : decode zb_M_place 159 = .ok (.aload_n 0, 1) ∧ 159 + 1 = 160 := ⟨by decide +kernel, rfl⟩
theorem zd_M_place_160 : decode zb_M_place 160 = .ok (.invokevirtual 317, 3) ∧ 160 + 3 = 163 := ⟨by decide +kernel, rfl⟩
theorem zd_M_place_163 : decode zb_M_place 163 = .ok (.aload_n 0, 1) ∧ 163 + 1 = 164 := ⟨by decide +kernel, rfl⟩
theorem zd_M_place_164 : decode zb_M_place 164 = .ok (.getfield 75, 3) ∧ 164 + 3 = 167 := ⟨by decide +kernel, rfl⟩
theorem zd_M_place_167 : decode zb_M_place 167 = .ok (.iload 8, 2) ∧ 167 + 2 = 169 := ⟨by decide +kernel, rfl⟩
theorem zd_M_place_169 : decode zb_M_place 169 = .ok (.iload_n 1, 1) ∧ 169 + 1 = 170 := ⟨by decide +kernel, rfl⟩
theorem zd_M_place_170 : decode zb_M_place 170 = .ok (.iastore, 1) ∧ 170 + 1 = 171 := ⟨by decide +kernel, rfl⟩
theorem zd_M_place_171 : decode zb_M_place 171 = .ok (.aload_n 0, 1) ∧ 171 + 1 = 172 := ⟨by decide +kernel, rfl⟩
theorem zd_M_place_172 : decode zb_M_place 172 = .ok (.getfield 78, 3) ∧ 172 + 3 = 175 := ⟨by decide +kernel, rfl⟩
theorem zd_M_place_175 : decode zb_M_place 175 = .ok (.iload 8, 2) ∧ 175 + 2 = 177 := ⟨by decide +kernel, rfl⟩
theorem zd_M_place_177 : decode zb_M_place 177 = .ok (.iload_n 2, 1) ∧ 177 + 1 = 178 := ⟨by decide +kernel, rfl⟩
theorem zd_M_place_178 : decode zb_M_place 178 = .ok (.iastore, 1) ∧ 178 + 1 = 179 := ⟨by decide +kernel, rfl⟩
theorem zd_M_place_179 : decode zb_M_place 179 = .ok (.aload_n 0, 1) ∧ 179 + 1 = 180 := ⟨by decide +kernel, rfl⟩
theorem zd_M_place_180 : decode zb_M_place 180 = .ok (.getfield 81, 3) ∧ 180 + 3 = 183 := ⟨by decide +kernel, rfl⟩
theorem zd_M_place_183 : decode zb_M_place 183 = .ok (.iload 8, 2) ∧ 183 + 2 = 185 := ⟨by decide +kernel, rfl⟩
theorem zd_M_place_185 : decode zb_M_place 185 = .ok (.iload_n 3, 1) ∧ 185 + 1 = 186 := ⟨by decide +kernel, rfl⟩
theorem zd_M_place_186 : decode zb_M_place 186 = .ok (.iastore, 1) ∧ 186 + 1 = 187 := ⟨by decide +kernel, rfl⟩
theorem zd_M_place_187 : decode zb_M_place 187 = .ok (.aload_n 0, 1) ∧ 187 + 1 = 188 := ⟨by decide +kernel, rfl⟩
theorem zd_M_place_188 : decode zb_M_place 188 = .ok (.getfield 84, 3) ∧ 188 + 3 = 191 := ⟨by decide +kernel, rfl⟩
theorem zd_M_place_191 : decode zb_M_place 191 = .ok (.iload 8, 2) ∧ 191 + 2 = 193 := ⟨by decide +kernel, rfl⟩
theorem zd_M_place_193 : decode zb_M_place 193 = .ok (.iload 4, 2) ∧ 193 + 2 = 195 := ⟨by decide +kernel, rfl⟩
theorem zd_M_place_195 : decode zb_M_place 195 = .ok (.iastore, 1) ∧ 195 + 1 = 196 := ⟨by decide +kernel, rfl⟩
theorem zd_M_place_196 : decode zb_M_place 196 = .ok (.aload_n 0, 1) ∧ 196 + 1 = 197 := ⟨by decide +kernel, rfl⟩
theorem zd_M_place_197 : decode zb_M_place 197 = .ok (.getfield 60, 3) ∧ 197 + 3 = 200 := ⟨by decide +kernel, rfl⟩
theorem zd_M_place_200 : decode zb_M_place 200 = .ok (.aload_n 0, 1) ∧ 200 + 1 = 201 := ⟨by decide +kernel, rfl⟩
theorem zd_M_place_201 : decode zb_M_place 201 = .ok (.getfield 118, 3) ∧ 201 + 3 = 204 := ⟨by decide +kernel, rfl⟩
theorem zd_M_place_204 : decode zb_M_place 204 = .ok (.dup2, 1) ∧ 204 + 1 = 205 := ⟨by decide +kernel, rfl⟩
theorem zd_M_place_205 : decode zb_M_place 205 = .ok (.iaload, 1) ∧ 205 + 1 = 206 := ⟨by decide +kernel, rfl⟩
theorem zd_M_place_206 : decode zb_M_place 206 = .ok (.iconst 1, 1) ∧ 206 + 1 = 207 := ⟨by decide +kernel, rfl⟩
theorem zd_M_place_207 : decode zb_M_place 207 = .ok (.iadd, 1) ∧ 207 + 1 = 208 := ⟨by decide +kernel, rfl⟩
theorem zd_M_place_208 : decode zb_M_place 208 = .ok (.iastore, 1) ∧ 208 + 1 = 209 := ⟨by decide +kernel, rfl⟩
theorem zd_M_place_209 : decode zb_M_place 209 = .ok (.iload_n 1, 1) ∧ 209 + 1 = 210 := ⟨by decide +kernel, rfl⟩
theorem zd_M_place_210 : decode zb_M_place 210 = .ok (.bipush 7, 2) ∧ 210 + 2 = 212 := ⟨by decide +kernel, rfl⟩
theorem zd_M_place_212 : decode zb_M_place 212 = .ok (.if_icmp .ne 25, 3) ∧ ((212 : Nat) : Int) + (25) = ((237 : Nat) : Int) ∧ 212 + 3 = 215 := ⟨by decide +kernel, by decide, rfl⟩
theorem zd_M_place_215 : decode zb_M_place 215 = .ok (.aload_n 0, 1) ∧ 215 + 1 = 216 := ⟨by decide +kernel, rfl⟩
theorem zd_M_place_216 : decode zb_M_place 216 = .ok (.getfield 91, 3) ∧ 216 + 3 = 219 := ⟨by decide +kernel, rfl⟩
theorem zd_M_place_219 : decode zb_M_place 219 = .ok (.bipush 8, 2) ∧ 219 + 2 = 221 := ⟨by decide +kernel, rfl⟩
theorem zd_M_place_221 : decode zb_M_place 221 = .ok (.aload_n 0, 1) ∧ 221 + 1 = 222 := ⟨by decide +kernel, rfl⟩
theorem zd_M_place_222 : decode zb_M_place 222 = .ok (.getfield 118, 3) ∧ 222 + 3 = 225 := ⟨by decide +kernel, rfl⟩
theorem zd_M_place_225 : decode zb_M_place 225 = .ok (.imul, 1) ∧ 225 + 1 = 226 := ⟨by decide +kernel, rfl⟩
theorem zd_M_place_226 : decode zb_M_place 226 = .ok (.iload_n 2, 1) ∧ 226 + 1 = 227 := ⟨by decide +kernel, rfl⟩
theorem zd_M_place_227 : decode zb_M_place 227 = .ok (.iadd, 1) ∧ 227 + 1 = 228 := ⟨by decide +kernel, rfl⟩
theorem zd_M_place_228 : decode zb_M_place 228 = .ok (.bipush 12, 2) ∧ 228 + 2 = 230 := ⟨by decide +kernel, rfl⟩
theorem zd_M_place_230 : decode zb_M_place 230 = .ok (.iload 7, 2) ∧ 230 + 2 = 232 := ⟨by decide +kernel, rfl⟩
theorem zd_M_place_232 : decode zb_M_place 232 = .ok (.imul, 1) ∧ 232 + 1 = 233 := ⟨by decide +kernel, rfl⟩
theorem zd_M_place_233 : decode zb_M_place 233 = .ok (.iload 6, 2) ∧ 233 + 2 = 235 := ⟨by decide +kernel, rfl⟩
theorem zd_M_place_235 : decode zb_M_place 235 = .ok (.iadd, 1) ∧ 235 + 1 = 236 := ⟨by decide +kernel, rfl⟩
theorem zd_M_place_236 : decode zb_M_place 236 = .ok (.iastore, 1) ∧ 236 + 1 = 237 := ⟨by decide +kernel, rfl⟩
theorem zd_M_place_237 : decode zb_M_place 237 = .ok (.return_, 1) ∧ 237 + 1 = 238 := ⟨by decide +kernel, rfl⟩
theorem zd_M_counts_0 : decode zb_M_counts 0 = .ok (.aload_n 0, 1) ∧ 0 + 1 = 1 := ⟨by decide +kernel, rfl⟩
theorem zd_M_counts_1 : decode zb_M_counts 1 = .ok (.getfield 42, 3) ∧ 1 + 3 = 4 := ⟨by decide +kernel, rfl⟩
theorem zd_M_counts_4 : decode zb_M_counts 4 = .ok (.ifCond .ne 17, 3) ∧ ((4 : Nat) : Int) + (17) = ((21 : Nat) : Int) ∧ 4 + 3 = 7 := ⟨by decide +kernel, by decide, rfl⟩
theorem zd_M_counts_7 : decode zb_M_counts 7 = .ok (.iload_n 1, 1) ∧ 7 + 1 = 8 := ⟨by decide +kernel, rfl⟩
theorem zd_M_counts_8 : decode zb_M_counts 8 = .ok (.iload_n 2, 1) ∧ 8 + 1 = 9 := ⟨by decide +kernel, rfl⟩
theorem zd_M_counts_9 : decode zb_M_counts 9 = .ok (.if_icmp .ne 12, 3) ∧ ((9 : Nat) : Int) + (12) = ((21 : Nat) : Int) ∧ 9 + 3 = 12 := ⟨by decide +kernel, by decide, rfl⟩
theorem zd_M_counts_12 : decode zb_M_counts 12 = .ok (.aload_n 0, 1) ∧ 12 + 1 = 13 := ⟨by decide +kernel, rfl⟩
theorem zd_M_counts_13 : decode zb_M_counts 13 = .ok (.iconst 5, 1) ∧ 13 + 1 = 14 := ⟨by decide +kernel, rfl⟩
theorem zd_M_counts_14 : decode zb_M_counts 14 = .ok (.aload_n 0, 1) ∧ 14 + 1 = 15 := ⟨by decide +kernel, rfl⟩
theorem zd_M_counts_15 : decode zb_M_counts 15 = .ok (.getfield 26, 3) ∧ 15 + 3 = 18 := ⟨by decide +kernel, rfl⟩
theorem zd_M_counts_18 : decode zb_M_counts 18 = .ok (.invokevirtual 295, 3) ∧ 18 + 3 = 21 := ⟨by decide +kernel, rfl⟩
theorem zd_M_counts_21 : decode zb_M_counts 21 = .ok (.aload_n 0, 1) ∧ 21 + 1 = 22 := ⟨by decide +kernel, rfl⟩
theorem zd_M_counts_22 : decode zb_M_counts 22 = .ok (.getfield 42, 3) ∧ 22 + 3 = 25 := ⟨by decide +kernel, rfl⟩
theorem zd_M_counts_25 : decode zb_M_counts 25 = .ok (.ifCond .ne 7, 3) ∧ ((25 : Nat) : Int) + (7) = ((32 : Nat) : Int) ∧ 25 + 3 = 28 := ⟨by decide +kernel, by decide, rfl⟩
theorem zd_M_counts_28 : decode zb_M_counts 28 = .ok (.aload_n 0, 1) ∧ 28 + 1 = 29 := ⟨by decide +kernel, rfl⟩
theorem zd_M_counts_29 : decode zb_M_counts 29 = .ok (.invokevirtual 317, 3) ∧ 29 + 3 = 32 := ⟨by decide +kernel, rfl⟩
theorem zd_M_counts_32 : decode zb_M_counts 32 = .ok (.return_, 1) ∧ 32 + 1 = 33 := ⟨by decide +kernel, rfl⟩
theorem zd_M_lamp_0 : decode zb_M_lamp 0 = .ok (.aload_n 0, 1) ∧ 0 + 1 = 1 := ⟨by decide +kernel, rfl⟩
theorem zd_M_lamp_1 : decode zb_M_lamp 1 = .ok (.aload_n 0, 1) ∧ 1 + 1 = 2 := ⟨by decide +kernel, rfl⟩
theorem zd_M_lamp_2 : decode zb_M_lamp 2 = .ok (.getfield 63, 3) ∧ 2 + 3 = 5 := ⟨by decide +kernel, rfl⟩
theorem zd_M_lamp_5 : decode zb_M_lamp 5 = .ok (.aload_n 0, 1) ∧ 5 + 1 = 6 := ⟨by decide +kernel, rfl⟩
theorem zd_M_lamp_6 : decode zb_M_lamp 6 = .ok (.getfield 118, 3) ∧ 6 + 3 = 9 := ⟨by decide +kernel, rfl⟩
theorem zd_M_lamp_9 : decode zb_M_lamp 9 = .ok (.iaload, 1) ∧ 9 + 1 = 10 := ⟨by decide +kernel, rfl⟩
theorem zd_M_lamp_10 : decode zb_M_lamp 10 = .ok (.bipush 8, 2) ∧ 10 + 2 = 12 := ⟨by decide +kernel, rfl⟩
theorem zd_M_lamp_12 : decode zb_M_lamp 12 = .ok (.invokevirtual 362, 3) ∧ 12 + 3 = 15 := ⟨by decide +kernel, rfl⟩
theorem zd_M_lamp_15 : decode zb_M_lamp 15 = .ok (.aload_n 0, 1) ∧ 15 + 1 = 16 := ⟨by decide +kernel, rfl⟩
theorem zd_M_lamp_16 : decode zb_M_lamp 16 = .ok (.invokevirtual 340, 3) ∧ 16 + 3 = 19 := ⟨by decide +kernel, rfl⟩
theorem zd_M_lamp_19 : decode zb_M_lamp 19 = .ok (.istore_n 1, 1) ∧ 19 + 1 = 20 := ⟨by decide +kernel, rfl⟩
theorem zd_M_lamp_20 : decode zb_M_lamp 20 = .ok (.aload_n 0, 1) ∧ 20 + 1 = 21 := ⟨by decide +kernel, rfl⟩
theorem zd_M_lamp_21 : decode zb_M_lamp 21 = .ok (.invokevirtual 365, 3) ∧ 21 + 3 = 24 := ⟨by decide +kernel, rfl⟩
theorem zd_M_lamp_24 : decode zb_M_lamp 24 = .ok (.istore_n 2, 1) ∧ 24 + 1 = 25 := ⟨by decide +kernel, rfl⟩
theorem zd_M_lamp_25 : decode zb_M_lamp 25 = .ok (.aload_n 0, 1) ∧ 25 + 1 = 26 := ⟨by decide +kernel, rfl⟩
theorem zd_M_lamp_26 : decode zb_M_lamp 26 = .ok (.iconst 1, 1) ∧ 26 + 1 = 27 := ⟨by decide +kernel, rfl⟩
theorem zd_M_lamp_27 : decode zb_M_lamp 27 = .ok (.aload_n 0, 1) ∧ 27 + 1 = 28 := ⟨by decide +kernel, rfl⟩
theorem zd_M_lamp_28 : decode zb_M_lamp 28 = .ok (.getfield 63, 3) ∧ 28 + 3 = 31 := ⟨by decide +kernel, rfl⟩
theorem zd_M_lamp_31 : decode zb_M_lamp 31 = .ok (.aload_n 0, 1) ∧ 31 + 1 = 32 := ⟨by decide +kernel, rfl⟩
theorem zd_M_lamp_32 : decode zb_M_lamp 32 = .ok (.getfield 118, 3) ∧ 32 + 3 = 35 := ⟨by decide +kernel, rfl⟩
theorem zd_M_lamp_35 : decode zb_M_lamp 35 = .ok (.iaload, 1) ∧ 35 + 1 = 36 := ⟨by decide +kernel, rfl⟩
theorem zd_M_lamp_36 : decode zb_M_lamp 36 = .ok (.iload_n 1, 1) ∧ 36 + 1 = 37 := ⟨by decide +kernel, rfl⟩
theorem zd_M_lamp_37 : decode zb_M_lamp 37 = .ok (.iload_n 2, 1) ∧ 37 + 1 = 38 := ⟨by decide +kernel, rfl⟩
theorem zd_M_lamp_38 : decode zb_M_lamp 38 = .ok (.invokevirtual 368, 3) ∧ 38 + 3 = 41 := ⟨by decide +kernel, rfl⟩
theorem zd_M_lamp_41 : decode zb_M_lamp 41 = .ok (.aload_n 0, 1) ∧ 41 + 1 = 42 := ⟨by decide +kernel, rfl⟩
theorem zd_M_lamp_42 : decode zb_M_lamp 42 = .ok (.getfield 63, 3) ∧ 42 + 3 = 45 := ⟨by decide +kernel, rfl⟩
theorem zd_M_lamp_45 : decode zb_M_lamp 45 = .ok (.aload_n 0, 1) ∧ 45 + 1 = 46 := ⟨by decide +kernel, rfl⟩
theorem zd_M_lamp_46 : decode zb_M_lamp 46 = .ok (.getfield 118, 3) ∧ 46 + 3 = 49 := ⟨by decide +kernel, rfl⟩
theorem zd_M_lamp_49 : decode zb_M_lamp 49 = .ok (.dup2, 1) ∧ 49 + 1 = 50 := ⟨by decide +kernel, rfl⟩
theorem zd_M_lamp_50 : decode zb_M_lamp 50 = .ok (.iaload, 1) ∧ 50 + 1 = 51 := ⟨by decide +kernel, rfl⟩
theorem zd_M_lamp_51 : decode zb_M_lamp 51 = .ok (.iconst 1, 1) ∧ 51 + 1 = 52 := ⟨by decide +kernel, rfl⟩
theorem zd_M_lamp_52 : decode zb_M_lamp 52 = .ok (.iadd, 1) ∧ 52 + 1 = 53 := ⟨by decide +kernel, rfl⟩
theorem zd_M_lamp_53 : decode zb_M_lamp 53 = .ok (.iastore, 1) ∧ 53 + 1 = 54 := ⟨by decide +kernel, rfl⟩
theorem zd_M_lamp_54 : decode zb_M_lamp 54 = .ok (.return_, 1) ∧ 54 + 1 = 55 := ⟨by decide +kernel, rfl⟩
theorem zd_M_mirror_0 : decode zb_M_mirror 0 = .ok (.aload_n 0, 1) ∧ 0 + 1 = 1 := ⟨by decide +kernel, rfl⟩
theorem zd_M_mirror_1 : decode zb_M_mirror 1 = .ok (.aload_n 0, 1) ∧ 1 + 1 = 2 := ⟨by decide +kernel, rfl⟩
theorem zd_M_mirror_2 : decode zb_M_mirror 2 = .ok (.getfield 66, 3) ∧ 2 + 3 = 5 := ⟨by decide +kernel, rfl⟩
theorem zd_M_mirror_5 : decode zb_M_mirror 5 = .ok (.aload_n 0, 1) ∧ 5 + 1 = 6 := ⟨by decide +kernel, rfl⟩
theorem zd_M_mirror_6 : decode zb_M_mirror 6 = .ok (.getfield 118, 3) ∧ 6 + 3 = 9 := ⟨by decide +kernel, rfl⟩
theorem zd_M_mirror_9 : decode zb_M_mirror 9 = .ok (.iaload, 1) ∧ 9 + 1 = 10 := ⟨by decide +kernel, rfl⟩
theorem zd_M_mirror_10 : decode zb_M_mirror 10 = .ok (.bipush 8, 2) ∧ 10 + 2 = 12 := ⟨by decide +kernel, rfl⟩
theorem zd_M_mirror_12 : decode zb_M_mirror 12 = .ok (.invokevirtual 362, 3) ∧ 12 + 3 = 15 := ⟨by decide +kernel, rfl⟩
theorem zd_M_mirror_15 : decode zb_M_mirror 15 = .ok (.aload_n 0, 1) ∧ 15 + 1 = 16 := ⟨by decide +kernel, rfl⟩
theorem zd_M_mirror_16 : decode zb_M_mirror 16 = .ok (.invokevirtual 372, 3) ∧ 16 + 3 = 19 := ⟨by decide +kernel, rfl⟩
theorem zd_M_mirror_19 : decode zb_M_mirror 19 = .ok (.istore_n 2, 1) ∧ 19 + 1 = 20 := ⟨by decide +kernel, rfl⟩
theorem zd_M_mirror_20 : decode zb_M_mirror 20 = .ok (.aload_n 0, 1) ∧ 20 + 1 = 21 := ⟨by decide +kernel, rfl⟩
theorem zd_M_mirror_21 : decode zb_M_mirror 21 = .ok (.iload_n 1, 1) ∧ 21 + 1 = 22 := ⟨by decide +kernel, rfl⟩
theorem zd_M_mirror_22 : decode zb_M_mirror 22 = .ok (.aload_n 0, 1) ∧ 22 + 1 = 23 := ⟨by decide +kernel, rfl⟩
theorem zd_M_mirror_23 : decode zb_M_mirror 23 = .ok (.getfield 66, 3) ∧ 23 + 3 = 26 := ⟨by decide +kernel, rfl⟩
theorem zd_M_mirror_26 : decode zb_M_mirror 26 = .ok (.aload_n 0, 1) ∧ 26 + 1 = 27 := ⟨by decide +kernel, rfl⟩
theorem zd_M_mirror_27 : decode zb_M_mirror 27 = .ok (.getfield 118, 3) ∧ 27 + 3 = 30 := ⟨by decide +kernel, rfl⟩
theorem zd_M_mirror_30 : decode zb_M_mirror 30 = .ok (.iaload, 1) ∧ 30 + 1 = 31 := ⟨by decide +kernel, rfl⟩
theorem zd_M_mirror_31 : decode zb_M_mirror 31 = .ok (.iload_n 2, 1) ∧ 31 + 1 = 32 := ⟨by decide +kernel, rfl⟩
theorem zd_M_mirror_32 : decode zb_M_mirror 32 = .ok (.iconst (-1), 1) ∧ 32 + 1 = 33 := ⟨by decide +kernel, rfl⟩
theorem zd_M_mirror_33 : decode zb_M_mirror 33 = .ok (.invokevirtual 368, 3) ∧ 33 + 3 = 36 := ⟨by decide +kernel, rfl⟩
theorem zd_M_mirror_36 : decode zb_M_mirror 36 = .ok (.aload_n 0, 1) ∧ 36 + 1 = 37 := ⟨by decide +kernel, rfl⟩
theorem zd_M_mirror_37 : decode zb_M_mirror 37 = .ok (.getfield 66, 3) ∧ 37 + 3 = 40 := ⟨by decide +kernel, rfl⟩
theorem zd_M_mirror_40 : decode zb_M_mirror 40 = .ok (.aload_n 0, 1) ∧ 40 + 1 = 41 := ⟨by decide +kernel, rfl⟩
theorem zd_M_mirror_41 : decode zb_M_mirror 41 = .ok (.getfield 118, 3) ∧ 41 + 3 = 44 := ⟨by decide +kernel, rfl⟩
theorem zd_M_mirror_44 : decode zb_M_mirror 44 = .ok (.dup2, 1) ∧ 44 + 1 = 45 := ⟨by decide +kernel, rfl⟩
theorem zd_M_mirror_45 : decode zb_M_mirror 45 = .ok (.iaload, 1) ∧ 45 + 1 = 46 := ⟨by decide +kernel, rfl⟩
theorem zd_M_mirror_46 : decode zb_M_mirror 46 = .ok (.iconst 1, 1) ∧ 46 + 1 = 47 := ⟨by decide +kernel, rfl⟩
theorem zd_M_mirror_47 : decode zb_M_mirror 47 = .ok (.iadd, 1) ∧ 47 + 1 = 48 := ⟨by decide +kernel, rfl⟩
theorem zd_M_mirror_48 : decode zb_M_mirror 48 = .ok (.iastore, 1) ∧ 48 + 1 = 49 := ⟨by decide +kernel, rfl⟩
theorem zd_M_mirror_49 : decode zb_M_mirror 49 = .ok (.return_, 1) ∧ 49 + 1 = 50 := ⟨by decide +kernel, rfl⟩
theorem zd_M_eye_0 : decode zb_M_eye 0 = .ok (.aload_n 0, 1) ∧ 0 + 1 = 1 := ⟨by decide +kernel, rfl⟩
theorem zd_M_eye_1 : decode zb_M_eye 1 = .ok (.aload_n 0, 1) ∧ 1 + 1 = 2 := ⟨by decide +kernel, rfl⟩
theorem zd_M_eye_2 : decode zb_M_eye 2 = .ok (.getfield 72, 3) ∧ 2 + 3 = 5 := ⟨by decide +kernel, rfl⟩
theorem zd_M_eye_5 : decode zb_M_eye 5 = .ok (.aload_n 0, 1) ∧ 5 + 1 = 6 := ⟨by decide +kernel, rfl⟩
theorem zd_M_eye_6 : decode zb_M_eye 6 = .ok (.getfield 118, 3) ∧ 6 + 3 = 9 := ⟨by decide +kernel, rfl⟩
theorem zd_M_eye_9 : decode zb_M_eye 9 = .ok (.iaload, 1) ∧ 9 + 1 = 10 := ⟨by decide +kernel, rfl⟩
theorem zd_M_eye_10 : decode zb_M_eye 10 = .ok (.bipush 8, 2) ∧ 10 + 2 = 12 := ⟨by decide +kernel, rfl⟩
theorem zd_M_eye_12 : decode zb_M_eye 12 = .ok (.invokevirtual 362, 3) ∧ 12 + 3 = 15 := ⟨by decide +kernel, rfl⟩
theorem zd_M_eye_15 : decode zb_M_eye 15 = .ok (.aload_n 0, 1) ∧ 15 + 1 = 16 := ⟨by decide +kernel, rfl⟩
theorem zd_M_eye_16 : decode zb_M_eye 16 = .ok (.getfield 42, 3) ∧ 16 + 3 = 19 := ⟨by decide +kernel, rfl⟩
theorem zd_M_eye_19 : decode zb_M_eye 19 = .ok (.ifCond .ne 30, 3) ∧ ((19 : Nat) : Int) + (30) = ((49 : Nat) : Int) ∧ 19 + 3 = 22 := ⟨by decide +kernel, by decide, rfl⟩
theorem zd_M_eye_22 : decode zb_M_eye 22 = .ok (.aload_n 0, 1) ∧ 22 + 1 = 23 := ⟨by decide +kernel, rfl⟩
theorem zd_M_eye_23 : decode zb_M_eye 23 = .ok (.getfield 32, 3) ∧ 23 + 3 = 26 := ⟨by decide +kernel, rfl⟩
theorem zd_M_eye_26 : decode zb_M_eye 26 = .ok (.iconst 1, 1) ∧ 26 + 1 = 27 := ⟨by decide +kernel, rfl⟩
theorem zd_M_eye_27 : decode zb_M_eye 27 = .ok (.if_icmp .ne 13, 3) ∧ ((27 : Nat) : Int) + (13) = ((40 : Nat) : Int) ∧ 27 + 3 = 30 := ⟨by decide +kernel, by decide, rfl⟩
theorem zd_M_eye_30 : decode zb_M_eye 30 = .ok (.aload_n 0, 1) ∧ 30 + 1 = 31 := ⟨by decide +kernel, rfl⟩
theorem zd_M_eye_31 : decode zb_M_eye 31 = .ok (.getfield 35, 3) ∧ 31 + 3 = 34 := ⟨by decide +kernel, rfl⟩
theorem zd_M_eye_34 : decode zb_M_eye 34 = .ok (.invokestatic 310, 3) ∧ 34 + 3 = 37 := ⟨by decide +kernel, rfl⟩
theorem zd_M_eye_37 : decode zb_M_eye 37 = .ok (.ifCond .eq 12, 3) ∧ ((37 : Nat) : Int) + (12) = ((49 : Nat) : Int) ∧ 37 + 3 = 40 := ⟨by decide +kernel, by decide, rfl⟩
theorem zd_M_eye_40 : decode zb_M_eye 40 = .ok (.aload_n 0, 1) ∧ 40 + 1 = 41 := ⟨by decide +kernel, rfl⟩
theorem zd_M_eye_41 : decode zb_M_eye 41 = .ok (.iconst 1, 1) ∧ 41 + 1 = 42 := ⟨by decide +kernel, rfl⟩
theorem zd_M_eye_42 : decode zb_M_eye 42 = .ok (.aload_n 0, 1) ∧ 42 + 1 = 43 := ⟨by decide +kernel, rfl⟩
theorem zd_M_eye_43 : decode zb_M_eye 43 = .ok (.getfield 26, 3) ∧ 43 + 3 = 46 := ⟨by decide +kernel, rfl⟩
theorem zd_M_eye_46 : decode zb_M_eye 46 = .ok (.invokevirtual 295, 3) ∧ 46 + 3 = 49 := ⟨by decide +kernel, rfl⟩
theorem zd_M_eye_49 : decode zb_M_eye 49 = .ok (.aload_n 0, 1) ∧ 49 + 1 = 50 := ⟨by decide +kernel, rfl⟩
theorem zd_M_eye_50 : decode zb_M_eye 50 = .ok (.getfield 42, 3) ∧ 50 + 3 = 53 := ⟨by decide +kernel, rfl⟩
theorem zd_M_eye_53 : decode zb_M_eye 53 = .ok (.ifCond .ne 24, 3) ∧ ((53 : Nat) : Int) + (24) = ((77 : Nat) : Int) ∧ 53 + 3 = 56 := ⟨by decide +kernel, by decide, rfl⟩
theorem zd_M_eye_56 : decode zb_M_eye 56 = .ok (.aload_n 0, 1) ∧ 56 + 1 = 57 := ⟨by decide +kernel, rfl⟩
theorem zd_M_eye_57 : decode zb_M_eye 57 = .ok (.aload_n 0, 1) ∧ 57 + 1 = 58 := ⟨by decide +kernel, rfl⟩
theorem zd_M_eye_58 : decode zb_M_eye 58 = .ok (.getfield 35, 3) ∧ 58 + 3 = 61 := ⟨by decide +kernel, rfl⟩
theorem zd_M_eye_61 : decode zb_M_eye 61 = .ok (.invokevirtual 375, 3) ∧ 61 + 3 = 64 := ⟨by decide +kernel, rfl⟩
theorem zd_M_eye_64 : decode zb_M_eye 64 = .ok (.iconst (-1), 1) ∧ 64 + 1 = 65 := ⟨by decide +kernel, rfl⟩
theorem zd_M_eye_65 : decode zb_M_eye 65 = .ok (.if_icmp .eq 12, 3) ∧ ((65 : Nat) : Int) + (12) = ((77 : Nat) : Int) ∧ 65 + 3 = 68 := ⟨by decide +kernel, by decide, rfl⟩
theorem zd_M_eye_68 : decode zb_M_eye 68 = .ok (.aload_n 0, 1) ∧ 68 + 1 = 69 := ⟨by decide +kernel, rfl⟩
theorem zd_M_eye_69 : decode zb_M_eye 69 = .ok (.iconst 3, 1) ∧ 69 + 1 = 70 := ⟨by decide +kernel, rfl⟩
theorem zd_M_eye_70 : decode zb_M_eye 70 = .ok (.aload_n 0, 1) ∧ 70 + 1 = 71 := ⟨by decide +kernel, rfl⟩
theorem zd_M_eye_71 : decode zb_M_eye 71 = .ok (.getfield 26, 3) ∧ 71 + 3 = 74 := ⟨by decide +kernel, rfl⟩
theorem zd_M_eye_74 : decode zb_M_eye 74 = .ok (.invokevirtual 295, 3) ∧ 74 + 3 = 77 := ⟨by decide +kernel, rfl⟩
theorem zd_M_eye_77 : decode zb_M_eye 77 = .ok (.aload_n 0, 1) ∧ 77 + 1 = 78 := ⟨by decide +kernel, rfl⟩
theorem zd_M_eye_78 : decode zb_M_eye 78 = .ok (.getfield 42, 3) ∧ 78 + 3 = 81 := ⟨by decide +kernel, rfl⟩
theorem zd_M_eye_81 : decode zb_M_eye 81 = .ok (.ifCond .le 4, 3) ∧ ((81 : Nat) : Int) + (4) = ((85 : Nat) : Int) ∧ 81 + 3 = 84 := ⟨by decide +kernel, by decide, rfl⟩
theorem zd_M_eye_84 : decode zb_M_eye 84 = .ok (.return_, 1) ∧ 84 + 1 = 85 := ⟨by decide +kernel, rfl⟩
theorem zd_M_eye_85 : decode zb_M_eye 85 = .ok (.aload_n 0, 1) ∧ 85 + 1 = 86 := ⟨by decide +kernel, rfl⟩
theorem zd_M_eye_86 : decode zb_M_eye 86 = .ok (.getfield 87, 3) ∧ 86 + 3 = 89 := ⟨by decide +kernel, rfl⟩
theorem zd_M_eye_89 : decode zb_M_eye 89 = .ok (.bipush 8, 2) ∧ 89 + 2 = 91 := ⟨by decide +kernel, rfl⟩
theorem zd_M_eye_91 : decode zb_M_eye 91 = .ok (.aload_n 0, 1) ∧ 91 + 1 = 92 := ⟨by decide +kernel, rfl⟩
theorem zd_M_eye_92 : decode zb_M_eye 92 = .ok (.getfield 118, 3) ∧ 92 + 3 = 95 := ⟨by decide +kernel, rfl⟩
theorem zd_M_eye_95 : decode zb_M_eye 95 = .ok (.imul, 1) ∧ 95 + 1 = 96 := ⟨by decide +kernel, rfl⟩
theorem zd_M_eye_96 : decode zb_M_eye 96 = .ok (.aload_n 0, 1) ∧ 96 + 1 = 97 := ⟨by decide +kernel, rfl⟩
theorem zd_M_eye_97 : decode zb_M_eye 97 = .ok (.getfield 72, 3) ∧ 97 + 3 = 100 := ⟨by decide +kernel, rfl⟩
theorem zd_M_eye_100 : decode zb_M_eye 100 = .ok (.aload_n 0, 1) ∧ 100 + 1 = 101 := ⟨by decide +kernel, rfl⟩
theorem zd_M_eye_101 : decode zb_M_eye 101 = .ok (.getfield 118, 3) ∧ 101 + 3 = 104 := ⟨by decide +kernel, rfl⟩
theorem zd_M_eye_104 : decode zb_M_eye 104 = .ok (.iaload, 1) ∧ 104 + 1 = 105 := ⟨by decide +kernel, rfl⟩
theorem zd_M_eye_105 : decode zb_M_eye 105 = .ok (.iadd, 1) ∧ 105 + 1 = 106 := ⟨by decide +kernel, rfl⟩
theorem zd_M_eye_106 : decode zb_M_eye 106 = .ok (.aload_n 0, 1) ∧ 106 + 1 = 107 := ⟨by decide +kernel, rfl⟩
theorem zd_M_eye_107 : decode zb_M_eye 107 = .ok (.getfield 35, 3) ∧ 107 + 3 = 110 := ⟨by decide +kernel, rfl⟩
theorem zd_M_eye_110 : decode zb_M_eye 110 = .ok (.lastore, 1) ∧ 110 + 1 = 111 := ⟨by decide +kernel, rfl⟩
theorem zd_M_eye_111 : decode zb_M_eye 111 = .ok (.aload_n 0, 1) ∧ 111 + 1 = 112 := ⟨by decide +kernel, rfl⟩
theorem zd_M_eye_112 : decode zb_M_eye 112 = .ok (.invokevirtual 317, 3) ∧ 112 + 3 = 115 := ⟨by decide +kernel, rfl⟩
theorem zd_M_eye_115 : decode zb_M_eye 115 = .ok (.aload_n 0, 1) ∧ 115 + 1 = 116 := ⟨by decide +kernel, rfl⟩
theorem zd_M_eye_116 : decode zb_M_eye 116 = .ok (.bipush 7, 2) ∧ 116 + 2 = 118 := ⟨by decide +kernel, rfl⟩
theorem zd_M_eye_118 : decode zb_M_eye 118 = .ok (.aload_n 0, 1) ∧ 118 + 1 = 119 := ⟨by decide +kernel, rfl⟩
theorem zd_M_eye_119 : decode zb_M_eye 119 = .ok (.getfield 72, 3) ∧ 119 + 3 = 122 := ⟨by decide +kernel, rfl⟩
theorem zd_M_eye_122 : decode zb_M_eye 122 = .ok (.aload_n 0, 1) ∧ 122 + 1 = 123 := ⟨by decide +kernel, rfl⟩
theorem zd_M_eye_123 : decode zb_M_eye 123 = .ok (.getfield 118, 3) ∧ 123 + 3 = 126 := ⟨by decide +kernel, rfl⟩
theorem zd_M_eye_126 : decode zb_M_eye 126 = .ok (.iaload, 1) ∧ 126 + 1 = 127 := ⟨by decide +kernel, rfl⟩
theorem zd_M_eye_127 : decode zb_M_eye 127 = .ok (.iconst (-1), 1) ∧ 127 + 1 = 128 := ⟨by decide +kernel, rfl⟩
theorem zd_M_eye_128 : decode zb_M_eye 128 = .ok (.iconst (-1), 1) ∧ 128 + 1 = 129 := ⟨by decide +kernel, rfl⟩
theorem zd_M_eye_129 : decode zb_M_eye 129 = .ok (.invokevirtual 368, 3) ∧ 129 + 3 = 132 := ⟨by decide +kernel, rfl⟩
theorem zd_M_eye_132 : decode zb_M_eye 132 = .ok (.aload_n 0, 1) ∧ 132 + 1 = 133 := ⟨by decide +kernel, rfl⟩
theorem zd_M_eye_133 : decode zb_M_eye 133 = .ok (.getfield 72, 3) ∧ 133 + 3 = 136 := ⟨by decide +kernel, rfl⟩
theorem zd_M_eye_136 : decode zb_M_eye 136 = .ok (.aload_n 0, 1) ∧ 136 + 1 = 137 := ⟨by decide +kernel, rfl⟩
theorem zd_M_eye_137 : decode zb_M_eye 137 = .ok (.getfield 118, 3) ∧ 137 + 3 = 140 := ⟨by decide +kernel, rfl⟩
theorem zd_M_eye_140 : decode zb_M_eye 140 = .ok (.dup2, 1) ∧ 140 + 1 = 141 := ⟨by decide +kernel, rfl⟩
theorem zd_M_eye_141 : decode zb_M_eye 141 = .ok (.iaload, 1) ∧ 141 + 1 = 142 := ⟨by decide +kernel, rfl⟩
theorem zd_M_eye_142 : decode zb_M_eye 142 = .ok (.iconst 1, 1) ∧ 142 + 1 = 143 := ⟨by decide +kernel, rfl⟩
theorem zd_M_eye_143 : decode zb_M_eye 143 = .ok (.iadd, 1) ∧ 143 + 1 = 144 := ⟨by decide +kernel, rfl⟩
theorem zd_M_eye_144 : decode zb_M_eye 144 = .ok (.iastore, 1) ∧ 144 + 1 = 145 := ⟨by decide +kernel, rfl⟩
theorem zd_M_eye_145 : decode zb_M_eye 145 = .ok (.return_, 1) ∧ 145 + 1 = 146 := ⟨by decide +kernel, rfl⟩
theorem zd_M_mover_0 : decode zb_M_mover 0 = .ok (.aload_n 0, 1) ∧ 0 + 1 = 1 := ⟨by decide +kernel, rfl⟩
theorem zd_M_mover_1 : decode zb_M_mover 1 = .ok (.aload_n 0, 1) ∧ 1 + 1 = 2 := ⟨by decide +kernel, rfl⟩
theorem zd_M_mover_2 : decode zb_M_mover 2 = .ok (.getfield 69, 3) ∧ 2 + 3 = 5 := ⟨by decide +kernel, rfl⟩
theorem zd_M_mover_5 : decode zb_M_mover 5 = .ok (.aload_n 0, 1) ∧ 5 + 1 = 6 := ⟨by decide +kernel, rfl⟩
theorem zd_M_mover_6 : decode zb_M_mover 6 = .ok (.getfield 118, 3) ∧ 6 + 3 = 9 := ⟨by decide +kernel, rfl⟩
theorem zd_M_mover_9 : decode zb_M_mover 9 = .ok (.iaload, 1) ∧ 9 + 1 = 10 := ⟨by decide +kernel, rfl⟩
theorem zd_M_mover_10 : decode zb_M_mover 10 = .ok (.bipush 6, 2) ∧ 10 + 2 = 12 := ⟨by decide +kernel, rfl⟩
theorem zd_M_mover_12 : decode zb_M_mover 12 = .ok (.invokevirtual 362, 3) ∧ 12 + 3 = 15 := ⟨by decide +kernel, rfl⟩
theorem zd_M_mover_15 : decode zb_M_mover 15 = .ok (.iload_n 1, 1) ∧ 15 + 1 = 16 := ⟨by decide +kernel, rfl⟩
theorem zd_M_mover_16 : decode zb_M_mover 16 = .ok (.bipush 9, 2) ∧ 16 + 2 = 18 := ⟨by decide +kernel, rfl⟩
theorem zd_M_mover_18 : decode zb_M_mover 18 = .ok (.if_icmp .ne 10, 3) ∧ ((18 : Nat) : Int) + (10) = ((28 : Nat) : Int) ∧ 18 + 3 = 21 := ⟨by decide +kernel, by decide, rfl⟩
theorem zd_M_mover_21 : decode zb_M_mover 21 = .ok (.aload_n 0, 1) ∧ 21 + 1 = 22 := ⟨by decide +kernel, rfl⟩
theorem zd_M_mover_22 : decode zb_M_mover 22 = .ok (.invokevirtual 372, 3) ∧ 22 + 3 = 25 := ⟨by decide +kernel, rfl⟩
theorem zd_M_mover_25 : decode zb_M_mover 25 = .ok (.goto 4, 3) ∧ ((25 : Nat) : Int) + (4) = ((29 : Nat) : Int) ∧ 25 + 3 = 28 := ⟨by decide +kernel, by decide, rfl⟩
theorem zd_M_mover_28 : decode zb_M_mover 28 = .ok (.iconst (-1), 1) ∧ 28 + 1 = 29 := ⟨by decide +kernel, rfl⟩
theorem zd_M_mover_29 : decode zb_M_mover 29 = .ok (.istore_n 2, 1) ∧ 29 + 1 = 30 := ⟨by decide +kernel, rfl⟩
theorem zd_M_mover_30 : decode zb_M_mover 30 = .ok (.aload_n 0, 1) ∧ 30 + 1 = 31 := ⟨by decide +kernel, rfl⟩
theorem zd_M_mover_31 : decode zb_M_mover 31 = .ok (.ldc2_w 260, 3) ∧ 31 + 3 = 34 := ⟨by decide +kernel, rfl⟩
theorem zd_M_mover_34 : decode zb_M_mover 34 = .ok (.invokevirtual 336, 3) ∧ 34 + 3 = 37 := ⟨by decide +kernel, rfl⟩
theorem zd_M_mover_37 : decode zb_M_mover 37 = .ok (.aload_n 0, 1) ∧ 37 + 1 = 38 := ⟨by decide +kernel, rfl⟩
theorem zd_M_mover_38 : decode zb_M_mover 38 = .ok (.aload_n 0, 1) ∧ 38 + 1 = 39 := ⟨by decide +kernel, rfl⟩
theorem zd_M_mover_39 : decode zb_M_mover 39 = .ok (.getfield 69, 3) ∧ 39 + 3 = 42 := ⟨by decide +kernel, rfl⟩
theorem zd_M_mover_42 : decode zb_M_mover 42 = .ok (.aload_n 0, 1) ∧ 42 + 1 = 43 := ⟨by decide +kernel, rfl⟩
theorem zd_M_mover_43 : decode zb_M_mover 43 = .ok (.getfield 118, 3) ∧ 43 + 3 = 46 := ⟨by decide +kernel, rfl⟩
theorem zd_M_mover_46 : decode zb_M_mover 46 = .ok (.iaload, 1) ∧ 46 + 1 = 47 := ⟨by decide +kernel, rfl⟩
theorem zd_M_mover_47 : decode zb_M_mover 47 = .ok (.invokevirtual 379, 3) ∧ 47 + 3 = 50 := ⟨by decide +kernel, rfl⟩
theorem zd_M_mover_50 : decode zb_M_mover 50 = .ok (.aload_n 0, 1) ∧ 50 + 1 = 51 := ⟨by decide +kernel, rfl⟩
theorem zd_M_mover_51 : decode zb_M_mover 51 = .ok (.iload_n 1, 1) ∧ 51 + 1 = 52 := ⟨by decide +kernel, rfl⟩
theorem zd_M_mover_52 : decode zb_M_mover 52 = .ok (.aload_n 0, 1) ∧ 52 + 1 = 53 := ⟨by decide +kernel, rfl⟩
theorem zd_M_mover_53 : decode zb_M_mover 53 = .ok (.getfield 69, 3) ∧ 53 + 3 = 56 := ⟨by decide +kernel, rfl⟩
theorem zd_M_mover_56 : decode zb_M_mover 56 = .ok (.aload_n 0, 1) ∧ 56 + 1 = 57 := ⟨by decide +kernel, rfl⟩
theorem zd_M_mover_57 : decode zb_M_mover 57 = .ok (.getfield 118, 3) ∧ 57 + 3 = 60 := ⟨by decide +kernel, rfl⟩
theorem zd_M_mover_60 : decode zb_M_mover 60 = .ok (.iaload, 1) ∧ 60 + 1 = 61 := ⟨by decide +kernel, rfl⟩
theorem zd_M_mover_61 : decode zb_M_mover 61 = .ok (.iload_n 2, 1) ∧ 61 + 1 = 62 := ⟨by decide +kernel, rfl⟩
theorem zd_M_mover_62 : decode zb_M_mover 62 = .ok (.iconst (-1), 1) ∧ 62 + 1 = 63 := ⟨by decide +kernel, rfl⟩
theorem zd_M_mover_63 : decode zb_M_mover 63 = .ok (.invokevirtual 368, 3) ∧ 63 + 3 = 66 := ⟨by decide +kernel, rfl⟩
theorem zd_M_mover_66 : decode zb_M_mover 66 = .ok (.aload_n 0, 1) ∧ 66 + 1 = 67 := ⟨by decide +kernel, rfl⟩
theorem zd_M_mover_67 : decode zb_M_mover 67 = .ok (.getfield 69, 3) ∧ 67 + 3 = 70 := ⟨by decide +kernel, rfl⟩
theorem zd_M_mover_70 : decode zb_M_mover 70 = .ok (.aload_n 0, 1) ∧ 70 + 1 = 71 := ⟨by decide +kernel, rfl⟩
theorem zd_M_mover_71 : decode zb_M_mover 71 = .ok (.getfield 118, 3) ∧ 71 + 3 = 74 := ⟨by decide +kernel, rfl⟩
theorem zd_M_mover_74 : decode zb_M_mover 74 = .ok (.dup2, 1) ∧ 74 + 1 = 75 := ⟨by decide +kernel, rfl⟩
theorem zd_M_mover_75 : decode zb_M_mover 75 = .ok (.iaload, 1) ∧ 75 + 1 = 76 := ⟨by decide +kernel, rfl⟩
theorem zd_M_mover_76 : decode zb_M_mover 76 = .ok (.iconst 1, 1) ∧ 76 + 1 = 77 := ⟨by decide +kernel, rfl⟩
theorem zd_M_mover_77 : decode zb_M_mover 77 = .ok (.iadd, 1) ∧ 77 + 1 = 78 := ⟨by decide +kernel, rfl⟩
theorem zd_M_mover_78 : decode zb_M_mover 78 = .ok (.iastore, 1) ∧ 78 + 1 = 79 := ⟨by decide +kernel, rfl⟩
theorem zd_M_mover_79 : decode zb_M_mover 79 = .ok (.return_, 1) ∧ 79 + 1 = 80 := ⟨by decide +kernel, rfl⟩
theorem zd_M_statement_0 : decode zb_M_statement 0 = .ok (.aload_n 0, 1) ∧ 0 + 1 = 1 := ⟨by decide +kernel, rfl⟩
theorem zd_M_statement_1 : decode zb_M_statement 1 = .ok (.ldc2_w 240, 3) ∧ 1 + 3 = 4 := ⟨by decide +kernel, rfl⟩
theorem zd_M_statement_4 : decode zb_M_statement 4 = .ok (.invokevirtual 314, 3) ∧ 4 + 3 = 7 := ⟨by decide +kernel, rfl⟩
theorem zd_M_statement_7 : decode zb_M_statement 7 = .ok (.ifCond .eq 10, 3) ∧ ((7 : Nat) : Int) + (10) = ((17 : Nat) : Int) ∧ 7 + 3 = 10 := ⟨by decide +kernel, by decide, rfl⟩
theorem zd_M_statement_10 : decode zb_M_statement 10 = .ok (.aload_n 0, 1) ∧ 10 + 1 = 11 := ⟨by decide +kernel, rfl⟩
theorem zd_M_statement_11 : decode zb_M_statement 11 = .ok (.invokevirtual 382, 3) ∧ 11 + 3 = 14 := ⟨by decide +kernel, rfl⟩
theorem zd_M_statement_14 : decode zb_M_statement 14 = .ok (.goto 98, 3) ∧ ((14 : Nat) : Int) + (98) = ((112 : Nat) : Int) ∧ 14 + 3 = 17 := ⟨by decide +kernel, by decide, rfl⟩
theorem zd_M_statement_17 : decode zb_M_statement 17 = .ok (.aload_n 0, 1) ∧ 17 + 1 = 18 := ⟨by decide +kernel, rfl⟩
theorem zd_M_statement_18 : decode zb_M_statement 18 = .ok (.ldc2_w 242, 3) ∧ 18 + 3 = 21 := ⟨by decide +kernel, rfl⟩
theorem zd_M_statement_21 : decode zb_M_statement 21 = .ok (.invokevirtual 314, 3) ∧ 21 + 3 = 24 := ⟨by decide +kernel, rfl⟩
theorem zd_M_statement_24 : decode zb_M_statement 24 = .ok (.ifCond .eq 11, 3) ∧ ((24 : Nat) : Int) + (11) = ((35 : Nat) : Int) ∧ 24 + 3 = 27 := ⟨by decide +kernel, by decide, rfl⟩
theorem zd_M_statement_27 : decode zb_M_statement 27 = .ok (.aload_n 0, 1) ∧ 27 + 1 = 28 := ⟨by decide +kernel, rfl⟩
theorem zd_M_statement_28 : decode zb_M_statement 28 = .ok (.iconst 2, 1) ∧ 28 + 1 = 29 := ⟨by decide +kernel, rfl⟩
theorem zd_M_statement_29 : decode zb_M_statement 29 = .ok (.invokevirtual 385, 3) ∧ 29 + 3 = 32 := ⟨by decide +kernel, rfl⟩
theorem zd_M_statement_32 : decode zb_M_statement 32 = .ok (.goto 80, 3) ∧ ((32 : Nat) : Int) + (80) = ((112 : Nat) : Int) ∧ 32 + 3 = 35 := ⟨by decide +kernel, by decide, rfl⟩
theorem zd_M_statement_35 : decode zb_M_statement 35 = .ok (.aload_n 0, 1) ∧ 35 + 1 = 36 := ⟨by decide +kernel, rfl⟩
theorem zd_M_statement_36 : decode zb_M_statement 36 = .ok (.ldc2_w 244, 3) ∧ 36 + 3 = 39 := ⟨by decide +kernel, rfl⟩
theorem zd_M_statement_39 : decode zb_M_statement 39 = .ok (.invokevirtual 314, 3) ∧ 39 + 3 = 42 := ⟨by decide +kernel, rfl⟩
theorem zd_M_statement_42 : decode zb_M_statement 42 = .ok (.ifCond .eq 11, 3) ∧ ((42 : Nat) : Int) + (11) = ((53 : Nat) : Int) ∧ 42 + 3 = 45 := ⟨by decide +kernel, by decide, rfl⟩
theorem zd_M_statement_45 : decode zb_M_statement 45 = .ok (.aload_n 0, 1) ∧ 45 + 1 = 46 := ⟨by decide +kernel, rfl⟩
theorem zd_M_statement_46 : decode zb_M_statement 46 = .ok (.iconst 3, 1) ∧ 46 + 1 = 47 := ⟨by decide +kernel, rfl⟩
theorem zd_M_statement_47 : decode zb_M_statement 47 = .ok (.invokevirtual 385, 3) ∧ 47 + 3 = 50 := ⟨by decide +kernel, rfl⟩
theorem zd_M_statement_50 : decode zb_M_statement 50 = .ok (.goto 62, 3) ∧ ((50 : Nat) : Int) + (62) = ((112 : Nat) : Int) ∧ 50 + 3 = 53 := ⟨by decide +kernel, by decide, rfl⟩
theorem zd_M_statement_53 : decode zb_M_statement 53 = .ok (.aload_n 0, 1) ∧ 53 + 1 = 54 := ⟨by decide +kernel, rfl⟩
theorem zd_M_statement_54 : decode zb_M_statement 54 = .ok (.ldc2_w 254, 3) ∧ 54 + 3 = 57 := ⟨by decide +kernel, rfl⟩
theorem zd_M_statement_57 : decode zb_M_statement 57 = .ok (.invokevirtual 314, 3) ∧ 57 + 3 = 60 := ⟨by decide +kernel, rfl⟩
theorem zd_M_statement_60 : decode zb_M_statement 60 = .ok (.ifCond .eq 12, 3) ∧ ((60 : Nat) : Int) + (12) = ((72 : Nat) : Int) ∧ 60 + 3 = 63 := ⟨by decide +kernel, by decide, rfl⟩
theorem zd_M_statement_63 : decode zb_M_statement 63 = .ok (.aload_n 0, 1) ∧ 63 + 1 = 64 := ⟨by decide +kernel, rfl⟩
theorem zd_M_statement_64 : decode zb_M_statement 64 = .ok (.bipush 8, 2) ∧ 64 + 2 = 66 := ⟨by decide +kernel, rfl⟩
theorem zd_M_statement_66 : decode zb_M_statement 66 = .ok (.invokevirtual 388, 3) ∧ 66 + 3 = 69 := ⟨by decide +kernel, rfl⟩
theorem zd_M_statement_69 : decode zb_M_statement 69 = .ok (.goto 43, 3) ∧ ((69 : Nat) : Int) + (43) = ((112 : Nat) : Int) ∧ 69 + 3 = 72 := ⟨by decide +kernel, by decide, rfl⟩
theorem zd_M_statement_72 : decode zb_M_statement 72 = .ok (.aload_n 0, 1) ∧ 72 + 1 = 73 := ⟨by decide +kernel, rfl⟩
theorem zd_M_statement_73 : decode zb_M_statement 73 = .ok (.ldc2_w 256, 3) ∧ 73 + 3 = 76 := ⟨by decide +kernel, rfl⟩
theorem zd_M_statement_76 : decode zb_M_statement 76 = .ok (.invokevirtual 314, 3) ∧ 76 + 3 = 79 := ⟨by decide +kernel, rfl⟩
theorem zd_M_statement_79 : decode zb_M_statement 79 = .ok (.ifCond .eq 12, 3) ∧ ((79 : Nat) : Int) + (12) = ((91 : Nat) : Int) ∧ 79 + 3 = 82 := ⟨by decide +kernel, by decide, rfl⟩
theorem zd_M_statement_82 : decode zb_M_statement 82 = .ok (.aload_n 0, 1) ∧ 82 + 1 = 83 := ⟨by decide +kernel, rfl⟩
theorem zd_M_statement_83 : decode zb_M_statement 83 = .ok (.bipush 9, 2) ∧ 83 + 2 = 85 := ⟨by decide +kernel, rfl⟩
theorem zd_M_statement_85 : decode zb_M_statement 85 = .ok (.invokevirtual 388, 3) ∧ 85 + 3 = 88 := ⟨by decide +kernel, rfl⟩
theorem zd_M_statement_88 : decode zb_M_statement 88 = .ok (.goto 24, 3) ∧ ((88 : Nat) : Int) + (24) = ((112 : Nat) : Int) ∧ 88 + 3 = 91 := ⟨by decide +kernel, by decide, rfl⟩
theorem zd_M_statement_91 : decode zb_M_statement 91 = .ok (.aload_n 0, 1) ∧ 91 + 1 = 92 := ⟨by decide +kernel, rfl⟩
theorem zd_M_statement_92 : decode zb_M_statement 92 = .ok (.ldc2_w 252, 3) ∧ 92 + 3 = 95 := ⟨by decide +kernel, rfl⟩
theorem zd_M_statement_95 : decode zb_M_statement 95 = .ok (.invokevirtual 314, 3) ∧ 95 + 3 = 98 := ⟨by decide +kernel, rfl⟩
theorem zd_M_statement_98 : decode zb_M_statement 98 = .ok (.ifCond .eq 10, 3) ∧ ((98 : Nat) : Int) + (10) = ((108 : Nat) : Int) ∧ 98 + 3 = 101 := ⟨by decide +kernel, by decide, rfl⟩
theorem zd_M_statement_101 : decode zb_M_statement 101 = .ok (.aload_n 0, 1) ∧ 101 + 1 = 102 := ⟨by decide +kernel, rfl⟩
theorem zd_M_statement_102 : decode zb_M_statement 102 = .ok (.invokevirtual 391, 3) ∧ 102 + 3 = 105 := ⟨by decide +kernel, rfl⟩
theorem zd_M_statement_105 : decode zb_M_statement 105 = .ok (.goto 7, 3) ∧ ((105 : Nat) : Int) + (7) = ((112 : Nat) : Int) ∧ 105 + 3 = 108 := ⟨by decide +kernel, by decide, rfl⟩
theorem zd_M_statement_108 : decode zb_M_statement 108 = .ok (.aload_n 0, 1) ∧ 108 + 1 = 109 := ⟨by decide +kernel, rfl⟩
theorem zd_M_statement_109 : decode zb_M_statement 109 = .ok (.invokevirtual 394, 3) ∧ 109 + 3 = 112 := ⟨by decide +kernel, rfl⟩
theorem zd_M_statement_112 : decode zb_M_statement 112 = .ok (.aload_n 0, 1) ∧ 112 + 1 = 113 := ⟨by decide +kernel, rfl⟩
theorem zd_M_statement_113 : decode zb_M_statement 113 = .ok (.invokevirtual 359, 3) ∧ 113 + 3 = 116 := ⟨by decide +kernel, rfl⟩
theorem zd_M_statement_116 : decode zb_M_statement 116 = .ok (.return_, 1) ∧ 116 + 1 = 117 := ⟨by decide +kernel, rfl⟩
theorem zd_M_ends_0 : decode zb_M_ends 0 = .ok (.aload_n 0, 1) ∧ 0 + 1 = 1 := ⟨by decide +kernel, rfl⟩
theorem zd_M_ends_1 : decode zb_M_ends 1 = .ok (.getfield 42, 3) ∧ 1 + 3 = 4 := ⟨by decide +kernel, rfl⟩
theorem zd_M_ends_4 : decode zb_M_ends 4 = .ok (.ifCond .ne 21, 3) ∧ ((4 : Nat) : Int) + (21) = ((25 : Nat) : Int) ∧ 4 + 3 = 7 := ⟨by decide +kernel, by decide, rfl⟩
theorem zd_M_ends_7 : decode zb_M_ends 7 = .ok (.aload_n 0, 1) ∧ 7 + 1 = 8 := ⟨by decide +kernel, rfl⟩
theorem zd_M_ends_8 : decode zb_M_ends 8 = .ok (.bipush 59, 2) ∧ 8 + 2 = 10 := ⟨by decide +kernel, rfl⟩
theorem zd_M_ends_10 : decode zb_M_ends 10 = .ok (.invokevirtual 327, 3) ∧ 10 + 3 = 13 := ⟨by decide +kernel, rfl⟩
theorem zd_M_ends_13 : decode zb_M_ends 13 = .ok (.ifCond .ne 12, 3) ∧ ((13 : Nat) : Int) + (12) = ((25 : Nat) : Int) ∧ 13 + 3 = 16 := ⟨by decide +kernel, by decide, rfl⟩
theorem zd_M_ends_16 : decode zb_M_ends 16 = .ok (.aload_n 0, 1) ∧ 16 + 1 = 17 := ⟨by decide +kernel, rfl⟩
theorem zd_M_ends_17 : decode zb_M_ends 17 = .ok (.iconst 1, 1) ∧ 17 + 1 = 18 := ⟨by decide +kernel, rfl⟩
theorem zd_M_ends_18 : decode zb_M_ends 18 = .ok (.aload_n 0, 1) ∧ 18 + 1 = 19 := ⟨by decide +kernel, rfl⟩
theorem zd_M_ends_19 : decode zb_M_ends 19 = .ok (.getfield 26, 3) ∧ 19 + 3 = 22 := ⟨by decide +kernel, rfl⟩
theorem zd_M_ends_22 : decode zb_M_ends 22 = .ok (.invokevirtual 295, 3) ∧ 22 + 3 = 25 := ⟨by decide +kernel, rfl⟩
theorem zd_M_ends_25 : decode zb_M_ends 25 = .ok (.aload_n 0, 1) ∧ 25 + 1 = 26 := ⟨by decide +kernel, rfl⟩
theorem zd_M_ends_26 : decode zb_M_ends 26 = .ok (.getfield 42, 3) ∧ 26 + 3 = 29 := ⟨by decide +kernel, rfl⟩
theorem zd_M_ends_29 : decode zb_M_ends 29 = .ok (.ifCond .ne 7, 3) ∧ ((29 : Nat) : Int) + (7) = ((36 : Nat) : Int) ∧ 29 + 3 = 32 := ⟨by decide +kernel, by decide, rfl⟩
theorem zd_M_ends_32 : decode zb_M_ends 32 = .ok (.aload_n 0, 1) ∧ 32 + 1 = 33 := ⟨by decide +kernel, rfl⟩
theorem zd_M_ends_33 : decode zb_M_ends 33 = .ok (.invokevirtual 292, 3) ∧ 33 + 3 = 36 := ⟨by decide +kernel, rfl⟩
theorem zd_M_ends_36 : decode zb_M_ends 36 = .ok (.return_, 1) ∧ 36 + 1 = 37 := ⟨by decide +kernel, rfl⟩
theorem zd_M_plain_0 : decode zb_M_plain 0 = .ok (.aload_n 0, 1) ∧ 0 + 1 = 1 := ⟨by decide +kernel, rfl⟩
theorem zd_M_plain_1 : decode zb_M_plain 1 = .ok (.ldc2_w 246, 3) ∧ 1 + 3 = 4 := ⟨by decide +kernel, rfl⟩
theorem zd_M_plain_4 : decode zb_M_plain 4 = .ok (.invokevirtual 314, 3) ∧ 4 + 3 = 7 := ⟨by decide +kernel, rfl⟩
theorem zd_M_plain_7 : decode zb_M_plain 7 = .ok (.istore_n 1, 1) ∧ 7 + 1 = 8 := ⟨by decide +kernel, rfl⟩
theorem zd_M_plain_8 : decode zb_M_plain 8 = .ok (.iload_n 1, 1) ∧ 8 + 1 = 9 := ⟨by decide +kernel, rfl⟩
theorem zd_M_plain_9 : decode zb_M_plain 9 = .ok (.ifCond .eq 7, 3) ∧ ((9 : Nat) : Int) + (7) = ((16 : Nat) : Int) ∧ 9 + 3 = 12 := ⟨by decide +kernel, by decide, rfl⟩
theorem zd_M_plain_12 : decode zb_M_plain 12 = .ok (.iconst 4, 1) ∧ 12 + 1 = 13 := ⟨by decide +kernel, rfl⟩
theorem zd_M_plain_13 : decode zb_M_plain 13 = .ok (.goto 33, 3) ∧ ((13 : Nat) : Int) + (33) = ((46 : Nat) : Int) ∧ 13 + 3 = 16 := ⟨by decide +kernel, by decide, rfl⟩
theorem zd_M_plain_16 : decode zb_M_plain 16 = .ok (.aload_n 0, 1) ∧ 16 + 1 = 17 := ⟨by decide +kernel, rfl⟩
theorem zd_M_plain_17 : decode zb_M_plain 17 = .ok (.ldc2_w 248, 3) ∧ 17 + 3 = 20 := ⟨by decide +kernel, rfl⟩
theorem zd_M_plain_20 : decode zb_M_plain 20 = .ok (.invokevirtual 314, 3) ∧ 20 + 3 = 23 := ⟨by decide +kernel, rfl⟩
theorem zd_M_plain_23 : decode zb_M_plain 23 = .ok (.ifCond .eq 7, 3) ∧ ((23 : Nat) : Int) + (7) = ((30 : Nat) : Int) ∧ 23 + 3 = 26 := ⟨by decide +kernel, by decide, rfl⟩
theorem zd_M_plain_26 : decode zb_M_plain 26 = .ok (.iconst 5, 1) ∧ 26 + 1 = 27 := ⟨by decide +kernel, rfl⟩
theorem zd_M_plain_27 : decode zb_M_plain 27 = .ok (.goto 19, 3) ∧ ((27 : Nat) : Int) + (19) = ((46 : Nat) : Int) ∧ 27 + 3 = 30 := ⟨by decide +kernel, by decide, rfl⟩
theorem zd_M_plain_30 : decode zb_M_plain 30 = .ok (.aload_n 0, 1) ∧ 30 + 1 = 31 := ⟨by decide +kernel, rfl⟩
theorem zd_M_plain_31 : decode zb_M_plain 31 = .ok (.ldc2_w 250, 3) ∧ 31 + 3 = 34 := ⟨by decide +kernel, rfl⟩
theorem zd_M_plain_34 : decode zb_M_plain 34 = .ok (.invokevirtual 314, 3) ∧ 34 + 3 = 37 := ⟨by decide +kernel, rfl⟩
theorem zd_M_plain_37 : decode zb_M_plain 37 = .ok (.ifCond .eq 8, 3) ∧ ((37 : Nat) : Int) + (8) = ((45 : Nat) : Int) ∧ 37 + 3 = 40 := ⟨by decide +kernel, by decide, rfl⟩
theorem zd_M_plain_40 : decode zb_M_plain 40 = .ok (.bipush 6, 2) ∧ 40 + 2 = 42 := ⟨by decide +kernel, rfl⟩
theorem zd_M_plain_42 : decode zb_M_plain 42 = .ok (.goto 4, 3) ∧ ((42 : Nat) : Int) + (4) = ((46 : Nat) : Int) ∧ 42 + 3 = 45 := ⟨by decide +kernel, by decide, rfl⟩
theorem zd_M_plain_45 : decode zb_M_plain 45 = .ok (.iconst (-1), 1) ∧ 45 + 1 = 46 := ⟨by decide +kernel, rfl⟩
theorem zd_M_plain_46 : decode zb_M_plain 46 = .ok (.istore_n 2, 1) ∧ 46 + 1 = 47 := ⟨by decide +kernel, rfl⟩
theorem zd_M_plain_47 : decode zb_M_plain 47 = .ok (.iload_n 2, 1) ∧ 47 + 1 = 48 := ⟨by decide +kernel, rfl⟩
theorem zd_M_plain_48 : decode zb_M_plain 48 = .ok (.iconst (-1), 1) ∧ 48 + 1 = 49 := ⟨by decide +kernel, rfl⟩
theorem zd_M_plain_49 : decode zb_M_plain 49 = .ok (.if_icmp .ne 12, 3) ∧ ((49 : Nat) : Int) + (12) = ((61 : Nat) : Int) ∧ 49 + 3 = 52 := ⟨by decide +kernel, by decide, rfl⟩
theorem zd_M_plain_52 : decode zb_M_plain 52 = .ok (.aload_n 0, 1) ∧ 52 + 1 = 53 := ⟨by decide +kernel, rfl⟩
theorem zd_M_plain_53 : decode zb_M_plain 53 = .ok (.iconst 1, 1) ∧ 53 + 1 = 54 := ⟨by decide +kernel, rfl⟩
theorem zd_M_plain_54 : decode zb_M_plain 54 = .ok (.aload_n 0, 1) ∧ 54 + 1 = 55 := ⟨by decide +kernel, rfl⟩
theorem zd_M_plain_55 : decode zb_M_plain 55 = .ok (.getfield 26, 3) ∧ 55 + 3 = 58 := ⟨by decide +kernel, rfl⟩
theorem zd_M_plain_58 : decode zb_M_plain 58 = .ok (.invokevirtual 295, 3) ∧ 58 + 3 = 61 := ⟨by decide +kernel, rfl⟩
theorem zd_M_plain_61 : decode zb_M_plain 61 = .ok (.aload_n 0, 1) ∧ 61 + 1 = 62 := ⟨by decide +kernel, rfl⟩
theorem zd_M_plain_62 : decode zb_M_plain 62 = .ok (.getfield 42, 3) ∧ 62 + 3 = 65 := ⟨by decide +kernel, rfl⟩
theorem zd_M_plain_65 : decode zb_M_plain 65 = .ok (.ifCond .ne 7, 3) ∧ ((65 : Nat) : Int) + (7) = ((72 : Nat) : Int) ∧ 65 + 3 = 68 := ⟨by decide +kernel, by decide, rfl⟩
theorem zd_M_plain_68 : decode zb_M_plain 68 = .ok (.aload_n 0, 1) ∧ 68 + 1 = 69 := ⟨by decide +kernel, rfl⟩
theorem zd_M_plain_69 : decode zb_M_plain 69 = .ok (.invokevirtual 317, 3) ∧ 69 + 3 = 72 := ⟨by decide +kernel, rfl⟩
theorem zd_M_plain_72 : decode zb_M_plain 72 = .ok (.iload_n 1, 1) ∧ 72 + 1 = 73 := ⟨by decide +kernel, rfl⟩
theorem zd_M_plain_73 : decode zb_M_plain 73 = .ok (.ifCond .eq 10, 3) ∧ ((73 : Nat) : Int) + (10) = ((83 : Nat) : Int) ∧ 73 + 3 = 76 := ⟨by decide +kernel, by decide, rfl⟩
theorem zd_M_plain_76 : decode zb_M_plain 76 = .ok (.aload_n 0, 1) ∧ 76 + 1 = 77 := ⟨by decide +kernel, rfl⟩
theorem zd_M_plain_77 : decode zb_M_plain 77 = .ok (.invokevirtual 340, 3) ∧ 77 + 3 = 80 := ⟨by decide +kernel, rfl⟩
theorem zd_M_plain_80 : decode zb_M_plain 80 = .ok (.goto 4, 3) ∧ ((80 : Nat) : Int) + (4) = ((84 : Nat) : Int) ∧ 80 + 3 = 83 := ⟨by decide +kernel, by decide, rfl⟩
theorem zd_M_plain_83 : decode zb_M_plain 83 = .ok (.iconst (-1), 1) ∧ 83 + 1 = 84 := ⟨by decide +kernel, rfl⟩
theorem zd_M_plain_84 : decode zb_M_plain 84 = .ok (.istore_n 3, 1) ∧ 84 + 1 = 85 := ⟨by decide +kernel, rfl⟩
theorem zd_M_plain_85 : decode zb_M_plain 85 = .ok (.aload_n 0, 1) ∧ 85 + 1 = 86 := ⟨by decide +kernel, rfl⟩
theorem zd_M_plain_86 : decode zb_M_plain 86 = .ok (.iload_n 2, 1) ∧ 86 + 1 = 87 := ⟨by decide +kernel, rfl⟩
theorem zd_M_plain_87 : decode zb_M_plain 87 = .ok (.iconst (-1), 1) ∧ 87 + 1 = 88 := ⟨by decide +kernel, rfl⟩
theorem zd_M_plain_88 : decode zb_M_plain 88 = .ok (.iload_n 3, 1) ∧ 88 + 1 = 89 := ⟨by decide +kernel, rfl⟩
theorem zd_M_plain_89 : decode zb_M_plain 89 = .ok (.iconst (-1), 1) ∧ 89 + 1 = 90 := ⟨by decide +kernel, rfl⟩
theorem zd_M_plain_90 : decode zb_M_plain 90 = .ok (.invokevirtual 368, 3) ∧ 90 + 3 = 93 := ⟨by decide +kernel, rfl⟩
theorem zd_M_plain_93 : decode zb_M_plain 93 = .ok (.return_, 1) ∧ 93 + 1 = 94 := ⟨by decide +kernel, rfl⟩
theorem zd_M_eyesOfTests_0 : decode zb_M_eyesOfTests 0 = .ok (.iconst 0, 1) ∧ 0 + 1 = 1 := ⟨by decide +kernel, rfl⟩
theorem zd_M_eyesOfTests_1 : decode zb_M_eyesOfTests 1 = .ok (.istore_n 1, 1) ∧ 1 + 1 = 2 := ⟨by decide +kernel, rfl⟩
theorem zd_M_eyesOfTests_2 : decode zb_M_eyesOfTests 2 = .ok (.iload_n 1, 1) ∧ 2 + 1 = 3 := ⟨by decide +kernel, rfl⟩
theorem zd_M_eyesOfTests_3 : decode zb_M_eyesOfTests 3 = .ok (.aload_n 0, 1) ∧ 3 + 1 = 4 := ⟨by decide +kernel, rfl⟩
theorem zd_M_eyesOfTests_4 : decode zb_M_eyesOfTests 4 = .ok (.getfield 115, 3) ∧ 4 + 3 = 7 := ⟨by decide +kernel, rfl⟩
theorem zd_M_eyesOfTests_7 : decode zb_M_eyesOfTests 7 = .ok (.if_icmp .ge 94, 3) ∧ ((7 : Nat) : Int) + (94) = ((101 : Nat) : Int) ∧ 7 + 3 = 10 := ⟨by decide +kernel, by decide, rfl⟩
theorem zd_M_eyesOfTests_10 : decode zb_M_eyesOfTests 10 = .ok (.aload_n 0, 1) ∧ 10 + 1 = 11 := ⟨by decide +kernel, rfl⟩
theorem zd_M_eyesOfTests_11 : decode zb_M_eyesOfTests 11 = .ok (.getfield 42, 3) ∧ 11 + 3 = 14 := ⟨by decide +kernel, rfl⟩
theorem zd_M_eyesOfTests_14 : decode zb_M_eyesOfTests 14 = .ok (.ifCond .ne 87, 3) ∧ ((14 : Nat) : Int) + (87) = ((101 : Nat) : Int) ∧ 14 + 3 = 17 := ⟨by decide +kernel, by decide, rfl⟩
theorem zd_M_eyesOfTests_17 : decode zb_M_eyesOfTests 17 = .ok (.aload_n 0, 1) ∧ 17 + 1 = 18 := ⟨by decide +kernel, rfl⟩
theorem zd_M_eyesOfTests_18 : decode zb_M_eyesOfTests 18 = .ok (.getfield 100, 3) ∧ 18 + 3 = 21 := ⟨by decide +kernel, rfl⟩
theorem zd_M_eyesOfTests_21 : decode zb_M_eyesOfTests 21 = .ok (.sipush 1600, 3) ∧ 21 + 3 = 24 := ⟨by decide +kernel, rfl⟩
theorem zd_M_eyesOfTests_24 : decode zb_M_eyesOfTests 24 = .ok (.aload_n 0, 1) ∧ 24 + 1 = 25 := ⟨by decide +kernel, rfl⟩
theorem zd_M_eyesOfTests_25 : decode zb_M_eyesOfTests 25 = .ok (.getfield 118, 3) ∧ 25 + 3 = 28 := ⟨by decide +kernel, rfl⟩
theorem zd_M_eyesOfTests_28 : decode zb_M_eyesOfTests 28 = .ok (.imul, 1) ∧ 28 + 1 = 29 := ⟨by decide +kernel, rfl⟩
theorem zd_M_eyesOfTests_29 : decode zb_M_eyesOfTests 29 = .ok (.iload_n 1, 1) ∧ 29 + 1 = 30 := ⟨by decide +kernel, rfl⟩
theorem zd_M_eyesOfTests_30 : decode zb_M_eyesOfTests 30 = .ok (.iadd, 1) ∧ 30 + 1 = 31 := ⟨by decide +kernel, rfl⟩
theorem zd_M_eyesOfTests_31 : decode zb_M_eyesOfTests 31 = .ok (.iaload, 1) ∧ 31 + 1 = 32 := ⟨by decide +kernel, rfl⟩
theorem zd_M_eyesOfTests_32 : decode zb_M_eyesOfTests 32 = .ok (.iconst 1, 1) ∧ 32 + 1 = 33 := ⟨by decide +kernel, rfl⟩
theorem zd_M_eyesOfTests_33 : decode zb_M_eyesOfTests 33 = .ok (.if_icmp .eq 6, 3) ∧ ((33 : Nat) : Int) + (6) = ((39 : Nat) : Int) ∧ 33 + 3 = 36 := ⟨by decide +kernel, by decide, rfl⟩
theorem zd_M_eyesOfTests_36 : decode zb_M_eyesOfTests 36 = .ok (.goto 59, 3) ∧ ((36 : Nat) : Int) + (59) = ((95 : Nat) : Int) ∧ 36 + 3 = 39 := ⟨by decide +kernel, by decide, rfl⟩
theorem zd_M_eyesOfTests_39 : decode zb_M_eyesOfTests 39 = .ok (.aload_n 0, 1) ∧ 39 + 1 = 40 := ⟨by decide +kernel, rfl⟩
theorem zd_M_eyesOfTests_40 : decode zb_M_eyesOfTests 40 = .ok (.getfield 106, 3) ∧ 40 + 3 = 43 := ⟨by decide +kernel, rfl⟩
theorem zd_M_eyesOfTests_43 : decode zb_M_eyesOfTests 43 = .ok (.sipush 1600, 3) ∧ 43 + 3 = 46 := ⟨by decide +kernel, rfl⟩
theorem zd_M_eyesOfTests_46 : decode zb_M_eyesOfTests 46 = .ok (.aload_n 0, 1) ∧ 46 + 1 = 47 := ⟨by decide +kernel, rfl⟩
theorem zd_M_eyesOfTests_47 : decode zb_M_eyesOfTests 47 = .ok (.getfield 118, 3) ∧ 47 + 3 = 50 := ⟨by decide +kernel, rfl⟩
theorem zd_M_eyesOfTests_50 : decode zb_M_eyesOfTests 50 = .ok (.imul, 1) ∧ 50 + 1 = 51 := ⟨by decide +kernel, rfl⟩
theorem zd_M_eyesOfTests_51 : decode zb_M_eyesOfTests 51 = .ok (.iload_n 1, 1) ∧ 51 + 1 = 52 := ⟨by decide +kernel, rfl⟩
theorem zd_M_eyesOfTests_52 : decode zb_M_eyesOfTests 52 = .ok (.iadd, 1) ∧ 52 + 1 = 53 := ⟨by decide +kernel, rfl⟩
theorem zd_M_eyesOfTests_53 : decode zb_M_eyesOfTests 53 = .ok (.aload_n 0, 1) ∧ 53 + 1 = 54 := ⟨by decide +kernel, rfl⟩
theorem zd_M_eyesOfTests_54 : decode zb_M_eyesOfTests 54 = .ok (.aload_n 0, 1) ∧ 54 + 1 = 55 := ⟨by decide +kernel, rfl⟩
theorem zd_M_eyesOfTests_55 : decode zb_M_eyesOfTests 55 = .ok (.getfield 109, 3) ∧ 55 + 3 = 58 := ⟨by decide +kernel, rfl⟩
theorem zd_M_eyesOfTests_58 : decode zb_M_eyesOfTests 58 = .ok (.iload_n 1, 1) ∧ 58 + 1 = 59 := ⟨by decide +kernel, rfl⟩
theorem zd_M_eyesOfTests_59 : decode zb_M_eyesOfTests 59 = .ok (.laload, 1) ∧ 59 + 1 = 60 := ⟨by decide +kernel, rfl⟩
theorem zd_M_eyesOfTests_60 : decode zb_M_eyesOfTests 60 = .ok (.invokevirtual 375, 3) ∧ 60 + 3 = 63 := ⟨by decide +kernel, rfl⟩
theorem zd_M_eyesOfTests_63 : decode zb_M_eyesOfTests 63 = .ok (.iastore, 1) ∧ 63 + 1 = 64 := ⟨by decide +kernel, rfl⟩
theorem zd_M_eyesOfTests_64 : decode zb_M_eyesOfTests 64 = .ok (.aload_n 0, 1) ∧ 64 + 1 = 65 := ⟨by decide +kernel, rfl⟩
theorem zd_M_eyesOfTests_65 : decode zb_M_eyesOfTests 65 = .ok (.getfield 106, 3) ∧ 65 + 3 = 68 := ⟨by decide +kernel, rfl⟩
theorem zd_M_eyesOfTests_68 : decode zb_M_eyesOfTests 68 = .ok (.sipush 1600, 3) ∧ 68 + 3 = 71 := ⟨by decide +kernel, rfl⟩
theorem zd_M_eyesOfTests_71 : decode zb_M_eyesOfTests 71 = .ok (.aload_n 0, 1) ∧ 71 + 1 = 72 := ⟨by decide +kernel, rfl⟩
theorem zd_M_eyesOfTests_72 : decode zb_M_eyesOfTests 72 = .ok (.getfield 118, 3) ∧ 72 + 3 = 75 := ⟨by decide +kernel, rfl⟩
theorem zd_M_eyesOfTests_75 : decode zb_M_eyesOfTests 75 = .ok (.imul, 1) ∧ 75 + 1 = 76 := ⟨by decide +kernel, rfl⟩
theorem zd_M_eyesOfTests_76 : decode zb_M_eyesOfTests 76 = .ok (.iload_n 1, 1) ∧ 76 + 1 = 77 := ⟨by decide +kernel, rfl⟩
theorem zd_M_eyesOfTests_77 : decode zb_M_eyesOfTests 77 = .ok (.iadd, 1) ∧ 77 + 1 = 78 := ⟨by decide +kernel, rfl⟩
theorem zd_M_eyesOfTests_78 : decode zb_M_eyesOfTests 78 = .ok (.iaload, 1) ∧ 78 + 1 = 79 := ⟨by decide +kernel, rfl⟩
theorem zd_M_eyesOfTests_79 : decode zb_M_eyesOfTests 79 = .ok (.iconst (-1), 1) ∧ 79 + 1 = 80 := ⟨by decide +kernel, rfl⟩
theorem zd_M_eyesOfTests_80 : decode zb_M_eyesOfTests 80 = .ok (.if_icmp .ne 15, 3) ∧ ((80 : Nat) : Int) + (15) = ((95 : Nat) : Int) ∧ 80 + 3 = 83 := ⟨by decide +kernel, by decide, rfl⟩
theorem zd_M_eyesOfTests_83 : decode zb_M_eyesOfTests 83 = .ok (.aload_n 0, 1) ∧ 83 + 1 = 84 := ⟨by decide +kernel, rfl⟩
theorem zd_M_eyesOfTests_84 : decode zb_M_eyesOfTests 84 = .ok (.bipush 6, 2) ∧ 84 + 2 = 86 := ⟨by decide +kernel, rfl⟩
theorem zd_M_eyesOfTests_86 : decode zb_M_eyesOfTests 86 = .ok (.aload_n 0, 1) ∧ 86 + 1 = 87 := ⟨by decide +kernel, rfl⟩
theorem zd_M_eyesOfTests_87 : decode zb_M_eyesOfTests 87 = .ok (.getfield 112, 3) ∧ 87 + 3 = 90 := ⟨by decide +kernel, rfl⟩
theorem zd_M_eyesOfTests_90 : decode zb_M_eyesOfTests 90 = .ok (.iload_n 1, 1) ∧ 90 + 1 = 91 := ⟨by decide +kernel, rfl⟩
theorem zd_M_eyesOfTests_91 : decode zb_M_eyesOfTests 91 = .ok (.iaload, 1) ∧ 91 + 1 = 92 := ⟨by decide +kernel, rfl⟩
theorem zd_M_eyesOfTests_92 : decode zb_M_eyesOfTests 92 = .ok (.invokevirtual 295, 3) ∧ 92 + 3 = 95 := ⟨by decide +kernel, rfl⟩
theorem zd_M_eyesOfTests_95 : decode zb_M_eyesOfTests 95 = .ok (.iinc 1 1, 3) ∧ 95 + 3 = 98 := ⟨by decide +kernel, rfl⟩
theorem zd_M_eyesOfTests_98 : decode zb_M_eyesOfTests 98 = .ok (.goto (-96), 3) ∧ ((98 : Nat) : Int) + (-96) = ((2 : Nat) : Int) ∧ 98 + 3 = 101 := ⟨by decide +kernel, by decide, rfl⟩
theorem zd_M_eyesOfTests_101 : decode zb_M_eyesOfTests 101 = .ok (.return_, 1) ∧ 101 + 1 = 102 := ⟨by decide +kernel, rfl⟩
theorem zd_M_fresh_0 : decode zb_M_fresh 0 = .ok (.aload_n 0, 1) ∧ 0 + 1 = 1 := ⟨by decide +kernel, rfl⟩
theorem zd_M_fresh_1 : decode zb_M_fresh 1 = .ok (.iconst 1, 1) ∧ 1 + 1 = 2 := ⟨by decide +kernel, rfl⟩
theorem zd_M_fresh_2 : decode zb_M_fresh 2 = .ok (.aload_n 0, 1) ∧ 2 + 1 = 3 := ⟨by decide +kernel, rfl⟩
theorem zd_M_fresh_3 : decode zb_M_fresh 3 = .ok (.getfield 51, 3) ∧ 3 + 3 = 6 := ⟨by decide +kernel, rfl⟩
theorem zd_M_fresh_6 : decode zb_M_fresh 6 = .ok (.isub, 1) ∧ 6 + 1 = 7 := ⟨by decide +kernel, rfl⟩
theorem zd_M_fresh_7 : decode zb_M_fresh 7 = .ok (.putfield 118, 3) ∧ 7 + 3 = 10 := ⟨by decide +kernel, rfl⟩
theorem zd_M_fresh_10 : decode zb_M_fresh 10 = .ok (.aload_n 0, 1) ∧ 10 + 1 = 11 := ⟨by decide +kernel, rfl⟩
theorem zd_M_fresh_11 : decode zb_M_fresh 11 = .ok (.getfield 54, 3) ∧ 11 + 3 = 14 := ⟨by decide +kernel, rfl⟩
theorem zd_M_fresh_14 : decode zb_M_fresh 14 = .ok (.aload_n 0, 1) ∧ 14 + 1 = 15 := ⟨by decide +kernel, rfl⟩
theorem zd_M_fresh_15 : decode zb_M_fresh 15 = .ok (.getfield 118, 3) ∧ 15 + 3 = 18 := ⟨by decide +kernel, rfl⟩
theorem zd_M_fresh_18 : decode zb_M_fresh 18 = .ok (.iconst 0, 1) ∧ 18 + 1 = 19 := ⟨by decide +kernel, rfl⟩
theorem zd_M_fresh_19 : decode zb_M_fresh 19 = .ok (.iastore, 1) ∧ 19 + 1 = 20 := ⟨by decide +kernel, rfl⟩
theorem zd_M_fresh_20 : decode zb_M_fresh 20 = .ok (.aload_n 0, 1) ∧ 20 + 1 = 21 := ⟨by decide +kernel, rfl⟩
theorem zd_M_fresh_21 : decode zb_M_fresh 21 = .ok (.getfield 57, 3) ∧ 21 + 3 = 24 := ⟨by decide +kernel, rfl⟩
theorem zd_M_fresh_24 : decode zb_M_fresh 24 = .ok (.aload_n 0, 1) ∧ 24 + 1 = 25 := ⟨by decide +kernel, rfl⟩
theorem zd_M_fresh_25 : decode zb_M_fresh 25 = .ok (.getfield 118, 3) ∧ 25 + 3 = 28 := ⟨by decide +kernel, rfl⟩
theorem zd_M_fresh_28 : decode zb_M_fresh 28 = .ok (.iconst 0, 1) ∧ 28 + 1 = 29 := ⟨by decide +kernel, rfl⟩
theorem zd_M_fresh_29 : decode zb_M_fresh 29 = .ok (.iastore, 1) ∧ 29 + 1 = 30 := ⟨by decide +kernel, rfl⟩
theorem zd_M_fresh_30 : decode zb_M_fresh 30 = .ok (.aload_n 0, 1) ∧ 30 + 1 = 31 := ⟨by decide +kernel, rfl⟩
theorem zd_M_fresh_31 : decode zb_M_fresh 31 = .ok (.getfield 60, 3) ∧ 31 + 3 = 34 := ⟨by decide +kernel, rfl⟩
theorem zd_M_fresh_34 : decode zb_M_fresh 34 = .ok (.aload_n 0, 1) ∧ 34 + 1 = 35 := ⟨by decide +kernel, rfl⟩
theorem zd_M_fresh_35 : decode zb_M_fresh 35 = .ok (.getfield 118, 3) ∧ 35 + 3 = 38 := ⟨by decide +kernel, rfl⟩
theorem zd_M_fresh_38 : decode zb_M_fresh 38 = .ok (.iconst 0, 1) ∧ 38 + 1 = 39 := ⟨by decide +kernel, rfl⟩
theorem zd_M_fresh_39 : decode zb_M_fresh 39 = .ok (.iastore, 1) ∧ 39 + 1 = 40 := ⟨by decide +kernel, rfl⟩
theorem zd_M_fresh_40 : decode zb_M_fresh 40 = .ok (.aload_n 0, 1) ∧ 40 + 1 = 41 := ⟨by decide +kernel, rfl⟩
theorem zd_M_fresh_41 : decode zb_M_fresh 41 = .ok (.getfield 63, 3) ∧ 41 + 3 = 44 := ⟨by decide +kernel, rfl⟩
theorem zd_M_fresh_44 : decode zb_M_fresh 44 = .ok (.aload_n 0, 1) ∧ 44 + 1 = 45 := ⟨by decide +kernel, rfl⟩
theorem zd_M_fresh_45 : decode zb_M_fresh 45 = .ok (.getfield 118, 3) ∧ 45 + 3 = 48 := ⟨by decide +kernel, rfl⟩
theorem zd_M_fresh_48 : decode zb_M_fresh 48 = .ok (.iconst 0, 1) ∧ 48 + 1 = 49 := ⟨by decide +kernel, rfl⟩
theorem zd_M_fresh_49 : decode zb_M_fresh 49 = .ok (.iastore, 1) ∧ 49 + 1 = 50 := ⟨by decide +kernel, rfl⟩
theorem zd_M_fresh_50 : decode zb_M_fresh 50 = .ok (.aload_n 0, 1) ∧ 50 + 1 = 51 := ⟨by decide +kernel, rfl⟩
theorem zd_M_fresh_51 : decode zb_M_fresh 51 = .ok (.getfield 66, 3) ∧ 51 + 3 = 54 := ⟨by decide +kernel, rfl⟩
theorem zd_M_fresh_54 : decode zb_M_fresh 54 = .ok (.aload_n 0, 1) ∧ 54 + 1 = 55 := ⟨by decide +kernel, rfl⟩
theorem zd_M_fresh_55 : decode zb_M_fresh 55 = .ok (.getfield 118, 3) ∧ 55 + 3 = 58 := ⟨by decide +kernel, rfl⟩
theorem zd_M_fresh_58 : decode zb_M_fresh 58 = .ok (.iconst 0, 1) ∧ 58 + 1 = 59 := ⟨by decide +kernel, rfl⟩
theorem zd_M_fresh_59 : decode zb_M_fresh 59 = .ok (.iastore, 1) ∧ 59 + 1 = 60 := ⟨by decide +kernel, rfl⟩
theorem zd_M_fresh_60 : decode zb_M_fresh 60 = .ok (.aload_n 0, 1) ∧ 60 + 1 = 61 := ⟨by decide +kernel, rfl⟩
theorem zd_M_fresh_61 : decode zb_M_fresh 61 = .ok (.getfield 69, 3) ∧ 61 + 3 = 64 := ⟨by decide +kernel, rfl⟩
theorem zd_M_fresh_64 : decode zb_M_fresh 64 = .ok (.aload_n 0, 1) ∧ 64 + 1 = 65 := ⟨by decide +kernel, rfl⟩
theorem zd_M_fresh_65 : decode zb_M_fresh 65 = .ok (.getfield 118, 3) ∧ 65 + 3 = 68 := ⟨by decide +kernel, rfl⟩
theorem zd_M_fresh_68 : decode zb_M_fresh 68 = .ok (.iconst 0, 1) ∧ 68 + 1 = 69 := ⟨by decide +kernel, rfl⟩
theorem zd_M_fresh_69 : decode zb_M_fresh 69 = .ok (.iastore, 1) ∧ 69 + 1 = 70 := ⟨by decide +kernel, rfl⟩
theorem zd_M_fresh_70 : decode zb_M_fresh 70 = .ok (.aload_n 0, 1) ∧ 70 + 1 = 71 := ⟨by decide +kernel, rfl⟩
theorem zd_M_fresh_71 : decode zb_M_fresh 71 = .ok (.getfield 72, 3) ∧ 71 + 3 = 74 := ⟨by decide +kernel, rfl⟩
theorem zd_M_fresh_74 : decode zb_M_fresh 74 = .ok (.aload_n 0, 1) ∧ 74 + 1 = 75 := ⟨by decide +kernel, rfl⟩
theorem zd_M_fresh_75 : decode zb_M_fresh 75 = .ok (.getfield 118, 3) ∧ 75 + 3 = 78 := ⟨by decide +kernel, rfl⟩
theorem zd_M_fresh_78 : decode zb_M_fresh 78 = .ok (.iconst 0, 1) ∧ 78 + 1 = 79 := ⟨by decide +kernel, rfl⟩
theorem zd_M_fresh_79 : decode zb_M_fresh 79 = .ok (.iastore, 1) ∧ 79 + 1 = 80 := ⟨by decide +kernel, rfl⟩
theorem zd_M_fresh_80 : decode zb_M_fresh 80 = .ok (.aload_n 0, 1) ∧ 80 + 1 = 81 := ⟨by decide +kernel, rfl⟩
theorem zd_M_fresh_81 : decode zb_M_fresh 81 = .ok (.iconst 0, 1) ∧ 81 + 1 = 82 := ⟨by decide +kernel, rfl⟩
theorem zd_M_fresh_82 : decode zb_M_fresh 82 = .ok (.putfield 115, 3) ∧ 82 + 3 = 85 := ⟨by decide +kernel, rfl⟩
theorem zd_M_fresh_85 : decode zb_M_fresh 85 = .ok (.sipush 144, 3) ∧ 85 + 3 = 88 := ⟨by decide +kernel, rfl⟩
theorem zd_M_fresh_88 : decode zb_M_fresh 88 = .ok (.aload_n 0, 1) ∧ 88 + 1 = 89 := ⟨by decide +kernel, rfl⟩
theorem zd_M_fresh_89 : decode zb_M_fresh 89 = .ok (.getfield 118, 3) ∧ 89 + 3 = 92 := ⟨by decide +kernel, rfl⟩
theorem zd_M_fresh_92 : decode zb_M_fresh 92 = .ok (.imul, 1) ∧ 92 + 1 = 93 := ⟨by decide +kernel, rfl⟩
theorem zd_M_fresh_93 : decode zb_M_fresh 93 = .ok (.istore_n 1, 1) ∧ 93 + 1 = 94 := ⟨by decide +kernel, rfl⟩
theorem zd_M_fresh_94 : decode zb_M_fresh 94 = .ok (.iload_n 1, 1) ∧ 94 + 1 = 95 := ⟨by decide +kernel, rfl⟩
theorem zd_M_fresh_95 : decode zb_M_fresh 95 = .ok (.sipush 144, 3) ∧ 95 + 3 = 98 := ⟨by decide +kernel, rfl⟩
theorem zd_M_fresh_98 : decode zb_M_fresh 98 = .ok (.aload_n 0, 1) ∧ 98 + 1 = 99 := ⟨by decide +kernel, rfl⟩
theorem zd_M_fresh_99 : decode zb_M_fresh 99 = .ok (.getfield 118, 3) ∧ 99 + 3 = 102 := ⟨by decide +kernel, rfl⟩
theorem zd_M_fresh_102 : decode zb_M_fresh 102 = .ok (.imul, 1) ∧ 102 + 1 = 103 := ⟨by decide +kernel, rfl⟩
theorem zd_M_fresh_103 : decode zb_M_fresh 103 = .ok (.sipush 144, 3) ∧ 103 + 3 = 106 := ⟨by decide +kernel, rfl⟩
theorem zd_M_fresh_106 : decode zb_M_fresh 106 = .ok (.iadd, 1) ∧ 106 + 1 = 107 := ⟨by decide +kernel, rfl⟩
theorem zd_M_fresh_107 : decode zb_M_fresh 107 = .ok (.if_icmp .ge 16, 3) ∧ ((107 : Nat) : Int) + (16) = ((123 : Nat) : Int) ∧ 107 + 3 = 110 := ⟨by decide +kernel, by decide, rfl⟩
theorem zd_M_fresh_110 : decode zb_M_fresh 110 = .ok (.aload_n 0, 1) ∧ 110 + 1 = 111 := ⟨by decide +kernel, rfl⟩
theorem zd_M_fresh_111 : decode zb_M_fresh 111 = .ok (.getfield 75, 3) ∧ 111 + 3 = 114 := ⟨by decide +kernel, rfl⟩
theorem zd_M_fresh_114 : decode zb_M_fresh 114 = .ok (.iload_n 1, 1) ∧ 114 + 1 = 115 := ⟨by decide +kernel, rfl⟩
theorem zd_M_fresh_115 : decode zb_M_fresh 115 = .ok (.iconst 0, 1) ∧ 115 + 1 = 116 := ⟨by decide +kernel, rfl⟩
theorem zd_M_fresh_116 : decode zb_M_fresh 116 = .ok (.iastore, 1) ∧ 116 + 1 = 117 := ⟨by decide +kernel, rfl⟩
theorem zd_M_fresh_117 : decode zb_M_fresh 117 = .ok (.iinc 1 1, 3) ∧ 117 + 3 = 120 := ⟨by decide +kernel, rfl⟩
theorem zd_M_fresh_120 : decode zb_M_fresh 120 = .ok (.goto (-26), 3) ∧ ((120 : Nat) : Int) + (-26) = ((94 : Nat) : Int) ∧ 120 + 3 = 123 := ⟨by decide +kernel, by decide, rfl⟩
theorem zd_M_fresh_123 : decode zb_M_fresh 123 = .ok (.return_, 1) ∧ 123 + 1 = 124 := ⟨by decide +kernel, rfl⟩
theorem zd_M_board_0 : decode zb_M_board 0 = .ok (.aload_n 0, 1) ∧ 0 + 1 = 1 := ⟨by decide +kernel, rfl⟩
theorem zd_M_board_1 : decode zb_M_board 1 = .ok (.aload_n 0, 1) ∧ 1 + 1 = 2 := ⟨by decide +kernel, rfl⟩
theorem zd_M_board_2 : decode zb_M_board 2 = .ok (.getfield 13, 3) ∧ 2 + 3 = 5 := ⟨by decide +kernel, rfl⟩
theorem zd_M_board_5 : decode zb_M_board 5 = .ok (.putfield 23, 3) ∧ 5 + 3 = 8 := ⟨by decide +kernel, rfl⟩
theorem zd_M_board_8 : decode zb_M_board 8 = .ok (.aload_n 0, 1) ∧ 8 + 1 = 9 := ⟨by decide +kernel, rfl⟩
theorem zd_M_board_9 : decode zb_M_board 9 = .ok (.iconst 0, 1) ∧ 9 + 1 = 10 := ⟨by decide +kernel, rfl⟩
theorem zd_M_board_10 : decode zb_M_board 10 = .ok (.putfield 13, 3) ∧ 10 + 3 = 13 := ⟨by decide +kernel, rfl⟩
theorem zd_M_board_13 : decode zb_M_board 13 = .ok (.aload_n 0, 1) ∧ 13 + 1 = 14 := ⟨by decide +kernel, rfl⟩
theorem zd_M_board_14 : decode zb_M_board 14 = .ok (.iconst 0, 1) ∧ 14 + 1 = 15 := ⟨by decide +kernel, rfl⟩
theorem zd_M_board_15 : decode zb_M_board 15 = .ok (.putfield 29, 3) ∧ 15 + 3 = 18 := ⟨by decide +kernel, rfl⟩
theorem zd_M_board_18 : decode zb_M_board 18 = .ok (.aload_n 0, 1) ∧ 18 + 1 = 19 := ⟨by decide +kernel, rfl⟩
theorem zd_M_board_19 : decode zb_M_board 19 = .ok (.iconst 0, 1) ∧ 19 + 1 = 20 := ⟨by decide +kernel, rfl⟩
theorem zd_M_board_20 : decode zb_M_board 20 = .ok (.putfield 42, 3) ∧ 20 + 3 = 23 := ⟨by decide +kernel, rfl⟩
theorem zd_M_board_23 : decode zb_M_board 23 = .ok (.aload_n 0, 1) ∧ 23 + 1 = 24 := ⟨by decide +kernel, rfl⟩
theorem zd_M_board_24 : decode zb_M_board 24 = .ok (.iconst (-1), 1) ∧ 24 + 1 = 25 := ⟨by decide +kernel, rfl⟩
theorem zd_M_board_25 : decode zb_M_board 25 = .ok (.putfield 45, 3) ∧ 25 + 3 = 28 := ⟨by decide +kernel, rfl⟩
theorem zd_M_board_28 : decode zb_M_board 28 = .ok (.aload_n 0, 1) ∧ 28 + 1 = 29 := ⟨by decide +kernel, rfl⟩
theorem zd_M_board_29 : decode zb_M_board 29 = .ok (.invokevirtual 397, 3) ∧ 29 + 3 = 32 := ⟨by decide +kernel, rfl⟩
theorem zd_M_board_32 : decode zb_M_board 32 = .ok (.iconst 0, 1) ∧ 32 + 1 = 33 := ⟨by decide +kernel, rfl⟩
theorem zd_M_board_33 : decode zb_M_board 33 = .ok (.istore_n 1, 1) ∧ 33 + 1 = 34 := ⟨by decide +kernel, rfl⟩
theorem zd_M_board_34 : decode zb_M_board 34 = .ok (.aload_n 0, 1) ∧ 34 + 1 = 35 := ⟨by decide +kernel, rfl⟩
theorem zd_M_board_35 : decode zb_M_board 35 = .ok (.invokevirtual 317, 3) ∧ 35 + 3 = 38 := ⟨by decide +kernel, rfl⟩
theorem zd_M_board_38 : decode zb_M_board 38 = .ok (.aload_n 0, 1) ∧ 38 + 1 = 39 := ⟨by decide +kernel, rfl⟩
theorem zd_M_board_39 : decode zb_M_board 39 = .ok (.invokevirtual 400, 3) ∧ 39 + 3 = 42 := ⟨by decide +kernel, rfl⟩
theorem zd_M_board_42 : decode zb_M_board 42 = .ok (.iinc 1 1, 3) ∧ 42 + 3 = 45 := ⟨by decide +kernel, rfl⟩
theorem zd_M_board_45 : decode zb_M_board 45 = .ok (.aload_n 0, 1) ∧ 45 + 1 = 46 := ⟨by decide +kernel, rfl⟩
theorem zd_M_board_46 : decode zb_M_board 46 = .ok (.getfield 42, 3) ∧ 46 + 3 = 49 := ⟨by decide +kernel, rfl⟩
theorem zd_M_board_49 : decode zb_M_board 49 = .ok (.ifCond .ne 62, 3) ∧ ((49 : Nat) : Int) + (62) = ((111 : Nat) : Int) ∧ 49 + 3 = 52 := ⟨by decide +kernel, by decide, rfl⟩
theorem zd_M_board_52 : decode zb_M_board 52 = .ok (.aload_n 0, 1) ∧ 52 + 1 = 53 := ⟨by decide +kernel, rfl⟩
theorem zd_M_board_53 : decode zb_M_board 53 = .ok (.getfield 32, 3) ∧ 53 + 3 = 56 := ⟨by decide +kernel, rfl⟩
theorem zd_M_board_56 : decode zb_M_board 56 = .ok (.ifCond .eq 55, 3) ∧ ((56 : Nat) : Int) + (55) = ((111 : Nat) : Int) ∧ 56 + 3 = 59 := ⟨by decide +kernel, by decide, rfl⟩
theorem zd_M_board_59 : decode zb_M_board 59 = .ok (.iload_n 1, 1) ∧ 59 + 1 = 60 := ⟨by decide +kernel, rfl⟩
theorem zd_M_board_60 : decode zb_M_board 60 = .ok (.bipush 60, 2) ∧ 60 + 2 = 62 := ⟨by decide +kernel, rfl⟩
theorem zd_M_board_62 : decode zb_M_board 62 = .ok (.if_icmp .ne 15, 3) ∧ ((62 : Nat) : Int) + (15) = ((77 : Nat) : Int) ∧ 62 + 3 = 65 := ⟨by decide +kernel, by decide, rfl⟩
theorem zd_M_board_65 : decode zb_M_board 65 = .ok (.aload_n 0, 1) ∧ 65 + 1 = 66 := ⟨by decide +kernel, rfl⟩
theorem zd_M_board_66 : decode zb_M_board 66 = .ok (.iconst 5, 1) ∧ 66 + 1 = 67 := ⟨by decide +kernel, rfl⟩
theorem zd_M_board_67 : decode zb_M_board 67 = .ok (.aload_n 0, 1) ∧ 67 + 1 = 68 := ⟨by decide +kernel, rfl⟩
theorem zd_M_board_68 : decode zb_M_board 68 = .ok (.getfield 26, 3) ∧ 68 + 3 = 71 := ⟨by decide +kernel, rfl⟩
theorem zd_M_board_71 : decode zb_M_board 71 = .ok (.invokevirtual 295, 3) ∧ 71 + 3 = 74 := ⟨by decide +kernel, rfl⟩
theorem zd_M_board_74 : decode zb_M_board 74 = .ok (.goto 20, 3) ∧ ((74 : Nat) : Int) + (20) = ((94 : Nat) : Int) ∧ 74 + 3 = 77 := ⟨by decide +kernel, by decide, rfl⟩
theorem zd_M_board_77 : decode zb_M_board 77 = .ok (.aload_n 0, 1) ∧ 77 + 1 = 78 := ⟨by decide +kernel, rfl⟩
theorem zd_M_board_78 : decode zb_M_board 78 = .ok (.getfield 48, 3) ∧ 78 + 3 = 81 := ⟨by decide +kernel, rfl⟩
theorem zd_M_board_81 : decode zb_M_board 81 = .ok (.iconst (-1), 1) ∧ 81 + 1 = 82 := ⟨by decide +kernel, rfl⟩
theorem zd_M_board_82 : decode zb_M_board 82 = .ok (.if_icmp .eq 12, 3) ∧ ((82 : Nat) : Int) + (12) = ((94 : Nat) : Int) ∧ 82 + 3 = 85 := ⟨by decide +kernel, by decide, rfl⟩
theorem zd_M_board_85 : decode zb_M_board 85 = .ok (.aload_n 0, 1) ∧ 85 + 1 = 86 := ⟨by decide +kernel, rfl⟩
theorem zd_M_board_86 : decode zb_M_board 86 = .ok (.iconst 1, 1) ∧ 86 + 1 = 87 := ⟨by decide +kernel, rfl⟩
theorem zd_M_board_87 : decode zb_M_board 87 = .ok (.aload_n 0, 1) ∧ 87 + 1 = 88 := ⟨by decide +kernel, rfl⟩
theorem zd_M_board_88 : decode zb_M_board 88 = .ok (.getfield 48, 3) ∧ 88 + 3 = 91 := ⟨by decide +kernel, rfl⟩
theorem zd_M_board_91 : decode zb_M_board 91 = .ok (.invokevirtual 295, 3) ∧ 91 + 3 = 94 := ⟨by decide +kernel, rfl⟩
theorem zd_M_board_94 : decode zb_M_board 94 = .ok (.aload_n 0, 1) ∧ 94 + 1 = 95 := ⟨by decide +kernel, rfl⟩
theorem zd_M_board_95 : decode zb_M_board 95 = .ok (.getfield 42, 3) ∧ 95 + 3 = 98 := ⟨by decide +kernel, rfl⟩
theorem zd_M_board_98 : decode zb_M_board 98 = .ok (.ifCond .ne 7, 3) ∧ ((98 : Nat) : Int) + (7) = ((105 : Nat) : Int) ∧ 98 + 3 = 101 := ⟨by decide +kernel, by decide, rfl⟩
theorem zd_M_board_101 : decode zb_M_board 101 = .ok (.aload_n 0, 1) ∧ 101 + 1 = 102 := ⟨by decide +kernel, rfl⟩
theorem zd_M_board_102 : decode zb_M_board 102 = .ok (.invokevirtual 403, 3) ∧ 102 + 3 = 105 := ⟨by decide +kernel, rfl⟩
theorem zd_M_board_105 : decode zb_M_board 105 = .ok (.iinc 1 1, 3) ∧ 105 + 3 = 108 := ⟨by decide +kernel, rfl⟩
theorem zd_M_board_108 : decode zb_M_board 108 = .ok (.goto (-63), 3) ∧ ((108 : Nat) : Int) + (-63) = ((45 : Nat) : Int) ∧ 108 + 3 = 111 := ⟨by decide +kernel, by decide, rfl⟩
theorem zd_M_board_111 : decode zb_M_board 111 = .ok (.aload_n 0, 1) ∧ 111 + 1 = 112 := ⟨by decide +kernel, rfl⟩
theorem zd_M_board_112 : decode zb_M_board 112 = .ok (.invokevirtual 406, 3) ∧ 112 + 3 = 115 := ⟨by decide +kernel, rfl⟩
theorem zd_M_board_115 : decode zb_M_board 115 = .ok (.aload_n 0, 1) ∧ 115 + 1 = 116 := ⟨by decide +kernel, rfl⟩
theorem zd_M_board_116 : decode zb_M_board 116 = .ok (.aload_n 0, 1) ∧ 116 + 1 = 117 := ⟨by decide +kernel, rfl⟩
theorem zd_M_board_117 : decode zb_M_board 117 = .ok (.getfield 42, 3) ∧ 117 + 3 = 120 := ⟨by decide +kernel, rfl⟩
theorem zd_M_board_120 : decode zb_M_board 120 = .ok (.putfield 17, 3) ∧ 120 + 3 = 123 := ⟨by decide +kernel, rfl⟩
theorem zd_M_board_123 : decode zb_M_board 123 = .ok (.aload_n 0, 1) ∧ 123 + 1 = 124 := ⟨by decide +kernel, rfl⟩
theorem zd_M_board_124 : decode zb_M_board 124 = .ok (.aload_n 0, 1) ∧ 124 + 1 = 125 := ⟨by decide +kernel, rfl⟩
theorem zd_M_board_125 : decode zb_M_board 125 = .ok (.getfield 45, 3) ∧ 125 + 3 = 128 := ⟨by decide +kernel, rfl⟩
theorem zd_M_board_128 : decode zb_M_board 128 = .ok (.putfield 20, 3) ∧ 128 + 3 = 131 := ⟨by decide +kernel, rfl⟩
theorem zd_M_board_131 : decode zb_M_board 131 = .ok (.aload_n 0, 1) ∧ 131 + 1 = 132 := ⟨by decide +kernel, rfl⟩
theorem zd_M_board_132 : decode zb_M_board 132 = .ok (.getfield 42, 3) ∧ 132 + 3 = 135 := ⟨by decide +kernel, rfl⟩
theorem zd_M_board_135 : decode zb_M_board 135 = .ok (.ifCond .le 5, 3) ∧ ((135 : Nat) : Int) + (5) = ((140 : Nat) : Int) ∧ 135 + 3 = 138 := ⟨by decide +kernel, by decide, rfl⟩
theorem zd_M_board_138 : decode zb_M_board 138 = .ok (.iconst (-1), 1) ∧ 138 + 1 = 139 := ⟨by decide +kernel, rfl⟩
theorem zd_M_board_139 : decode zb_M_board 139 = .ok (.ireturn, 1) ∧ 139 + 1 = 140 := ⟨by decide +kernel, rfl⟩
theorem zd_M_board_140 : decode zb_M_board 140 = .ok (.aload_n 0, 1) ∧ 140 + 1 = 141 := ⟨by decide +kernel, rfl⟩
theorem zd_M_board_141 : decode zb_M_board 141 = .ok (.aload_n 0, 1) ∧ 141 + 1 = 142 := ⟨by decide +kernel, rfl⟩
theorem zd_M_board_142 : decode zb_M_board 142 = .ok (.getfield 118, 3) ∧ 142 + 3 = 145 := ⟨by decide +kernel, rfl⟩
theorem zd_M_board_145 : decode zb_M_board 145 = .ok (.putfield 51, 3) ∧ 145 + 3 = 148 := ⟨by decide +kernel, rfl⟩
theorem zd_M_board_148 : decode zb_M_board 148 = .ok (.aload_n 0, 1) ∧ 148 + 1 = 149 := ⟨by decide +kernel, rfl⟩
theorem zd_M_board_149 : decode zb_M_board 149 = .ok (.iconst 0, 1) ∧ 149 + 1 = 150 := ⟨by decide +kernel, rfl⟩
theorem zd_M_board_150 : decode zb_M_board 150 = .ok (.putfield 141, 3) ∧ 150 + 3 = 153 := ⟨by decide +kernel, rfl⟩
theorem zd_M_board_153 : decode zb_M_board 153 = .ok (.aload_n 0, 1) ∧ 153 + 1 = 154 := ⟨by decide +kernel, rfl⟩
theorem zd_M_board_154 : decode zb_M_board 154 = .ok (.iconst 0, 1) ∧ 154 + 1 = 155 := ⟨by decide +kernel, rfl⟩
theorem zd_M_board_155 : decode zb_M_board 155 = .ok (.putfield 144, 3) ∧ 155 + 3 = 158 := ⟨by decide +kernel, rfl⟩
theorem zd_M_board_158 : decode zb_M_board 158 = .ok (.aload_n 0, 1) ∧ 158 + 1 = 159 := ⟨by decide +kernel, rfl⟩
theorem zd_M_board_159 : decode zb_M_board 159 = .ok (.iconst 0, 1) ∧ 159 + 1 = 160 := ⟨by decide +kernel, rfl⟩
theorem zd_M_board_160 : decode zb_M_board 160 = .ok (.putfield 219, 3) ∧ 160 + 3 = 163 := ⟨by decide +kernel, rfl⟩
theorem zd_M_board_163 : decode zb_M_board 163 = .ok (.iconst 0, 1) ∧ 163 + 1 = 164 := ⟨by decide +kernel, rfl⟩
theorem zd_M_board_164 : decode zb_M_board 164 = .ok (.istore_n 2, 1) ∧ 164 + 1 = 165 := ⟨by decide +kernel, rfl⟩
theorem zd_M_board_165 : decode zb_M_board 165 = .ok (.iload_n 2, 1) ∧ 165 + 1 = 166 := ⟨by decide +kernel, rfl⟩
theorem zd_M_board_166 : decode zb_M_board 166 = .ok (.bipush 8, 2) ∧ 166 + 2 = 168 := ⟨by decide +kernel, rfl⟩
theorem zd_M_board_168 : decode zb_M_board 168 = .ok (.if_icmp .ge 16, 3) ∧ ((168 : Nat) : Int) + (16) = ((184 : Nat) : Int) ∧ 168 + 3 = 171 := ⟨by decide +kernel, by decide, rfl⟩
theorem zd_M_board_171 : decode zb_M_board 171 = .ok (.aload_n 0, 1) ∧ 171 + 1 = 172 := ⟨by decide +kernel, rfl⟩
theorem zd_M_board_172 : decode zb_M_board 172 = .ok (.getfield 147, 3) ∧ 172 + 3 = 175 := ⟨by decide +kernel, rfl⟩
theorem zd_M_board_175 : decode zb_M_board 175 = .ok (.iload_n 2, 1) ∧ 175 + 1 = 176 := ⟨by decide +kernel, rfl⟩
theorem zd_M_board_176 : decode zb_M_board 176 = .ok (.iconst 0, 1) ∧ 176 + 1 = 177 := ⟨by decide +kernel, rfl⟩
theorem zd_M_board_177 : decode zb_M_board 177 = .ok (.iastore, 1) ∧ 177 + 1 = 178 := ⟨by decide +kernel, rfl⟩
theorem zd_M_board_178 : decode zb_M_board 178 = .ok (.iinc 2 1, 3) ∧ 178 + 3 = 181 := ⟨by decide +kernel, rfl⟩
theorem zd_M_board_181 : decode zb_M_board 181 = .ok (.goto (-16), 3) ∧ ((181 : Nat) : Int) + (-16) = ((165 : Nat) : Int) ∧ 181 + 3 = 184 := ⟨by decide +kernel, by decide, rfl⟩
theorem zd_M_board_184 : decode zb_M_board 184 = .ok (.iload_n 1, 1) ∧ 184 + 1 = 185 := ⟨by decide +kernel, rfl⟩
theorem zd_M_board_185 : decode zb_M_board 185 = .ok (.ireturn, 1) ∧ 185 + 1 = 186 := ⟨by decide +kernel, rfl⟩
theorem zd_M_fault_0 : decode zb_M_fault 0 = .ok (.iload_n 1, 1) ∧ 0 + 1 = 1 := ⟨by decide +kernel, rfl⟩
theorem zd_M_fault_1 : decode zb_M_fault 1 = .ok (.ifCond .ne 10, 3) ∧ ((1 : Nat) : Int) + (10) = ((11 : Nat) : Int) ∧ 1 + 3 = 4 := ⟨by decide +kernel, by decide, rfl⟩
theorem zd_M_fault_4 : decode zb_M_fault 4 = .ok (.aload_n 0, 1) ∧ 4 + 1 = 5 := ⟨by decide +kernel, rfl⟩
theorem zd_M_fault_5 : decode zb_M_fault 5 = .ok (.getfield 17, 3) ∧ 5 + 3 = 8 := ⟨by decide +kernel, rfl⟩
theorem zd_M_fault_8 : decode zb_M_fault 8 = .ok (.goto 16, 3) ∧ ((8 : Nat) : Int) + (16) = ((24 : Nat) : Int) ∧ 8 + 3 = 11 := ⟨by decide +kernel, by decide, rfl⟩
theorem zd_M_fault_11 : decode zb_M_fault 11 = .ok (.iload_n 1, 1) ∧ 11 + 1 = 12 := ⟨by decide +kernel, rfl⟩
theorem zd_M_fault_12 : decode zb_M_fault 12 = .ok (.iconst 1, 1) ∧ 12 + 1 = 13 := ⟨by decide +kernel, rfl⟩
theorem zd_M_fault_13 : decode zb_M_fault 13 = .ok (.if_icmp .ne 10, 3) ∧ ((13 : Nat) : Int) + (10) = ((23 : Nat) : Int) ∧ 13 + 3 = 16 := ⟨by decide +kernel, by decide, rfl⟩
theorem zd_M_fault_16 : decode zb_M_fault 16 = .ok (.aload_n 0, 1) ∧ 16 + 1 = 17 := ⟨by decide +kernel, rfl⟩
theorem zd_M_fault_17 : decode zb_M_fault 17 = .ok (.getfield 20, 3) ∧ 17 + 3 = 20 := ⟨by decide +kernel, rfl⟩
theorem zd_M_fault_20 : decode zb_M_fault 20 = .ok (.goto 4, 3) ∧ ((20 : Nat) : Int) + (4) = ((24 : Nat) : Int) ∧ 20 + 3 = 23 := ⟨by decide +kernel, by decide, rfl⟩
theorem zd_M_fault_23 : decode zb_M_fault 23 = .ok (.iconst (-1), 1) ∧ 23 + 1 = 24 := ⟨by decide +kernel, rfl⟩
theorem zd_M_fault_24 : decode zb_M_fault 24 = .ok (.ireturn, 1) ∧ 24 + 1 = 25 := ⟨by decide +kernel, rfl⟩
theorem zd_M_isSquare_0 : decode zb_M_isSquare 0 = .ok (.iload_n 1, 1) ∧ 0 + 1 = 1 := ⟨by decide +kernel, rfl⟩
theorem zd_M_isSquare_1 : decode zb_M_isSquare 1 = .ok (.iconst 0, 1) ∧ 1 + 1 = 2 := ⟨by decide +kernel, rfl⟩
theorem zd_M_isSquare_2 : decode zb_M_isSquare 2 = .ok (.aload_n 0, 1) ∧ 2 + 1 = 3 := ⟨by decide +kernel, rfl⟩
theorem zd_M_isSquare_3 : decode zb_M_isSquare 3 = .ok (.getfield 54, 3) ∧ 3 + 3 = 6 := ⟨by decide +kernel, rfl⟩
theorem zd_M_isSquare_6 : decode zb_M_isSquare 6 = .ok (.aload_n 0, 1) ∧ 6 + 1 = 7 := ⟨by decide +kernel, rfl⟩
theorem zd_M_isSquare_7 : decode zb_M_isSquare 7 = .ok (.getfield 51, 3) ∧ 7 + 3 = 10 := ⟨by decide +kernel, rfl⟩
theorem zd_M_isSquare_10 : decode zb_M_isSquare 10 = .ok (.iaload, 1) ∧ 10 + 1 = 11 := ⟨by decide +kernel, rfl⟩
theorem zd_M_isSquare_11 : decode zb_M_isSquare 11 = .ok (.iconst 1, 1) ∧ 11 + 1 = 12 := ⟨by decide +kernel, rfl⟩
theorem zd_M_isSquare_12 : decode zb_M_isSquare 12 = .ok (.isub, 1) ∧ 12 + 1 = 13 := ⟨by decide +kernel, rfl⟩
theorem zd_M_isSquare_13 : decode zb_M_isSquare 13 = .ok (.invokestatic 320, 3) ∧ 13 + 3 = 16 := ⟨by decide +kernel, rfl⟩
theorem zd_M_isSquare_16 : decode zb_M_isSquare 16 = .ok (.ifCond .eq 26, 3) ∧ ((16 : Nat) : Int) + (26) = ((42 : Nat) : Int) ∧ 16 + 3 = 19 := ⟨by decide +kernel, by decide, rfl⟩
theorem zd_M_isSquare_19 : decode zb_M_isSquare 19 = .ok (.iload_n 2, 1) ∧ 19 + 1 = 20 := ⟨by decide +kernel, rfl⟩
theorem zd_M_isSquare_20 : decode zb_M_isSquare 20 = .ok (.iconst 0, 1) ∧ 20 + 1 = 21 := ⟨by decide +kernel, rfl⟩
theorem zd_M_isSquare_21 : decode zb_M_isSquare 21 = .ok (.aload_n 0, 1) ∧ 21 + 1 = 22 := ⟨by decide +kernel, rfl⟩
theorem zd_M_isSquare_22 : decode zb_M_isSquare 22 = .ok (.getfield 57, 3) ∧ 22 + 3 = 25 := ⟨by decide +kernel, rfl⟩
theorem zd_M_isSquare_25 : decode zb_M_isSquare 25 = .ok (.aload_n 0, 1) ∧ 25 + 1 = 26 := ⟨by decide +kernel, rfl⟩
theorem zd_M_isSquare_26 : decode zb_M_isSquare 26 = .ok (.getfield 51, 3) ∧ 26 + 3 = 29 := ⟨by decide +kernel, rfl⟩
theorem zd_M_isSquare_29 : decode zb_M_isSquare 29 = .ok (.iaload, 1) ∧ 29 + 1 = 30 := ⟨by decide +kernel, rfl⟩
theorem zd_M_isSquare_30 : decode zb_M_isSquare 30 = .ok (.iconst 1, 1) ∧ 30 + 1 = 31 := ⟨by decide +kernel, rfl⟩
theorem zd_M_isSquare_31 : decode zb_M_isSquare 31 = .ok (.isub, 1) ∧ 31 + 1 = 32 := ⟨by decide +kernel, rfl⟩
theorem zd_M_isSquare_32 : decode zb_M_isSquare 32 = .ok (.invokestatic 320, 3) ∧ 32 + 3 = 35 := ⟨by decide +kernel, rfl⟩
theorem zd_M_isSquare_35 : decode zb_M_isSquare 35 = .ok (.ifCond .eq 7, 3) ∧ ((35 : Nat) : Int) + (7) = ((42 : Nat) : Int) ∧ 35 + 3 = 38 := ⟨by decide +kernel, by decide, rfl⟩
theorem zd_M_isSquare_38 : decode zb_M_isSquare 38 = .ok (.iconst 1, 1) ∧ 38 + 1 = 39 := ⟨by decide +kernel, rfl⟩
theorem zd_M_isSquare_39 : decode zb_M_isSquare 39 = .ok (.goto 4, 3) ∧ ((39 : Nat) : Int) + (4) = ((43 : Nat) : Int) ∧ 39 + 3 = 42 := ⟨by decide +kernel, by decide, rfl⟩
theorem zd_M_isSquare_42 : decode zb_M_isSquare 42 = .ok (.iconst 0, 1) ∧ 42 + 1 = 43 := ⟨by decide +kernel, rfl⟩
theorem zd_M_isSquare_43 : decode zb_M_isSquare 43 = .ok (.ireturn, 1) ∧ 43 + 1 = 44 := ⟨by decide +kernel, rfl⟩
theorem zd_M_has_0 : decode zb_M_has 0 = .ok (.iload_n 1, 1) ∧ 0 + 1 = 1 := ⟨by decide +kernel, rfl⟩
theorem zd_M_has_1 : decode zb_M_has 1 = .ok (.tableswitch 113 0 6 #[43, 53, 63, 73, 83, 93, 103], 43) ∧ 1 + 43 = 44 := ⟨by decide +kernel, rfl⟩
theorem zd_M_has_44 : decode zb_M_has 44 = .ok (.aload_n 0, 1) ∧ 44 + 1 = 45 := ⟨by decide +kernel, rfl⟩
theorem zd_M_has_45 : decode zb_M_has 45 = .ok (.getfield 54, 3) ∧ 45 + 3 = 48 := ⟨by decide +kernel, rfl⟩
theorem zd_M_has_48 : decode zb_M_has 48 = .ok (.aload_n 0, 1) ∧ 48 + 1 = 49 := ⟨by decide +kernel, rfl⟩
theorem zd_M_has_49 : decode zb_M_has 49 = .ok (.getfield 51, 3) ∧ 49 + 3 = 52 := ⟨by decide +kernel, rfl⟩
theorem zd_M_has_52 : decode zb_M_has 52 = .ok (.iaload, 1) ∧ 52 + 1 = 53 := ⟨by decide +kernel, rfl⟩
theorem zd_M_has_53 : decode zb_M_has 53 = .ok (.ireturn, 1) ∧ 53 + 1 = 54 := ⟨by decide +kernel, rfl⟩
theorem zd_M_has_54 : decode zb_M_has 54 = .ok (.aload_n 0, 1) ∧ 54 + 1 = 55 := ⟨by decide +kernel, rfl⟩
theorem zd_M_has_55 : decode zb_M_has 55 = .ok (.getfield 57, 3) ∧ 55 + 3 = 58 := ⟨by decide +kernel, rfl⟩
theorem zd_M_has_58 : decode zb_M_has 58 = .ok (.aload_n 0, 1) ∧ 58 + 1 = 59 := ⟨by decide +kernel, rfl⟩
theorem zd_M_has_59 : decode zb_M_has 59 = .ok (.getfield 51, 3) ∧ 59 + 3 = 62 := ⟨by decide +kernel, rfl⟩
theorem zd_M_has_62 : decode zb_M_has 62 = .ok (.iaload, 1) ∧ 62 + 1 = 63 := ⟨by decide +kernel, rfl⟩
theorem zd_M_has_63 : decode zb_M_has 63 = .ok (.ireturn, 1) ∧ 63 + 1 = 64 := ⟨by decide +kernel, rfl⟩
theorem zd_M_has_64 : decode zb_M_has 64 = .ok (.aload_n 0, 1) ∧ 64 + 1 = 65 := ⟨by decide +kernel, rfl⟩
theorem zd_M_has_65 : decode zb_M_has 65 = .ok (.getfield 63, 3) ∧ 65 + 3 = 68 := ⟨by decide +kernel, rfl⟩
theorem zd_M_has_68 : decode zb_M_has 68 = .ok (.aload_n 0, 1) ∧ 68 + 1 = 69 := ⟨by decide +kernel, rfl⟩
theorem zd_M_has_69 : decode zb_M_has 69 = .ok (.getfield 51, 3) ∧ 69 + 3 = 72 := ⟨by decide +kernel, rfl⟩
theorem zd_M_has_72 : decode zb_M_has 72 = .ok (.iaload, 1) ∧ 72 + 1 = 73 := ⟨by decide +kernel, rfl⟩
theorem zd_M_has_73 : decode zb_M_has 73 = .ok (.ireturn, 1) ∧ 73 + 1 = 74 := ⟨by decide +kernel, rfl⟩
theorem zd_M_has_74 : decode zb_M_has 74 = .ok (.aload_n 0, 1) ∧ 74 + 1 = 75 := ⟨by decide +kernel, rfl⟩
theorem zd_M_has_75 : decode zb_M_has 75 = .ok (.getfield 66, 3) ∧ 75 + 3 = 78 := ⟨by decide +kernel, rfl⟩
theorem zd_M_has_78 : decode zb_M_has 78 = .ok (.aload_n 0, 1) ∧ 78 + 1 = 79 := ⟨by decide +kernel, rfl⟩
theorem zd_M_has_79 : decode zb_M_has 79 = .ok (.getfield 51, 3) ∧ 79 + 3 = 82 := ⟨by decide +kernel, rfl⟩
theorem zd_M_has_82 : decode zb_M_has 82 = .ok (.iaload, 1) ∧ 82 + 1 = 83 := ⟨by decide +kernel, rfl⟩
theorem zd_M_has_83 : decode zb_M_has 83 = .ok (.ireturn, 1) ∧ 83 + 1 = 84 := ⟨by decide +kernel, rfl⟩
theorem zd_M_has_84 : decode zb_M_has 84 = .ok (.aload_n 0, 1) ∧ 84 + 1 = 85 := ⟨by decide +kernel, rfl⟩
theorem zd_M_has_85 : decode zb_M_has 85 = .ok (.getfield 69, 3) ∧ 85 + 3 = 88 := ⟨by decide +kernel, rfl⟩
theorem zd_M_has_88 : decode zb_M_has 88 = .ok (.aload_n 0, 1) ∧ 88 + 1 = 89 := ⟨by decide +kernel, rfl⟩
theorem zd_M_has_89 : decode zb_M_has 89 = .ok (.getfield 51, 3) ∧ 89 + 3 = 92 := ⟨by decide +kernel, rfl⟩
theorem zd_M_has_92 : decode zb_M_has 92 = .ok (.iaload, 1) ∧ 92 + 1 = 93 := ⟨by decide +kernel, rfl⟩
theorem zd_M_has_93 : decode zb_M_has 93 = .ok (.ireturn, 1) ∧ 93 + 1 = 94 := ⟨by decide +kernel, rfl⟩
theorem zd_M_has_94 : decode zb_M_has 94 = .ok (.aload_n 0, 1) ∧ 94 + 1 = 95 := ⟨by decide +kernel, rfl⟩
theorem zd_M_has_95 : decode zb_M_has 95 = .ok (.getfield 72, 3) ∧ 95 + 3 = 98 := ⟨by decide +kernel, rfl⟩
theorem zd_M_has_98 : decode zb_M_has 98 = .ok (.aload_n 0, 1) ∧ 98 + 1 = 99 := ⟨by decide +kernel, rfl⟩
theorem zd_M_has_99 : decode zb_M_has 99 = .ok (.getfield 51, 3) ∧ 99 + 3 = 102 := ⟨by decide +kernel, rfl⟩
theorem zd_M_has_102 : decode zb_M_has 102 = .ok (.iaload, 1) ∧ 102 + 1 = 103 := ⟨by decide +kernel, rfl⟩
theorem zd_M_has_103 : decode zb_M_has 103 = .ok (.ireturn, 1) ∧ 103 + 1 = 104 := ⟨by decide +kernel, rfl⟩
theorem zd_M_has_104 : decode zb_M_has 104 = .ok (.aload_n 0, 1) ∧ 104 + 1 = 105 := ⟨by decide +kernel, rfl⟩
theorem zd_M_has_105 : decode zb_M_has 105 = .ok (.getfield 60, 3) ∧ 105 + 3 = 108 := ⟨by decide +kernel, rfl⟩
theorem zd_M_has_108 : decode zb_M_has 108 = .ok (.aload_n 0, 1) ∧ 108 + 1 = 109 := ⟨by decide +kernel, rfl⟩
theorem zd_M_has_109 : decode zb_M_has 109 = .ok (.getfield 51, 3) ∧ 109 + 3 = 112 := ⟨by decide +kernel, rfl⟩
theorem zd_M_has_112 : decode zb_M_has 112 = .ok (.iaload, 1) ∧ 112 + 1 = 113 := ⟨by decide +kernel, rfl⟩
theorem zd_M_has_113 : decode zb_M_has 113 = .ok (.ireturn, 1) ∧ 113 + 1 = 114 := ⟨by decide +kernel, rfl⟩
theorem zd_M_has_114 : decode zb_M_has 114 = .ok (.iconst (-1), 1) ∧ 114 + 1 = 115 := ⟨by decide +kernel, rfl⟩
theorem zd_M_has_115 : decode zb_M_has 115 = .ok (.ireturn, 1) ∧ 115 + 1 = 116 := ⟨by decide +kernel, rfl⟩
theorem zd_M_isEye_0 : decode zb_M_isEye 0 = .ok (.iload_n 1, 1) ∧ 0 + 1 = 1 := ⟨by decide +kernel, rfl⟩
theorem zd_M_isEye_1 : decode zb_M_isEye 1 = .ok (.iconst 0, 1) ∧ 1 + 1 = 2 := ⟨by decide +kernel, rfl⟩
theorem zd_M_isEye_2 : decode zb_M_isEye 2 = .ok (.aload_n 0, 1) ∧ 2 + 1 = 3 := ⟨by decide +kernel, rfl⟩
theorem zd_M_isEye_3 : decode zb_M_isEye 3 = .ok (.getfield 72, 3) ∧ 3 + 3 = 6 := ⟨by decide +kernel, rfl⟩
theorem zd_M_isEye_6 : decode zb_M_isEye 6 = .ok (.aload_n 0, 1) ∧ 6 + 1 = 7 := ⟨by decide +kernel, rfl⟩
theorem zd_M_isEye_7 : decode zb_M_isEye 7 = .ok (.getfield 51, 3) ∧ 7 + 3 = 10 := ⟨by decide +kernel, rfl⟩
theorem zd_M_isEye_10 : decode zb_M_isEye 10 = .ok (.iaload, 1) ∧ 10 + 1 = 11 := ⟨by decide +kernel, rfl⟩
theorem zd_M_isEye_11 : decode zb_M_isEye 11 = .ok (.iconst 1, 1) ∧ 11 + 1 = 12 := ⟨by decide +kernel, rfl⟩
theorem zd_M_isEye_12 : decode zb_M_isEye 12 = .ok (.isub, 1) ∧ 12 + 1 = 13 := ⟨by decide +kernel, rfl⟩
theorem zd_M_isEye_13 : decode zb_M_isEye 13 = .ok (.invokestatic 320, 3) ∧ 13 + 3 = 16 := ⟨by decide +kernel, rfl⟩
theorem zd_M_isEye_16 : decode zb_M_isEye 16 = .ok (.ireturn, 1) ∧ 16 + 1 = 17 := ⟨by decide +kernel, rfl⟩
theorem zd_M_letter_0 : decode zb_M_letter 0 = .ok (.aload_n 0, 1) ∧ 0 + 1 = 1 := ⟨by decide +kernel, rfl⟩
theorem zd_M_letter_1 : decode zb_M_letter 1 = .ok (.iload_n 1, 1) ∧ 1 + 1 = 2 := ⟨by decide +kernel, rfl⟩
theorem zd_M_letter_2 : decode zb_M_letter 2 = .ok (.invokevirtual 409, 3) ∧ 2 + 3 = 5 := ⟨by decide +kernel, rfl⟩
theorem zd_M_letter_5 : decode zb_M_letter 5 = .ok (.ifCond .eq 7, 3) ∧ ((5 : Nat) : Int) + (7) = ((12 : Nat) : Int) ∧ 5 + 3 = 8 := ⟨by decide +kernel, by decide, rfl⟩
theorem zd_M_letter_8 : decode zb_M_letter 8 = .ok (.iload_n 2, 1) ∧ 8 + 1 = 9 := ⟨by decide +kernel, rfl⟩
theorem zd_M_letter_9 : decode zb_M_letter 9 = .ok (.ifCond .ge 5, 3) ∧ ((9 : Nat) : Int) + (5) = ((14 : Nat) : Int) ∧ 9 + 3 = 12 := ⟨by decide +kernel, by decide, rfl⟩
theorem zd_M_letter_12 : decode zb_M_letter 12 = .ok (.iconst (-1), 1) ∧ 12 + 1 = 13 := ⟨by decide +kernel, rfl⟩
theorem zd_M_letter_13 : decode zb_M_letter 13 = .ok (.ireturn, 1) ∧ 13 + 1 = 14 := ⟨by decide +kernel, rfl⟩
theorem zd_M_letter_14 : decode zb_M_letter 14 = .ok (.aload_n 0, 1) ∧ 14 + 1 = 15 := ⟨by decide +kernel, rfl⟩
theorem zd_M_letter_15 : decode zb_M_letter 15 = .ok (.getfield 87, 3) ∧ 15 + 3 = 18 := ⟨by decide +kernel, rfl⟩
theorem zd_M_letter_18 : decode zb_M_letter 18 = .ok (.bipush 8, 2) ∧ 18 + 2 = 20 := ⟨by decide +kernel, rfl⟩
theorem zd_M_letter_20 : decode zb_M_letter 20 = .ok (.aload_n 0, 1) ∧ 20 + 1 = 21 := ⟨by decide +kernel, rfl⟩
theorem zd_M_letter_21 : decode zb_M_letter 21 = .ok (.getfield 51, 3) ∧ 21 + 3 = 24 := ⟨by decide +kernel, rfl⟩
theorem zd_M_letter_24 : decode zb_M_letter 24 = .ok (.imul, 1) ∧ 24 + 1 = 25 := ⟨by decide +kernel, rfl⟩
theorem zd_M_letter_25 : decode zb_M_letter 25 = .ok (.iload_n 1, 1) ∧ 25 + 1 = 26 := ⟨by decide +kernel, rfl⟩
theorem zd_M_letter_26 : decode zb_M_letter 26 = .ok (.iadd, 1) ∧ 26 + 1 = 27 := ⟨by decide +kernel, rfl⟩
theorem zd_M_letter_27 : decode zb_M_letter 27 = .ok (.laload, 1) ∧ 27 + 1 = 28 := ⟨by decide +kernel, rfl⟩
theorem zd_M_letter_28 : decode zb_M_letter 28 = .ok (.lstore_n 3, 1) ∧ 28 + 1 = 29 := ⟨by decide +kernel, rfl⟩
theorem zd_M_letter_29 : decode zb_M_letter 29 = .ok (.iconst 0, 1) ∧ 29 + 1 = 30 := ⟨by decide +kernel, rfl⟩
theorem zd_M_letter_30 : decode zb_M_letter 30 = .ok (.istore 5, 2) ∧ 30 + 2 = 32 := ⟨by decide +kernel, rfl⟩
theorem zd_M_letter_32 : decode zb_M_letter 32 = .ok (.lload_n 3, 1) ∧ 32 + 1 = 33 := ⟨by decide +kernel, rfl⟩
theorem zd_M_letter_33 : decode zb_M_letter 33 = .ok (.lstore 6, 2) ∧ 33 + 2 = 35 := ⟨by decide +kernel, rfl⟩
theorem zd_M_letter_35 : decode zb_M_letter 35 = .ok (.lload 6, 2) ∧ 35 + 2 = 37 := ⟨by decide +kernel, rfl⟩
theorem zd_M_letter_37 : decode zb_M_letter 37 = .ok (.lconst 0, 1) ∧ 37 + 1 = 38 := ⟨by decide +kernel, rfl⟩
theorem zd_M_letter_38 : decode zb_M_letter 38 = .ok (.lcmp, 1) ∧ 38 + 1 = 39 := ⟨by decide +kernel, rfl⟩
theorem zd_M_letter_39 : decode zb_M_letter 39 = .ok (.ifCond .eq 16, 3) ∧ ((39 : Nat) : Int) + (16) = ((55 : Nat) : Int) ∧ 39 + 3 = 42 := ⟨by decide +kernel, by decide, rfl⟩
theorem zd_M_letter_42 : decode zb_M_letter 42 = .ok (.iinc 5 1, 3) ∧ 42 + 3 = 45 := ⟨by decide +kernel, rfl⟩
theorem zd_M_letter_45 : decode zb_M_letter 45 = .ok (.lload 6, 2) ∧ 45 + 2 = 47 := ⟨by decide +kernel, rfl⟩
theorem zd_M_letter_47 : decode zb_M_letter 47 = .ok (.bipush 8, 2) ∧ 47 + 2 = 49 := ⟨by decide +kernel, rfl⟩
theorem zd_M_letter_49 : decode zb_M_letter 49 = .ok (.lushr, 1) ∧ 49 + 1 = 50 := ⟨by decide +kernel, rfl⟩
theorem zd_M_letter_50 : decode zb_M_letter 50 = .ok (.lstore 6, 2) ∧ 50 + 2 = 52 := ⟨by decide +kernel, rfl⟩
theorem zd_M_letter_52 : decode zb_M_letter 52 = .ok (.goto (-17), 3) ∧ ((52 : Nat) : Int) + (-17) = ((35 : Nat) : Int) ∧ 52 + 3 = 55 := ⟨by decide +kernel, by decide, rfl⟩
theorem zd_M_letter_55 : decode zb_M_letter 55 = .ok (.iload_n 2, 1) ∧ 55 + 1 = 56 := ⟨by decide +kernel, rfl⟩
theorem zd_M_letter_56 : decode zb_M_letter 56 = .ok (.iload 5, 2) ∧ 56 + 2 = 58 := ⟨by decide +kernel, rfl⟩
theorem zd_M_letter_58 : decode zb_M_letter 58 = .ok (.if_icmp .lt 7, 3) ∧ ((58 : Nat) : Int) + (7) = ((65 : Nat) : Int) ∧ 58 + 3 = 61 := ⟨by decide +kernel, by decide, rfl⟩
theorem zd_M_letter_61 : decode zb_M_letter 61 = .ok (.iconst (-1), 1) ∧ 61 + 1 = 62 := ⟨by decide +kernel, rfl⟩
theorem zd_M_letter_62 : decode zb_M_letter 62 = .ok (.goto 19, 3) ∧ ((62 : Nat) : Int) + (19) = ((81 : Nat) : Int) ∧ 62 + 3 = 65 := ⟨by decide +kernel, by decide, rfl⟩
theorem zd_M_letter_65 : decode zb_M_letter 65 = .ok (.lload_n 3, 1) ∧ 65 + 1 = 66 := ⟨by decide +kernel, rfl⟩
theorem zd_M_letter_66 : decode zb_M_letter 66 = .ok (.bipush 8, 2) ∧ 66 + 2 = 68 := ⟨by decide +kernel, rfl⟩
theorem zd_M_letter_68 : decode zb_M_letter 68 = .ok (.iload 5, 2) ∧ 68 + 2 = 70 := ⟨by decide +kernel, rfl⟩
theorem zd_M_letter_70 : decode zb_M_letter 70 = .ok (.iconst 1, 1) ∧ 70 + 1 = 71 := ⟨by decide +kernel, rfl⟩
theorem zd_M_letter_71 : decode zb_M_letter 71 = .ok (.isub, 1) ∧ 71 + 1 = 72 := ⟨by decide +kernel, rfl⟩
theorem zd_M_letter_72 : decode zb_M_letter 72 = .ok (.iload_n 2, 1) ∧ 72 + 1 = 73 := ⟨by decide +kernel, rfl⟩
theorem zd_M_letter_73 : decode zb_M_letter 73 = .ok (.isub, 1) ∧ 73 + 1 = 74 := ⟨by decide +kernel, rfl⟩
theorem zd_M_letter_74 : decode zb_M_letter 74 = .ok (.imul, 1) ∧ 74 + 1 = 75 := ⟨by decide +kernel, rfl⟩
theorem zd_M_letter_75 : decode zb_M_letter 75 = .ok (.lushr, 1) ∧ 75 + 1 = 76 := ⟨by decide +kernel, rfl⟩
theorem zd_M_letter_76 : decode zb_M_letter 76 = .ok (.ldc2_w 412, 3) ∧ 76 + 3 = 79 := ⟨by decide +kernel, rfl⟩
theorem zd_M_letter_79 : decode zb_M_letter 79 = .ok (.land, 1) ∧ 79 + 1 = 80 := ⟨by decide +kernel, rfl⟩
theorem zd_M_letter_80 : decode zb_M_letter 80 = .ok (.l2i, 1) ∧ 80 + 1 = 81 := ⟨by decide +kernel, rfl⟩
theorem zd_M_letter_81 : decode zb_M_letter 81 = .ok (.ireturn, 1) ∧ 81 + 1 = 82 := ⟨by decide +kernel, rfl⟩
theorem zd_M_from_0 : decode zb_M_from 0 = .ok (.sipush 144, 3) ∧ 0 + 3 = 3 := ⟨by decide +kernel, rfl⟩
theorem zd_M_from_3 : decode zb_M_from 3 = .ok (.aload_n 0, 1) ∧ 3 + 1 = 4 := ⟨by decide +kernel, rfl⟩
theorem zd_M_from_4 : decode zb_M_from 4 = .ok (.getfield 51, 3) ∧ 4 + 3 = 7 := ⟨by decide +kernel, rfl⟩
theorem zd_M_from_7 : decode zb_M_from 7 = .ok (.imul, 1) ∧ 7 + 1 = 8 := ⟨by decide +kernel, rfl⟩
theorem zd_M_from_8 : decode zb_M_from 8 = .ok (.iload_n 1, 1) ∧ 8 + 1 = 9 := ⟨by decide +kernel, rfl⟩
theorem zd_M_from_9 : decode zb_M_from 9 = .ok (.aload_n 0, 1) ∧ 9 + 1 = 10 := ⟨by decide +kernel, rfl⟩
theorem zd_M_from_10 : decode zb_M_from 10 = .ok (.getfield 162, 3) ∧ 10 + 3 = 13 := ⟨by decide +kernel, rfl⟩
theorem zd_M_from_13 : decode zb_M_from 13 = .ok (.if_icmp .ne 10, 3) ∧ ((13 : Nat) : Int) + (10) = ((23 : Nat) : Int) ∧ 13 + 3 = 16 := ⟨by decide +kernel, by decide, rfl⟩
theorem zd_M_from_16 : decode zb_M_from 16 = .ok (.aload_n 0, 1) ∧ 16 + 1 = 17 := ⟨by decide +kernel, rfl⟩
theorem zd_M_from_17 : decode zb_M_from 17 = .ok (.getfield 165, 3) ∧ 17 + 3 = 20 := ⟨by decide +kernel, rfl⟩
theorem zd_M_from_20 : decode zb_M_from 20 = .ok (.goto 19, 3) ∧ ((20 : Nat) : Int) + (19) = ((39 : Nat) : Int) ∧ 20 + 3 = 23 := ⟨by decide +kernel, by decide, rfl⟩
theorem zd_M_from_23 : decode zb_M_from 23 = .ok (.iload_n 1, 1) ∧ 23 + 1 = 24 := ⟨by decide +kernel, rfl⟩
theorem zd_M_from_24 : decode zb_M_from 24 = .ok (.aload_n 0, 1) ∧ 24 + 1 = 25 := ⟨by decide +kernel, rfl⟩
theorem zd_M_from_25 : decode zb_M_from 25 = .ok (.getfield 165, 3) ∧ 25 + 3 = 28 := ⟨by decide +kernel, rfl⟩
theorem zd_M_from_28 : decode zb_M_from 28 = .ok (.if_icmp .ne 10, 3) ∧ ((28 : Nat) : Int) + (10) = ((38 : Nat) : Int) ∧ 28 + 3 = 31 := ⟨by decide +kernel, by decide, rfl⟩
theorem zd_M_from_31 : decode zb_M_from 31 = .ok (.aload_n 0, 1) ∧ 31 + 1 = 32 := ⟨by decide +kernel, rfl⟩
theorem zd_M_from_32 : decode zb_M_from 32 = .ok (.getfield 162, 3) ∧ 32 + 3 = 35 := ⟨by decide +kernel, rfl⟩
theorem zd_M_from_35 : decode zb_M_from 35 = .ok (.goto 4, 3) ∧ ((35 : Nat) : Int) + (4) = ((39 : Nat) : Int) ∧ 35 + 3 = 38 := ⟨by decide +kernel, by decide, rfl⟩
theorem zd_M_from_38 : decode zb_M_from 38 = .ok (.iload_n 1, 1) ∧ 38 + 1 = 39 := ⟨by decide +kernel, rfl⟩
theorem zd_M_from_39 : decode zb_M_from 39 = .ok (.iadd, 1) ∧ 39 + 1 = 40 := ⟨by decide +kernel, rfl⟩
theorem zd_M_from_40 : decode zb_M_from 40 = .ok (.ireturn, 1) ∧ 40 + 1 = 41 := ⟨by decide +kernel, rfl⟩
theorem zd_M_sortAt_0 : decode zb_M_sortAt 0 = .ok (.iload_n 1, 1) ∧ 0 + 1 = 1 := ⟨by decide +kernel, rfl⟩
theorem zd_M_sortAt_1 : decode zb_M_sortAt 1 = .ok (.aload_n 0, 1) ∧ 1 + 1 = 2 := ⟨by decide +kernel, rfl⟩
theorem zd_M_sortAt_2 : decode zb_M_sortAt 2 = .ok (.getfield 150, 3) ∧ 2 + 3 = 5 := ⟨by decide +kernel, rfl⟩
theorem zd_M_sortAt_5 : decode zb_M_sortAt 5 = .ok (.if_icmp .ne 7, 3) ∧ ((5 : Nat) : Int) + (7) = ((12 : Nat) : Int) ∧ 5 + 3 = 8 := ⟨by decide +kernel, by decide, rfl⟩
theorem zd_M_sortAt_8 : decode zb_M_sortAt 8 = .ok (.iconst 0, 1) ∧ 8 + 1 = 9 := ⟨by decide +kernel, rfl⟩
theorem zd_M_sortAt_9 : decode zb_M_sortAt 9 = .ok (.goto 28, 3) ∧ ((9 : Nat) : Int) + (28) = ((37 : Nat) : Int) ∧ 9 + 3 = 12 := ⟨by decide +kernel, by decide, rfl⟩
theorem zd_M_sortAt_12 : decode zb_M_sortAt 12 = .ok (.iload_n 1, 1) ∧ 12 + 1 = 13 := ⟨by decide +kernel, rfl⟩
theorem zd_M_sortAt_13 : decode zb_M_sortAt 13 = .ok (.aload_n 0, 1) ∧ 13 + 1 = 14 := ⟨by decide +kernel, rfl⟩
theorem zd_M_sortAt_14 : decode zb_M_sortAt 14 = .ok (.getfield 153, 3) ∧ 14 + 3 = 17 := ⟨by decide +kernel, rfl⟩
theorem zd_M_sortAt_17 : decode zb_M_sortAt 17 = .ok (.if_icmp .ne 10, 3) ∧ ((17 : Nat) : Int) + (10) = ((27 : Nat) : Int) ∧ 17 + 3 = 20 := ⟨by decide +kernel, by decide, rfl⟩
theorem zd_M_sortAt_20 : decode zb_M_sortAt 20 = .ok (.aload_n 0, 1) ∧ 20 + 1 = 21 := ⟨by decide +kernel, rfl⟩
theorem zd_M_sortAt_21 : decode zb_M_sortAt 21 = .ok (.getfield 156, 3) ∧ 21 + 3 = 24 := ⟨by decide +kernel, rfl⟩
theorem zd_M_sortAt_24 : decode zb_M_sortAt 24 = .ok (.goto 13, 3) ∧ ((24 : Nat) : Int) + (13) = ((37 : Nat) : Int) ∧ 24 + 3 = 27 := ⟨by decide +kernel, by decide, rfl⟩
theorem zd_M_sortAt_27 : decode zb_M_sortAt 27 = .ok (.aload_n 0, 1) ∧ 27 + 1 = 28 := ⟨by decide +kernel, rfl⟩
theorem zd_M_sortAt_28 : decode zb_M_sortAt 28 = .ok (.getfield 75, 3) ∧ 28 + 3 = 31 := ⟨by decide +kernel, rfl⟩
theorem zd_M_sortAt_31 : decode zb_M_sortAt 31 = .ok (.aload_n 0, 1) ∧ 31 + 1 = 32 := ⟨by decide +kernel, rfl⟩
theorem zd_M_sortAt_32 : decode zb_M_sortAt 32 = .ok (.iload_n 1, 1) ∧ 32 + 1 = 33 := ⟨by decide +kernel, rfl⟩
theorem zd_M_sortAt_33 : decode zb_M_sortAt 33 = .ok (.invokevirtual 414, 3) ∧ 33 + 3 = 36 := ⟨by decide +kernel, rfl⟩
theorem zd_M_sortAt_36 : decode zb_M_sortAt 36 = .ok (.iaload, 1) ∧ 36 + 1 = 37 := ⟨by decide +kernel, rfl⟩
theorem zd_M_sortAt_37 : decode zb_M_sortAt 37 = .ok (.ireturn, 1) ∧ 37 + 1 = 38 := ⟨by decide +kernel, rfl⟩
theorem zd_M_numberAt_0 : decode zb_M_numberAt 0 = .ok (.aload_n 0, 1) ∧ 0 + 1 = 1 := ⟨by decide +kernel, rfl⟩
theorem zd_M_numberAt_1 : decode zb_M_numberAt 1 = .ok (.getfield 78, 3) ∧ 1 + 3 = 4 := ⟨by decide +kernel, rfl⟩
theorem zd_M_numberAt_4 : decode zb_M_numberAt 4 = .ok (.aload_n 0, 1) ∧ 4 + 1 = 5 := ⟨by decide +kernel, rfl⟩
theorem zd_M_numberAt_5 : decode zb_M_numberAt 5 = .ok (.iload_n 1, 1) ∧ 5 + 1 = 6 := ⟨by decide +kernel, rfl⟩
theorem zd_M_numberAt_6 : decode zb_M_numberAt 6 = .ok (.invokevirtual 414, 3) ∧ 6 + 3 = 9 := ⟨by decide +kernel, rfl⟩
theorem zd_M_numberAt_9 : decode zb_M_numberAt 9 = .ok (.iaload, 1) ∧ 9 + 1 = 10 := ⟨by decide +kernel, rfl⟩
theorem zd_M_numberAt_10 : decode zb_M_numberAt 10 = .ok (.ireturn, 1) ∧ 10 + 1 = 11 := ⟨by decide +kernel, rfl⟩
theorem zd_M_formAt_0 : decode zb_M_formAt 0 = .ok (.iload_n 1, 1) ∧ 0 + 1 = 1 := ⟨by decide +kernel, rfl⟩
theorem zd_M_formAt_1 : decode zb_M_formAt 1 = .ok (.aload_n 0, 1) ∧ 1 + 1 = 2 := ⟨by decide +kernel, rfl⟩
theorem zd_M_formAt_2 : decode zb_M_formAt 2 = .ok (.getfield 153, 3) ∧ 2 + 3 = 5 := ⟨by decide +kernel, rfl⟩
theorem zd_M_formAt_5 : decode zb_M_formAt 5 = .ok (.if_icmp .ne 8, 3) ∧ ((5 : Nat) : Int) + (8) = ((13 : Nat) : Int) ∧ 5 + 3 = 8 := ⟨by decide +kernel, by decide, rfl⟩
theorem zd_M_formAt_8 : decode zb_M_formAt 8 = .ok (.aload_n 0, 1) ∧ 8 + 1 = 9 := ⟨by decide +kernel, rfl⟩
theorem zd_M_formAt_9 : decode zb_M_formAt 9 = .ok (.getfield 159, 3) ∧ 9 + 3 = 12 := ⟨by decide +kernel, rfl⟩
theorem zd_M_formAt_12 : decode zb_M_formAt 12 = .ok (.ireturn, 1) ∧ 12 + 1 = 13 := ⟨by decide +kernel, rfl⟩
theorem zd_M_formAt_13 : decode zb_M_formAt 13 = .ok (.iload_n 1, 1) ∧ 13 + 1 = 14 := ⟨by decide +kernel, rfl⟩
theorem zd_M_formAt_14 : decode zb_M_formAt 14 = .ok (.aload_n 0, 1) ∧ 14 + 1 = 15 := ⟨by decide +kernel, rfl⟩
theorem zd_M_formAt_15 : decode zb_M_formAt 15 = .ok (.getfield 168, 3) ∧ 15 + 3 = 18 := ⟨by decide +kernel, rfl⟩
theorem zd_M_formAt_18 : decode zb_M_formAt 18 = .ok (.if_icmp .ne 8, 3) ∧ ((18 : Nat) : Int) + (8) = ((26 : Nat) : Int) ∧ 18 + 3 = 21 := ⟨by decide +kernel, by decide, rfl⟩
theorem zd_M_formAt_21 : decode zb_M_formAt 21 = .ok (.aload_n 0, 1) ∧ 21 + 1 = 22 := ⟨by decide +kernel, rfl⟩
theorem zd_M_formAt_22 : decode zb_M_formAt 22 = .ok (.getfield 171, 3) ∧ 22 + 3 = 25 := ⟨by decide +kernel, rfl⟩
theorem zd_M_formAt_25 : decode zb_M_formAt 25 = .ok (.ireturn, 1) ∧ 25 + 1 = 26 := ⟨by decide +kernel, rfl⟩
theorem zd_M_formAt_26 : decode zb_M_formAt 26 = .ok (.aload_n 0, 1) ∧ 26 + 1 = 27 := ⟨by decide +kernel, rfl⟩
theorem zd_M_formAt_27 : decode zb_M_formAt 27 = .ok (.getfield 81, 3) ∧ 27 + 3 = 30 := ⟨by decide +kernel, rfl⟩
theorem zd_M_formAt_30 : decode zb_M_formAt 30 = .ok (.aload_n 0, 1) ∧ 30 + 1 = 31 := ⟨by decide +kernel, rfl⟩
theorem zd_M_formAt_31 : decode zb_M_formAt 31 = .ok (.iload_n 1, 1) ∧ 31 + 1 = 32 := ⟨by decide +kernel, rfl⟩
theorem zd_M_formAt_32 : decode zb_M_formAt 32 = .ok (.invokevirtual 414, 3) ∧ 32 + 3 = 35 := ⟨by decide +kernel, rfl⟩
theorem zd_M_formAt_35 : decode zb_M_formAt 35 = .ok (.iaload, 1) ∧ 35 + 1 = 36 := ⟨by decide +kernel, rfl⟩
theorem zd_M_formAt_36 : decode zb_M_formAt 36 = .ok (.istore_n 3, 1) ∧ 36 + 1 = 37 := ⟨by decide +kernel, rfl⟩
theorem zd_M_formAt_37 : decode zb_M_formAt 37 = .ok (.aload_n 0, 1) ∧ 37 + 1 = 38 := ⟨by decide +kernel, rfl⟩
theorem zd_M_formAt_38 : decode zb_M_formAt 38 = .ok (.getfield 75, 3) ∧ 38 + 3 = 41 := ⟨by decide +kernel, rfl⟩
theorem zd_M_formAt_41 : decode zb_M_formAt 41 = .ok (.aload_n 0, 1) ∧ 41 + 1 = 42 := ⟨by decide +kernel, rfl⟩
theorem zd_M_formAt_42 : decode zb_M_formAt 42 = .ok (.iload_n 1, 1) ∧ 42 + 1 = 43 := ⟨by decide +kernel, rfl⟩
theorem zd_M_formAt_43 : decode zb_M_formAt 43 = .ok (.invokevirtual 414, 3) ∧ 43 + 3 = 46 := ⟨by decide +kernel, rfl⟩
theorem zd_M_formAt_46 : decode zb_M_formAt 46 = .ok (.iaload, 1) ∧ 46 + 1 = 47 := ⟨by decide +kernel, rfl⟩
theorem zd_M_formAt_47 : decode zb_M_formAt 47 = .ok (.istore 4, 2) ∧ 47 + 2 = 49 := ⟨by decide +kernel, rfl⟩
theorem zd_M_formAt_49 : decode zb_M_formAt 49 = .ok (.iload 4, 2) ∧ 49 + 2 = 51 := ⟨by decide +kernel, rfl⟩
theorem zd_M_formAt_51 : decode zb_M_formAt 51 = .ok (.iconst 2, 1) ∧ 51 + 1 = 52 := ⟨by decide +kernel, rfl⟩
theorem zd_M_formAt_52 : decode zb_M_formAt 52 = .ok (.if_icmp .eq 9, 3) ∧ ((52 : Nat) : Int) + (9) = ((61 : Nat) : Int) ∧ 52 + 3 = 55 := ⟨by decide +kernel, by decide, rfl⟩
theorem zd_M_formAt_55 : decode zb_M_formAt 55 = .ok (.iload 4, 2) ∧ 55 + 2 = 57 := ⟨by decide +kernel, rfl⟩
theorem zd_M_formAt_57 : decode zb_M_formAt 57 = .ok (.iconst 3, 1) ∧ 57 + 1 = 58 := ⟨by decide +kernel, rfl⟩
theorem zd_M_formAt_58 : decode zb_M_formAt 58 = .ok (.if_icmp .ne 18, 3) ∧ ((58 : Nat) : Int) + (18) = ((76 : Nat) : Int) ∧ 58 + 3 = 61 := ⟨by decide +kernel, by decide, rfl⟩
theorem zd_M_formAt_61 : decode zb_M_formAt 61 = .ok (.iload_n 3, 1) ∧ 61 + 1 = 62 := ⟨by decide +kernel, rfl⟩
theorem zd_M_formAt_62 : decode zb_M_formAt 62 = .ok (.aload_n 0, 1) ∧ 62 + 1 = 63 := ⟨by decide +kernel, rfl⟩
theorem zd_M_formAt_63 : decode zb_M_formAt 63 = .ok (.getfield 141, 3) ∧ 63 + 3 = 66 := ⟨by decide +kernel, rfl⟩
theorem zd_M_formAt_66 : decode zb_M_formAt 66 = .ok (.aload_n 0, 1) ∧ 66 + 1 = 67 := ⟨by decide +kernel, rfl⟩
theorem zd_M_formAt_67 : decode zb_M_formAt 67 = .ok (.iload_n 1, 1) ∧ 67 + 1 = 68 := ⟨by decide +kernel, rfl⟩
theorem zd_M_formAt_68 : decode zb_M_formAt 68 = .ok (.invokevirtual 417, 3) ∧ 68 + 3 = 71 := ⟨by decide +kernel, rfl⟩
theorem zd_M_formAt_71 : decode zb_M_formAt 71 = .ok (.ishr, 1) ∧ 71 + 1 = 72 := ⟨by decide +kernel, rfl⟩
theorem zd_M_formAt_72 : decode zb_M_formAt 72 = .ok (.iconst 1, 1) ∧ 72 + 1 = 73 := ⟨by decide +kernel, rfl⟩
theorem zd_M_formAt_73 : decode zb_M_formAt 73 = .ok (.iand, 1) ∧ 73 + 1 = 74 := ⟨by decide +kernel, rfl⟩
theorem zd_M_formAt_74 : decode zb_M_formAt 74 = .ok (.ixor, 1) ∧ 74 + 1 = 75 := ⟨by decide +kernel, rfl⟩
theorem zd_M_formAt_75 : decode zb_M_formAt 75 = .ok (.ireturn, 1) ∧ 75 + 1 = 76 := ⟨by decide +kernel, rfl⟩
theorem zd_M_formAt_76 : decode zb_M_formAt 76 = .ok (.iload 4, 2) ∧ 76 + 2 = 78 := ⟨by decide +kernel, rfl⟩
theorem zd_M_formAt_78 : decode zb_M_formAt 78 = .ok (.bipush 9, 2) ∧ 78 + 2 = 80 := ⟨by decide +kernel, rfl⟩
theorem zd_M_formAt_80 : decode zb_M_formAt 80 = .ok (.if_icmp .ne 15, 3) ∧ ((80 : Nat) : Int) + (15) = ((95 : Nat) : Int) ∧ 80 + 3 = 83 := ⟨by decide +kernel, by decide, rfl⟩
theorem zd_M_formAt_83 : decode zb_M_formAt 83 = .ok (.iload_n 3, 1) ∧ 83 + 1 = 84 := ⟨by decide +kernel, rfl⟩
theorem zd_M_formAt_84 : decode zb_M_formAt 84 = .ok (.iload_n 2, 1) ∧ 84 + 1 = 85 := ⟨by decide +kernel, rfl⟩
theorem zd_M_formAt_85 : decode zb_M_formAt 85 = .ok (.aload_n 0, 1) ∧ 85 + 1 = 86 := ⟨by decide +kernel, rfl⟩
theorem zd_M_formAt_86 : decode zb_M_formAt 86 = .ok (.iload_n 1, 1) ∧ 86 + 1 = 87 := ⟨by decide +kernel, rfl⟩
theorem zd_M_formAt_87 : decode zb_M_formAt 87 = .ok (.invokevirtual 417, 3) ∧ 87 + 3 = 90 := ⟨by decide +kernel, rfl⟩
theorem zd_M_formAt_90 : decode zb_M_formAt 90 = .ok (.ishr, 1) ∧ 90 + 1 = 91 := ⟨by decide +kernel, rfl⟩
theorem zd_M_formAt_91 : decode zb_M_formAt 91 = .ok (.iconst 1, 1) ∧ 91 + 1 = 92 := ⟨by decide +kernel, rfl⟩
theorem zd_M_formAt_92 : decode zb_M_formAt 92 = .ok (.iand, 1) ∧ 92 + 1 = 93 := ⟨by decide +kernel, rfl⟩
theorem zd_M_formAt_93 : decode zb_M_formAt 93 = .ok (.ixor, 1) ∧ 93 + 1 = 94 := ⟨by decide +kernel, rfl⟩
theorem zd_M_formAt_94 : decode zb_M_formAt 94 = .ok (.ireturn, 1) ∧ 94 + 1 = 95 := ⟨by decide +kernel, rfl⟩
theorem zd_M_formAt_95 : decode zb_M_formAt 95 = .ok (.iload 4, 2) ∧ 95 + 2 = 97 := ⟨by decide +kernel, rfl⟩
theorem zd_M_formAt_97 : decode zb_M_formAt 97 = .ok (.bipush 8, 2) ∧ 97 + 2 = 99 := ⟨by decide +kernel, rfl⟩
theorem zd_M_formAt_99 : decode zb_M_formAt 99 = .ok (.if_icmp .ne 15, 3) ∧ ((99 : Nat) : Int) + (15) = ((114 : Nat) : Int) ∧ 99 + 3 = 102 := ⟨by decide +kernel, by decide, rfl⟩
theorem zd_M_formAt_102 : decode zb_M_formAt 102 = .ok (.iload_n 2, 1) ∧ 102 + 1 = 103 := ⟨by decide +kernel, rfl⟩
theorem zd_M_formAt_103 : decode zb_M_formAt 103 = .ok (.aload_n 0, 1) ∧ 103 + 1 = 104 := ⟨by decide +kernel, rfl⟩
theorem zd_M_formAt_104 : decode zb_M_formAt 104 = .ok (.iload_n 1, 1) ∧ 104 + 1 = 105 := ⟨by decide +kernel, rfl⟩
theorem zd_M_formAt_105 : decode zb_M_formAt 105 = .ok (.invokevirtual 417, 3) ∧ 105 + 3 = 108 := ⟨by decide +kernel, rfl⟩
theorem zd_M_formAt_108 : decode zb_M_formAt 108 = .ok (.ishr, 1) ∧ 108 + 1 = 109 := ⟨by decide +kernel, rfl⟩
theorem zd_M_formAt_109 : decode zb_M_formAt 109 = .ok (.iconst 1, 1) ∧ 109 + 1 = 110 := ⟨by decide +kernel, rfl⟩
theorem zd_M_formAt_110 : decode zb_M_formAt 110 = .ok (.iand, 1) ∧ 110 + 1 = 111 := ⟨by decide +kernel, rfl⟩
theorem zd_M_formAt_111 : decode zb_M_formAt 111 = .ok (.goto 4, 3) ∧ ((111 : Nat) : Int) + (4) = ((115 : Nat) : Int) ∧ 111 + 3 = 114 := ⟨by decide +kernel, by decide, rfl⟩
theorem zd_M_formAt_114 : decode zb_M_formAt 114 = .ok (.iload_n 3, 1) ∧ 114 + 1 = 115 := ⟨by decide +kernel, rfl⟩
theorem zd_M_formAt_115 : decode zb_M_formAt 115 = .ok (.ireturn, 1) ∧ 115 + 1 = 116 := ⟨by decide +kernel, rfl⟩
theorem zd_M_square_0 : decode zb_M_square 0 = .ok (.aload_n 0, 1) ∧ 0 + 1 = 1 := ⟨by decide +kernel, rfl⟩
theorem zd_M_square_1 : decode zb_M_square 1 = .ok (.iload_n 1, 1) ∧ 1 + 1 = 2 := ⟨by decide +kernel, rfl⟩
theorem zd_M_square_2 : decode zb_M_square 2 = .ok (.iload_n 2, 1) ∧ 2 + 1 = 3 := ⟨by decide +kernel, rfl⟩
theorem zd_M_square_3 : decode zb_M_square 3 = .ok (.invokevirtual 420, 3) ∧ 3 + 3 = 6 := ⟨by decide +kernel, rfl⟩
theorem zd_M_square_6 : decode zb_M_square 6 = .ok (.ifCond .ne 5, 3) ∧ ((6 : Nat) : Int) + (5) = ((11 : Nat) : Int) ∧ 6 + 3 = 9 := ⟨by decide +kernel, by decide, rfl⟩
theorem zd_M_square_9 : decode zb_M_square 9 = .ok (.iconst (-1), 1) ∧ 9 + 1 = 10 := ⟨by decide +kernel, rfl⟩
theorem zd_M_square_10 : decode zb_M_square 10 = .ok (.ireturn, 1) ∧ 10 + 1 = 11 := ⟨by decide +kernel, rfl⟩
theorem zd_M_square_11 : decode zb_M_square 11 = .ok (.bipush 12, 2) ∧ 11 + 2 = 13 := ⟨by decide +kernel, rfl⟩
theorem zd_M_square_13 : decode zb_M_square 13 = .ok (.iload_n 2, 1) ∧ 13 + 1 = 14 := ⟨by decide +kernel, rfl⟩
theorem zd_M_square_14 : decode zb_M_square 14 = .ok (.imul, 1) ∧ 14 + 1 = 15 := ⟨by decide +kernel, rfl⟩
theorem zd_M_square_15 : decode zb_M_square 15 = .ok (.iload_n 1, 1) ∧ 15 + 1 = 16 := ⟨by decide +kernel, rfl⟩
theorem zd_M_square_16 : decode zb_M_square 16 = .ok (.iadd, 1) ∧ 16 + 1 = 17 := ⟨by decide +kernel, rfl⟩
theorem zd_M_square_17 : decode zb_M_square 17 = .ok (.istore 4, 2) ∧ 17 + 2 = 19 := ⟨by decide +kernel, rfl⟩
theorem zd_M_square_19 : decode zb_M_square 19 = .ok (.aload_n 0, 1) ∧ 19 + 1 = 20 := ⟨by decide +kernel, rfl⟩
theorem zd_M_square_20 : decode zb_M_square 20 = .ok (.iload 4, 2) ∧ 20 + 2 = 22 := ⟨by decide +kernel, rfl⟩
theorem zd_M_square_22 : decode zb_M_square 22 = .ok (.invokevirtual 424, 3) ∧ 22 + 3 = 25 := ⟨by decide +kernel, rfl⟩
theorem zd_M_square_25 : decode zb_M_square 25 = .ok (.istore 5, 2) ∧ 25 + 2 = 27 := ⟨by decide +kernel, rfl⟩
theorem zd_M_square_27 : decode zb_M_square 27 = .ok (.iload_n 3, 1) ∧ 27 + 1 = 28 := ⟨by decide +kernel, rfl⟩
theorem zd_M_square_28 : decode zb_M_square 28 = .ok (.ifCond .ne 6, 3) ∧ ((28 : Nat) : Int) + (6) = ((34 : Nat) : Int) ∧ 28 + 3 = 31 := ⟨by decide +kernel, by decide, rfl⟩
theorem zd_M_square_31 : decode zb_M_square 31 = .ok (.iload 5, 2) ∧ 31 + 2 = 33 := ⟨by decide +kernel, rfl⟩
theorem zd_M_square_33 : decode zb_M_square 33 = .ok (.ireturn, 1) ∧ 33 + 1 = 34 := ⟨by decide +kernel, rfl⟩
theorem zd_M_square_34 : decode zb_M_square 34 = .ok (.iload 5, 2) ∧ 34 + 2 = 36 := ⟨by decide +kernel, rfl⟩
theorem zd_M_square_36 : decode zb_M_square 36 = .ok (.ifCond .eq 13, 3) ∧ ((36 : Nat) : Int) + (13) = ((49 : Nat) : Int) ∧ 36 + 3 = 39 := ⟨by decide +kernel, by decide, rfl⟩
theorem zd_M_square_39 : decode zb_M_square 39 = .ok (.iload_n 3, 1) ∧ 39 + 1 = 40 := ⟨by decide +kernel, rfl⟩
theorem zd_M_square_40 : decode zb_M_square 40 = .ok (.iconst 1, 1) ∧ 40 + 1 = 41 := ⟨by decide +kernel, rfl⟩
theorem zd_M_square_41 : decode zb_M_square 41 = .ok (.if_icmp .eq 10, 3) ∧ ((41 : Nat) : Int) + (10) = ((51 : Nat) : Int) ∧ 41 + 3 = 44 := ⟨by decide +kernel, by decide, rfl⟩
theorem zd_M_square_44 : decode zb_M_square 44 = .ok (.iload_n 3, 1) ∧ 44 + 1 = 45 := ⟨by decide +kernel, rfl⟩
theorem zd_M_square_45 : decode zb_M_square 45 = .ok (.iconst 2, 1) ∧ 45 + 1 = 46 := ⟨by decide +kernel, rfl⟩
theorem zd_M_square_46 : decode zb_M_square 46 = .ok (.if_icmp .eq 5, 3) ∧ ((46 : Nat) : Int) + (5) = ((51 : Nat) : Int) ∧ 46 + 3 = 49 := ⟨by decide +kernel, by decide, rfl⟩
theorem zd_M_square_49 : decode zb_M_square 49 = .ok (.iconst (-1), 1) ∧ 49 + 1 = 50 := ⟨by decide +kernel, rfl⟩
theorem zd_M_square_50 : decode zb_M_square 50 = .ok (.ireturn, 1) ∧ 50 + 1 = 51 := ⟨by decide +kernel, rfl⟩
theorem zd_M_square_51 : decode zb_M_square 51 = .ok (.iload_n 3, 1) ∧ 51 + 1 = 52 := ⟨by decide +kernel, rfl⟩
theorem zd_M_square_52 : decode zb_M_square 52 = .ok (.iconst 1, 1) ∧ 52 + 1 = 53 := ⟨by decide +kernel, rfl⟩
theorem zd_M_square_53 : decode zb_M_square 53 = .ok (.if_icmp .ne 33, 3) ∧ ((53 : Nat) : Int) + (33) = ((86 : Nat) : Int) ∧ 53 + 3 = 56 := ⟨by decide +kernel, by decide, rfl⟩
theorem zd_M_square_56 : decode zb_M_square 56 = .ok (.iload 5, 2) ∧ 56 + 2 = 58 := ⟨by decide +kernel, rfl⟩
theorem zd_M_square_58 : decode zb_M_square 58 = .ok (.iconst 4, 1) ∧ 58 + 1 = 59 := ⟨by decide +kernel, rfl⟩
theorem zd_M_square_59 : decode zb_M_square 59 = .ok (.if_icmp .eq 16, 3) ∧ ((59 : Nat) : Int) + (16) = ((75 : Nat) : Int) ∧ 59 + 3 = 62 := ⟨by decide +kernel, by decide, rfl⟩
theorem zd_M_square_62 : decode zb_M_square 62 = .ok (.iload 5, 2) ∧ 62 + 2 = 64 := ⟨by decide +kernel, rfl⟩
theorem zd_M_square_64 : decode zb_M_square 64 = .ok (.iconst 5, 1) ∧ 64 + 1 = 65 := ⟨by decide +kernel, rfl⟩
theorem zd_M_square_65 : decode zb_M_square 65 = .ok (.if_icmp .eq 10, 3) ∧ ((65 : Nat) : Int) + (10) = ((75 : Nat) : Int) ∧ 65 + 3 = 68 := ⟨by decide +kernel, by decide, rfl⟩
theorem zd_M_square_68 : decode zb_M_square 68 = .ok (.iload 5, 2) ∧ 68 + 2 = 70 := ⟨by decide +kernel, rfl⟩
theorem zd_M_square_70 : decode zb_M_square 70 = .ok (.bipush 6, 2) ∧ 70 + 2 = 72 := ⟨by decide +kernel, rfl⟩
theorem zd_M_square_72 : decode zb_M_square 72 = .ok (.if_icmp .ne 7, 3) ∧ ((72 : Nat) : Int) + (7) = ((79 : Nat) : Int) ∧ 72 + 3 = 75 := ⟨by decide +kernel, by decide, rfl⟩
theorem zd_M_square_75 : decode zb_M_square 75 = .ok (.iconst (-1), 1) ∧ 75 + 1 = 76 := ⟨by decide +kernel, rfl⟩
theorem zd_M_square_76 : decode zb_M_square 76 = .ok (.goto 9, 3) ∧ ((76 : Nat) : Int) + (9) = ((85 : Nat) : Int) ∧ 76 + 3 = 79 := ⟨by decide +kernel, by decide, rfl⟩
theorem zd_M_square_79 : decode zb_M_square 79 = .ok (.aload_n 0, 1) ∧ 79 + 1 = 80 := ⟨by decide +kernel, rfl⟩
theorem zd_M_square_80 : decode zb_M_square 80 = .ok (.iload 4, 2) ∧ 80 + 2 = 82 := ⟨by decide +kernel, rfl⟩
theorem zd_M_square_82 : decode zb_M_square 82 = .ok (.invokevirtual 417, 3) ∧ 82 + 3 = 85 := ⟨by decide +kernel, rfl⟩
theorem zd_M_square_85 : decode zb_M_square 85 = .ok (.ireturn, 1) ∧ 85 + 1 = 86 := ⟨by decide +kernel, rfl⟩
theorem zd_M_square_86 : decode zb_M_square 86 = .ok (.iload 5, 2) ∧ 86 + 2 = 88 := ⟨by decide +kernel, rfl⟩
theorem zd_M_square_88 : decode zb_M_square 88 = .ok (.iconst 5, 1) ∧ 88 + 1 = 89 := ⟨by decide +kernel, rfl⟩
theorem zd_M_square_89 : decode zb_M_square 89 = .ok (.if_icmp .eq 17, 3) ∧ ((89 : Nat) : Int) + (17) = ((106 : Nat) : Int) ∧ 89 + 3 = 92 := ⟨by decide +kernel, by decide, rfl⟩
theorem zd_M_square_92 : decode zb_M_square 92 = .ok (.iload 5, 2) ∧ 92 + 2 = 94 := ⟨by decide +kernel, rfl⟩
theorem zd_M_square_94 : decode zb_M_square 94 = .ok (.bipush 6, 2) ∧ 94 + 2 = 96 := ⟨by decide +kernel, rfl⟩
theorem zd_M_square_96 : decode zb_M_square 96 = .ok (.if_icmp .eq 10, 3) ∧ ((96 : Nat) : Int) + (10) = ((106 : Nat) : Int) ∧ 96 + 3 = 99 := ⟨by decide +kernel, by decide, rfl⟩
theorem zd_M_square_99 : decode zb_M_square 99 = .ok (.iload 5, 2) ∧ 99 + 2 = 101 := ⟨by decide +kernel, rfl⟩
theorem zd_M_square_101 : decode zb_M_square 101 = .ok (.bipush 7, 2) ∧ 101 + 2 = 103 := ⟨by decide +kernel, rfl⟩
theorem zd_M_square_103 : decode zb_M_square 103 = .ok (.if_icmp .ne 7, 3) ∧ ((103 : Nat) : Int) + (7) = ((110 : Nat) : Int) ∧ 103 + 3 = 106 := ⟨by decide +kernel, by decide, rfl⟩
theorem zd_M_square_106 : decode zb_M_square 106 = .ok (.iconst (-1), 1) ∧ 106 + 1 = 107 := ⟨by decide +kernel, rfl⟩
theorem zd_M_square_107 : decode zb_M_square 107 = .ok (.goto 13, 3) ∧ ((107 : Nat) : Int) + (13) = ((120 : Nat) : Int) ∧ 107 + 3 = 110 := ⟨by decide +kernel, by decide, rfl⟩
theorem zd_M_square_110 : decode zb_M_square 110 = .ok (.aload_n 0, 1) ∧ 110 + 1 = 111 := ⟨by decide +kernel, rfl⟩
theorem zd_M_square_111 : decode zb_M_square 111 = .ok (.iload 4, 2) ∧ 111 + 2 = 113 := ⟨by decide +kernel, rfl⟩
theorem zd_M_square_113 : decode zb_M_square 113 = .ok (.aload_n 0, 1) ∧ 113 + 1 = 114 := ⟨by decide +kernel, rfl⟩
theorem zd_M_square_114 : decode zb_M_square 114 = .ok (.getfield 144, 3) ∧ 114 + 3 = 117 := ⟨by decide +kernel, rfl⟩
theorem zd_M_square_117 : decode zb_M_square 117 = .ok (.invokevirtual 427, 3) ∧ 117 + 3 = 120 := ⟨by decide +kernel, rfl⟩
theorem zd_M_square_120 : decode zb_M_square 120 = .ok (.ireturn, 1) ∧ 120 + 1 = 121 := ⟨by decide +kernel, rfl⟩
theorem zd_M_sends_0 : decode zb_M_sends 0 = .ok (.iload_n 1, 1) ∧ 0 + 1 = 1 := ⟨by decide +kernel, rfl⟩
theorem zd_M_sends_1 : decode zb_M_sends 1 = .ok (.bipush 12, 2) ∧ 1 + 2 = 3 := ⟨by decide +kernel, rfl⟩
theorem zd_M_sends_3 : decode zb_M_sends 3 = .ok (.irem, 1) ∧ 3 + 1 = 4 := ⟨by decide +kernel, rfl⟩
theorem zd_M_sends_4 : decode zb_M_sends 4 = .ok (.iload_n 2, 1) ∧ 4 + 1 = 5 := ⟨by decide +kernel, rfl⟩
theorem zd_M_sends_5 : decode zb_M_sends 5 = .ok (.iconst 1, 1) ∧ 5 + 1 = 6 := ⟨by decide +kernel, rfl⟩
theorem zd_M_sends_6 : decode zb_M_sends 6 = .ok (.if_icmp .ne 7, 3) ∧ ((6 : Nat) : Int) + (7) = ((13 : Nat) : Int) ∧ 6 + 3 = 9 := ⟨by decide +kernel, by decide, rfl⟩
theorem zd_M_sends_9 : decode zb_M_sends 9 = .ok (.iconst 1, 1) ∧ 9 + 1 = 10 := ⟨by decide +kernel, rfl⟩
theorem zd_M_sends_10 : decode zb_M_sends 10 = .ok (.goto 13, 3) ∧ ((10 : Nat) : Int) + (13) = ((23 : Nat) : Int) ∧ 10 + 3 = 13 := ⟨by decide +kernel, by decide, rfl⟩
theorem zd_M_sends_13 : decode zb_M_sends 13 = .ok (.iload_n 2, 1) ∧ 13 + 1 = 14 := ⟨by decide +kernel, rfl⟩
theorem zd_M_sends_14 : decode zb_M_sends 14 = .ok (.iconst 3, 1) ∧ 14 + 1 = 15 := ⟨by decide +kernel, rfl⟩
theorem zd_M_sends_15 : decode zb_M_sends 15 = .ok (.if_icmp .ne 7, 3) ∧ ((15 : Nat) : Int) + (7) = ((22 : Nat) : Int) ∧ 15 + 3 = 18 := ⟨by decide +kernel, by decide, rfl⟩
theorem zd_M_sends_18 : decode zb_M_sends 18 = .ok (.iconst (-1), 1) ∧ 18 + 1 = 19 := ⟨by decide +kernel, rfl⟩
theorem zd_M_sends_19 : decode zb_M_sends 19 = .ok (.goto 4, 3) ∧ ((19 : Nat) : Int) + (4) = ((23 : Nat) : Int) ∧ 19 + 3 = 22 := ⟨by decide +kernel, by decide, rfl⟩
theorem zd_M_sends_22 : decode zb_M_sends 22 = .ok (.iconst 0, 1) ∧ 22 + 1 = 23 := ⟨by decide +kernel, rfl⟩
theorem zd_M_sends_23 : decode zb_M_sends 23 = .ok (.iadd, 1) ∧ 23 + 1 = 24 := ⟨by decide +kernel, rfl⟩
theorem zd_M_sends_24 : decode zb_M_sends 24 = .ok (.istore 4, 2) ∧ 24 + 2 = 26 := ⟨by decide +kernel, rfl⟩
theorem zd_M_sends_26 : decode zb_M_sends 26 = .ok (.iload_n 1, 1) ∧ 26 + 1 = 27 := ⟨by decide +kernel, rfl⟩
theorem zd_M_sends_27 : decode zb_M_sends 27 = .ok (.bipush 12, 2) ∧ 27 + 2 = 29 := ⟨by decide +kernel, rfl⟩
theorem zd_M_sends_29 : decode zb_M_sends 29 = .ok (.idiv, 1) ∧ 29 + 1 = 30 := ⟨by decide +kernel, rfl⟩
theorem zd_M_sends_30 : decode zb_M_sends 30 = .ok (.iload_n 2, 1) ∧ 30 + 1 = 31 := ⟨by decide +kernel, rfl⟩
theorem zd_M_sends_31 : decode zb_M_sends 31 = .ok (.iconst 2, 1) ∧ 31 + 1 = 32 := ⟨by decide +kernel, rfl⟩
theorem zd_M_sends_32 : decode zb_M_sends 32 = .ok (.if_icmp .ne 7, 3) ∧ ((32 : Nat) : Int) + (7) = ((39 : Nat) : Int) ∧ 32 + 3 = 35 := ⟨by decide +kernel, by decide, rfl⟩
theorem zd_M_sends_35 : decode zb_M_sends 35 = .ok (.iconst 1, 1) ∧ 35 + 1 = 36 := ⟨by decide +kernel, rfl⟩
theorem zd_M_sends_36 : decode zb_M_sends 36 = .ok (.goto 12, 3) ∧ ((36 : Nat) : Int) + (12) = ((48 : Nat) : Int) ∧ 36 + 3 = 39 := ⟨by decide +kernel, by decide, rfl⟩
theorem zd_M_sends_39 : decode zb_M_sends 39 = .ok (.iload_n 2, 1) ∧ 39 + 1 = 40 := ⟨by decide +kernel, rfl⟩
theorem zd_M_sends_40 : decode zb_M_sends 40 = .ok (.ifCond .ne 7, 3) ∧ ((40 : Nat) : Int) + (7) = ((47 : Nat) : Int) ∧ 40 + 3 = 43 := ⟨by decide +kernel, by decide, rfl⟩
theorem zd_M_sends_43 : decode zb_M_sends 43 = .ok (.iconst (-1), 1) ∧ 43 + 1 = 44 := ⟨by decide +kernel, rfl⟩
theorem zd_M_sends_44 : decode zb_M_sends 44 = .ok (.goto 4, 3) ∧ ((44 : Nat) : Int) + (4) = ((48 : Nat) : Int) ∧ 44 + 3 = 47 := ⟨by decide +kernel, by decide, rfl⟩
theorem zd_M_sends_47 : decode zb_M_sends 47 = .ok (.iconst 0, 1) ∧ 47 + 1 = 48 := ⟨by decide +kernel, rfl⟩
theorem zd_M_sends_48 : decode zb_M_sends 48 = .ok (.iadd, 1) ∧ 48 + 1 = 49 := ⟨by decide +kernel, rfl⟩
theorem zd_M_sends_49 : decode zb_M_sends 49 = .ok (.istore 5, 2) ∧ 49 + 2 = 51 := ⟨by decide +kernel, rfl⟩
theorem zd_M_sends_51 : decode zb_M_sends 51 = .ok (.aload_n 0, 1) ∧ 51 + 1 = 52 := ⟨by decide +kernel, rfl⟩
theorem zd_M_sends_52 : decode zb_M_sends 52 = .ok (.iload 4, 2) ∧ 52 + 2 = 54 := ⟨by decide +kernel, rfl⟩
theorem zd_M_sends_54 : decode zb_M_sends 54 = .ok (.iload 5, 2) ∧ 54 + 2 = 56 := ⟨by decide +kernel, rfl⟩
theorem zd_M_sends_56 : decode zb_M_sends 56 = .ok (.invokevirtual 420, 3) ∧ 56 + 3 = 59 := ⟨by decide +kernel, rfl⟩
theorem zd_M_sends_59 : decode zb_M_sends 59 = .ok (.ifCond .ne 4, 3) ∧ ((59 : Nat) : Int) + (4) = ((63 : Nat) : Int) ∧ 59 + 3 = 62 := ⟨by decide +kernel, by decide, rfl⟩
theorem zd_M_sends_62 : decode zb_M_sends 62 = .ok (.return_, 1) ∧ 62 + 1 = 63 := ⟨by decide +kernel, rfl⟩
theorem zd_M_sends_63 : decode zb_M_sends 63 = .ok (.iconst 4, 1) ∧ 63 + 1 = 64 := ⟨by decide +kernel, rfl⟩
theorem zd_M_sends_64 : decode zb_M_sends 64 = .ok (.bipush 12, 2) ∧ 64 + 2 = 66 := ⟨by decide +kernel, rfl⟩
theorem zd_M_sends_66 : decode zb_M_sends 66 = .ok (.iload 5, 2) ∧ 66 + 2 = 68 := ⟨by decide +kernel, rfl⟩
theorem zd_M_sends_68 : decode zb_M_sends 68 = .ok (.imul, 1) ∧ 68 + 1 = 69 := ⟨by decide +kernel, rfl⟩
theorem zd_M_sends_69 : decode zb_M_sends 69 = .ok (.iload 4, 2) ∧ 69 + 2 = 71 := ⟨by decide +kernel, rfl⟩
theorem zd_M_sends_71 : decode zb_M_sends 71 = .ok (.iadd, 1) ∧ 71 + 1 = 72 := ⟨by decide +kernel, rfl⟩
theorem zd_M_sends_72 : decode zb_M_sends 72 = .ok (.imul, 1) ∧ 72 + 1 = 73 := ⟨by decide +kernel, rfl⟩
theorem zd_M_sends_73 : decode zb_M_sends 73 = .ok (.iload_n 2, 1) ∧ 73 + 1 = 74 := ⟨by decide +kernel, rfl⟩
theorem zd_M_sends_74 : decode zb_M_sends 74 = .ok (.iadd, 1) ∧ 74 + 1 = 75 := ⟨by decide +kernel, rfl⟩
theorem zd_M_sends_75 : decode zb_M_sends 75 = .ok (.istore 6, 2) ∧ 75 + 2 = 77 := ⟨by decide +kernel, rfl⟩
theorem zd_M_sends_77 : decode zb_M_sends 77 = .ok (.aload_n 0, 1) ∧ 77 + 1 = 78 := ⟨by decide +kernel, rfl⟩
theorem zd_M_sends_78 : decode zb_M_sends 78 = .ok (.getfield 174, 3) ∧ 78 + 3 = 81 := ⟨by decide +kernel, rfl⟩
theorem zd_M_sends_81 : decode zb_M_sends 81 = .ok (.iload 6, 2) ∧ 81 + 2 = 83 := ⟨by decide +kernel, rfl⟩
theorem zd_M_sends_83 : decode zb_M_sends 83 = .ok (.iaload, 1) ∧ 83 + 1 = 84 := ⟨by decide +kernel, rfl⟩
theorem zd_M_sends_84 : decode zb_M_sends 84 = .ok (.iload_n 3, 1) ∧ 84 + 1 = 85 := ⟨by decide +kernel, rfl⟩
theorem zd_M_sends_85 : decode zb_M_sends 85 = .ok (.ior, 1) ∧ 85 + 1 = 86 := ⟨by decide +kernel, rfl⟩
theorem zd_M_sends_86 : decode zb_M_sends 86 = .ok (.aload_n 0, 1) ∧ 86 + 1 = 87 := ⟨by decide +kernel, rfl⟩
theorem zd_M_sends_87 : decode zb_M_sends 87 = .ok (.getfield 174, 3) ∧ 87 + 3 = 90 := ⟨by decide +kernel, rfl⟩
theorem zd_M_sends_90 : decode zb_M_sends 90 = .ok (.iload 6, 2) ∧ 90 + 2 = 92 := ⟨by decide +kernel, rfl⟩
theorem zd_M_sends_92 : decode zb_M_sends 92 = .ok (.iaload, 1) ∧ 92 + 1 = 93 := ⟨by decide +kernel, rfl⟩
theorem zd_M_sends_93 : decode zb_M_sends 93 = .ok (.if_icmp .ne 4, 3) ∧ ((93 : Nat) : Int) + (4) = ((97 : Nat) : Int) ∧ 93 + 3 = 96 := ⟨by decide +kernel, by decide, rfl⟩
theorem zd_M_sends_96 : decode zb_M_sends 96 = .ok (.return_, 1) ∧ 96 + 1 = 97 := ⟨by decide +kernel, rfl⟩
theorem zd_M_sends_97 : decode zb_M_sends 97 = .ok (.aload_n 0, 1) ∧ 97 + 1 = 98 := ⟨by decide +kernel, rfl⟩
theorem zd_M_sends_98 : decode zb_M_sends 98 = .ok (.getfield 174, 3) ∧ 98 + 3 = 101 := ⟨by decide +kernel, rfl⟩
theorem zd_M_sends_101 : decode zb_M_sends 101 = .ok (.iload 6, 2) ∧ 101 + 2 = 103 := ⟨by decide +kernel, rfl⟩
theorem zd_M_sends_103 : decode zb_M_sends 103 = .ok (.dup2, 1) ∧ 103 + 1 = 104 := ⟨by decide +kernel, rfl⟩
theorem zd_M_sends_104 : decode zb_M_sends 104 = .ok (.iaload, 1) ∧ 104 + 1 = 105 := ⟨by decide +kernel, rfl⟩
theorem zd_M_sends_105 : decode zb_M_sends 105 = .ok (.iload_n 3, 1) ∧ 105 + 1 = 106 := ⟨by decide +kernel, rfl⟩
theorem zd_M_sends_106 : decode zb_M_sends 106 = .ok (.ior, 1) ∧ 106 + 1 = 107 := ⟨by decide +kernel, rfl⟩
theorem zd_M_sends_107 : decode zb_M_sends 107 = .ok (.iastore, 1) ∧ 107 + 1 = 108 := ⟨by decide +kernel, rfl⟩
theorem zd_M_sends_108 : decode zb_M_sends 108 = .ok (.aload_n 0, 1) ∧ 108 + 1 = 109 := ⟨by decide +kernel, rfl⟩
theorem zd_M_sends_109 : decode zb_M_sends 109 = .ok (.getfield 177, 3) ∧ 109 + 3 = 112 := ⟨by decide +kernel, rfl⟩
theorem zd_M_sends_112 : decode zb_M_sends 112 = .ok (.aload_n 0, 1) ∧ 112 + 1 = 113 := ⟨by decide +kernel, rfl⟩
theorem zd_M_sends_113 : decode zb_M_sends 113 = .ok (.getfield 180, 3) ∧ 113 + 3 = 116 := ⟨by decide +kernel, rfl⟩
theorem zd_M_sends_116 : decode zb_M_sends 116 = .ok (.iload 6, 2) ∧ 116 + 2 = 118 := ⟨by decide +kernel, rfl⟩
theorem zd_M_sends_118 : decode zb_M_sends 118 = .ok (.iastore, 1) ∧ 118 + 1 = 119 := ⟨by decide +kernel, rfl⟩
theorem zd_M_sends_119 : decode zb_M_sends 119 = .ok (.aload_n 0, 1) ∧ 119 + 1 = 120 := ⟨by decide +kernel, rfl⟩
theorem zd_M_sends_120 : decode zb_M_sends 120 = .ok (.dup, 1) ∧ 120 + 1 = 121 := ⟨by decide +kernel, rfl⟩
theorem zd_M_sends_121 : decode zb_M_sends 121 = .ok (.getfield 180, 3) ∧ 121 + 3 = 124 := ⟨by decide +kernel, rfl⟩
theorem zd_M_sends_124 : decode zb_M_sends 124 = .ok (.iconst 1, 1) ∧ 124 + 1 = 125 := ⟨by decide +kernel, rfl⟩
theorem zd_M_sends_125 : decode zb_M_sends 125 = .ok (.iadd, 1) ∧ 125 + 1 = 126 := ⟨by decide +kernel, rfl⟩
theorem zd_M_sends_126 : decode zb_M_sends 126 = .ok (.putfield 180, 3) ∧ 126 + 3 = 129 := ⟨by decide +kernel, rfl⟩
theorem zd_M_sends_129 : decode zb_M_sends 129 = .ok (.return_, 1) ∧ 129 + 1 = 130 := ⟨by decide +kernel, rfl⟩
theorem zd_M_mirrored_0 : decode zb_M_mirrored 0 = .ok (.iload_n 1, 1) ∧ 0 + 1 = 1 := ⟨by decide +kernel, rfl⟩
theorem zd_M_mirrored_1 : decode zb_M_mirrored 1 = .ok (.ifCond .ne 9, 3) ∧ ((1 : Nat) : Int) + (9) = ((10 : Nat) : Int) ∧ 1 + 3 = 4 := ⟨by decide +kernel, by decide, rfl⟩
theorem zd_M_mirrored_4 : decode zb_M_mirrored 4 = .ok (.iload_n 0, 1) ∧ 4 + 1 = 5 := ⟨by decide +kernel, rfl⟩
theorem zd_M_mirrored_5 : decode zb_M_mirrored 5 = .ok (.iconst 1, 1) ∧ 5 + 1 = 6 := ⟨by decide +kernel, rfl⟩
theorem zd_M_mirrored_6 : decode zb_M_mirrored 6 = .ok (.ixor, 1) ∧ 6 + 1 = 7 := ⟨by decide +kernel, rfl⟩
theorem zd_M_mirrored_7 : decode zb_M_mirrored 7 = .ok (.goto 6, 3) ∧ ((7 : Nat) : Int) + (6) = ((13 : Nat) : Int) ∧ 7 + 3 = 10 := ⟨by decide +kernel, by decide, rfl⟩
theorem zd_M_mirrored_10 : decode zb_M_mirrored 10 = .ok (.iconst 3, 1) ∧ 10 + 1 = 11 := ⟨by decide +kernel, rfl⟩
theorem zd_M_mirrored_11 : decode zb_M_mirrored 11 = .ok (.iload_n 0, 1) ∧ 11 + 1 = 12 := ⟨by decide +kernel, rfl⟩
theorem zd_M_mirrored_12 : decode zb_M_mirrored 12 = .ok (.isub, 1) ∧ 12 + 1 = 13 := ⟨by decide +kernel, rfl⟩
theorem zd_M_mirrored_13 : decode zb_M_mirrored 13 = .ok (.ireturn, 1) ∧ 13 + 1 = 14 := ⟨by decide +kernel, rfl⟩
theorem zd_M_goes_0 : decode zb_M_goes 0 = .ok (.aload_n 0, 1) ∧ 0 + 1 = 1 := ⟨by decide +kernel, rfl⟩
theorem zd_M_goes_1 : decode zb_M_goes 1 = .ok (.iload_n 1, 1) ∧ 1 + 1 = 2 := ⟨by decide +kernel, rfl⟩
theorem zd_M_goes_2 : decode zb_M_goes 2 = .ok (.invokevirtual 424, 3) ∧ 2 + 3 = 5 := ⟨by decide +kernel, rfl⟩
theorem zd_M_goes_5 : decode zb_M_goes 5 = .ok (.tableswitch 177 0 9 #[55, 177, 88, 63, 106, 122, 177, 177, 158, 88], 55) ∧ 5 + 55 = 60 := ⟨by decide +kernel, rfl⟩
theorem zd_M_goes_60 : decode zb_M_goes 60 = .ok (.aload_n 0, 1) ∧ 60 + 1 = 61 := ⟨by decide +kernel, rfl⟩
theorem zd_M_goes_61 : decode zb_M_goes 61 = .ok (.iload_n 1, 1) ∧ 61 + 1 = 62 := ⟨by decide +kernel, rfl⟩
theorem zd_M_goes_62 : decode zb_M_goes 62 = .ok (.iload_n 2, 1) ∧ 62 + 1 = 63 := ⟨by decide +kernel, rfl⟩
theorem zd_M_goes_63 : decode zb_M_goes 63 = .ok (.iload_n 3, 1) ∧ 63 + 1 = 64 := ⟨by decide +kernel, rfl⟩
theorem zd_M_goes_64 : decode zb_M_goes 64 = .ok (.invokevirtual 430, 3) ∧ 64 + 3 = 67 := ⟨by decide +kernel, rfl⟩
theorem zd_M_goes_67 : decode zb_M_goes 67 = .ok (.return_, 1) ∧ 67 + 1 = 68 := ⟨by decide +kernel, rfl⟩
theorem zd_M_goes_68 : decode zb_M_goes 68 = .ok (.aload_n 0, 1) ∧ 68 + 1 = 69 := ⟨by decide +kernel, rfl⟩
theorem zd_M_goes_69 : decode zb_M_goes 69 = .ok (.iload_n 1, 1) ∧ 69 + 1 = 70 := ⟨by decide +kernel, rfl⟩
theorem zd_M_goes_70 : decode zb_M_goes 70 = .ok (.iload_n 2, 1) ∧ 70 + 1 = 71 := ⟨by decide +kernel, rfl⟩
theorem zd_M_goes_71 : decode zb_M_goes 71 = .ok (.iload_n 3, 1) ∧ 71 + 1 = 72 := ⟨by decide +kernel, rfl⟩
theorem zd_M_goes_72 : decode zb_M_goes 72 = .ok (.invokevirtual 430, 3) ∧ 72 + 3 = 75 := ⟨by decide +kernel, rfl⟩
theorem zd_M_goes_75 : decode zb_M_goes 75 = .ok (.aload_n 0, 1) ∧ 75 + 1 = 76 := ⟨by decide +kernel, rfl⟩
theorem zd_M_goes_76 : decode zb_M_goes 76 = .ok (.iload_n 1, 1) ∧ 76 + 1 = 77 := ⟨by decide +kernel, rfl⟩
theorem zd_M_goes_77 : decode zb_M_goes 77 = .ok (.iload_n 2, 1) ∧ 77 + 1 = 78 := ⟨by decide +kernel, rfl⟩
theorem zd_M_goes_78 : decode zb_M_goes 78 = .ok (.aload_n 0, 1) ∧ 78 + 1 = 79 := ⟨by decide +kernel, rfl⟩
theorem zd_M_goes_79 : decode zb_M_goes 79 = .ok (.iload_n 1, 1) ∧ 79 + 1 = 80 := ⟨by decide +kernel, rfl⟩
theorem zd_M_goes_80 : decode zb_M_goes 80 = .ok (.iload 4, 2) ∧ 80 + 2 = 82 := ⟨by decide +kernel, rfl⟩
theorem zd_M_goes_82 : decode zb_M_goes 82 = .ok (.invokevirtual 427, 3) ∧ 82 + 3 = 85 := ⟨by decide +kernel, rfl⟩
theorem zd_M_goes_85 : decode zb_M_goes 85 = .ok (.invokestatic 434, 3) ∧ 85 + 3 = 88 := ⟨by decide +kernel, rfl⟩
theorem zd_M_goes_88 : decode zb_M_goes 88 = .ok (.iload_n 3, 1) ∧ 88 + 1 = 89 := ⟨by decide +kernel, rfl⟩
theorem zd_M_goes_89 : decode zb_M_goes 89 = .ok (.invokevirtual 430, 3) ∧ 89 + 3 = 92 := ⟨by decide +kernel, rfl⟩
theorem zd_M_goes_92 : decode zb_M_goes 92 = .ok (.return_, 1) ∧ 92 + 1 = 93 := ⟨by decide +kernel, rfl⟩
theorem zd_M_goes_93 : decode zb_M_goes 93 = .ok (.aload_n 0, 1) ∧ 93 + 1 = 94 := ⟨by decide +kernel, rfl⟩
theorem zd_M_goes_94 : decode zb_M_goes 94 = .ok (.iload_n 1, 1) ∧ 94 + 1 = 95 := ⟨by decide +kernel, rfl⟩
theorem zd_M_goes_95 : decode zb_M_goes 95 = .ok (.iload_n 2, 1) ∧ 95 + 1 = 96 := ⟨by decide +kernel, rfl⟩
theorem zd_M_goes_96 : decode zb_M_goes 96 = .ok (.aload_n 0, 1) ∧ 96 + 1 = 97 := ⟨by decide +kernel, rfl⟩
theorem zd_M_goes_97 : decode zb_M_goes 97 = .ok (.iload_n 1, 1) ∧ 97 + 1 = 98 := ⟨by decide +kernel, rfl⟩
theorem zd_M_goes_98 : decode zb_M_goes 98 = .ok (.iload 4, 2) ∧ 98 + 2 = 100 := ⟨by decide +kernel, rfl⟩
theorem zd_M_goes_100 : decode zb_M_goes 100 = .ok (.invokevirtual 427, 3) ∧ 100 + 3 = 103 := ⟨by decide +kernel, rfl⟩
theorem zd_M_goes_103 : decode zb_M_goes 103 = .ok (.invokestatic 434, 3) ∧ 103 + 3 = 106 := ⟨by decide +kernel, rfl⟩
theorem zd_M_goes_106 : decode zb_M_goes 106 = .ok (.iload_n 3, 1) ∧ 106 + 1 = 107 := ⟨by decide +kernel, rfl⟩
theorem zd_M_goes_107 : decode zb_M_goes 107 = .ok (.invokevirtual 430, 3) ∧ 107 + 3 = 110 := ⟨by decide +kernel, rfl⟩
theorem zd_M_goes_110 : decode zb_M_goes 110 = .ok (.return_, 1) ∧ 110 + 1 = 111 := ⟨by decide +kernel, rfl⟩
theorem zd_M_goes_111 : decode zb_M_goes 111 = .ok (.aload_n 0, 1) ∧ 111 + 1 = 112 := ⟨by decide +kernel, rfl⟩
theorem zd_M_goes_112 : decode zb_M_goes 112 = .ok (.iload_n 1, 1) ∧ 112 + 1 = 113 := ⟨by decide +kernel, rfl⟩
theorem zd_M_goes_113 : decode zb_M_goes 113 = .ok (.iload_n 2, 1) ∧ 113 + 1 = 114 := ⟨by decide +kernel, rfl⟩
theorem zd_M_goes_114 : decode zb_M_goes 114 = .ok (.iload_n 3, 1) ∧ 114 + 1 = 115 := ⟨by decide +kernel, rfl⟩
theorem zd_M_goes_115 : decode zb_M_goes 115 = .ok (.aload_n 0, 1) ∧ 115 + 1 = 116 := ⟨by decide +kernel, rfl⟩
theorem zd_M_goes_116 : decode zb_M_goes 116 = .ok (.iload_n 1, 1) ∧ 116 + 1 = 117 := ⟨by decide +kernel, rfl⟩
theorem zd_M_goes_117 : decode zb_M_goes 117 = .ok (.iload 4, 2) ∧ 117 + 2 = 119 := ⟨by decide +kernel, rfl⟩
theorem zd_M_goes_119 : decode zb_M_goes 119 = .ok (.invokevirtual 427, 3) ∧ 119 + 3 = 122 := ⟨by decide +kernel, rfl⟩
theorem zd_M_goes_122 : decode zb_M_goes 122 = .ok (.iand, 1) ∧ 122 + 1 = 123 := ⟨by decide +kernel, rfl⟩
theorem zd_M_goes_123 : decode zb_M_goes 123 = .ok (.invokevirtual 430, 3) ∧ 123 + 3 = 126 := ⟨by decide +kernel, rfl⟩
theorem zd_M_goes_126 : decode zb_M_goes 126 = .ok (.return_, 1) ∧ 126 + 1 = 127 := ⟨by decide +kernel, rfl⟩
theorem zd_M_goes_127 : decode zb_M_goes 127 = .ok (.aload_n 0, 1) ∧ 127 + 1 = 128 := ⟨by decide +kernel, rfl⟩
theorem zd_M_goes_128 : decode zb_M_goes 128 = .ok (.iload_n 1, 1) ∧ 128 + 1 = 129 := ⟨by decide +kernel, rfl⟩
theorem zd_M_goes_129 : decode zb_M_goes 129 = .ok (.iload_n 2, 1) ∧ 129 + 1 = 130 := ⟨by decide +kernel, rfl⟩
theorem zd_M_goes_130 : decode zb_M_goes 130 = .ok (.iload_n 3, 1) ∧ 130 + 1 = 131 := ⟨by decide +kernel, rfl⟩
theorem zd_M_goes_131 : decode zb_M_goes 131 = .ok (.iconst 1, 1) ∧ 131 + 1 = 132 := ⟨by decide +kernel, rfl⟩
theorem zd_M_goes_132 : decode zb_M_goes 132 = .ok (.iand, 1) ∧ 132 + 1 = 133 := ⟨by decide +kernel, rfl⟩
theorem zd_M_goes_133 : decode zb_M_goes 133 = .ok (.invokevirtual 430, 3) ∧ 133 + 3 = 136 := ⟨by decide +kernel, rfl⟩
theorem zd_M_goes_136 : decode zb_M_goes 136 = .ok (.aload_n 0, 1) ∧ 136 + 1 = 137 := ⟨by decide +kernel, rfl⟩
theorem zd_M_goes_137 : decode zb_M_goes 137 = .ok (.iload_n 1, 1) ∧ 137 + 1 = 138 := ⟨by decide +kernel, rfl⟩
theorem zd_M_goes_138 : decode zb_M_goes 138 = .ok (.iload_n 2, 1) ∧ 138 + 1 = 139 := ⟨by decide +kernel, rfl⟩
theorem zd_M_goes_139 : decode zb_M_goes 139 = .ok (.iconst 1, 1) ∧ 139 + 1 = 140 := ⟨by decide +kernel, rfl⟩
theorem zd_M_goes_140 : decode zb_M_goes 140 = .ok (.iadd, 1) ∧ 140 + 1 = 141 := ⟨by decide +kernel, rfl⟩
theorem zd_M_goes_141 : decode zb_M_goes 141 = .ok (.iconst 4, 1) ∧ 141 + 1 = 142 := ⟨by decide +kernel, rfl⟩
theorem zd_M_goes_142 : decode zb_M_goes 142 = .ok (.irem, 1) ∧ 142 + 1 = 143 := ⟨by decide +kernel, rfl⟩
theorem zd_M_goes_143 : decode zb_M_goes 143 = .ok (.iload_n 3, 1) ∧ 143 + 1 = 144 := ⟨by decide +kernel, rfl⟩
theorem zd_M_goes_144 : decode zb_M_goes 144 = .ok (.iconst 2, 1) ∧ 144 + 1 = 145 := ⟨by decide +kernel, rfl⟩
theorem zd_M_goes_145 : decode zb_M_goes 145 = .ok (.iand, 1) ∧ 145 + 1 = 146 := ⟨by decide +kernel, rfl⟩
theorem zd_M_goes_146 : decode zb_M_goes 146 = .ok (.invokevirtual 430, 3) ∧ 146 + 3 = 149 := ⟨by decide +kernel, rfl⟩
theorem zd_M_goes_149 : decode zb_M_goes 149 = .ok (.aload_n 0, 1) ∧ 149 + 1 = 150 := ⟨by decide +kernel, rfl⟩
theorem zd_M_goes_150 : decode zb_M_goes 150 = .ok (.iload_n 1, 1) ∧ 150 + 1 = 151 := ⟨by decide +kernel, rfl⟩
theorem zd_M_goes_151 : decode zb_M_goes 151 = .ok (.iload_n 2, 1) ∧ 151 + 1 = 152 := ⟨by decide +kernel, rfl⟩
theorem zd_M_goes_152 : decode zb_M_goes 152 = .ok (.iconst 3, 1) ∧ 152 + 1 = 153 := ⟨by decide +kernel, rfl⟩
theorem zd_M_goes_153 : decode zb_M_goes 153 = .ok (.iadd, 1) ∧ 153 + 1 = 154 := ⟨by decide +kernel, rfl⟩
theorem zd_M_goes_154 : decode zb_M_goes 154 = .ok (.iconst 4, 1) ∧ 154 + 1 = 155 := ⟨by decide +kernel, rfl⟩
theorem zd_M_goes_155 : decode zb_M_goes 155 = .ok (.irem, 1) ∧ 155 + 1 = 156 := ⟨by decide +kernel, rfl⟩
theorem zd_M_goes_156 : decode zb_M_goes 156 = .ok (.iload_n 3, 1) ∧ 156 + 1 = 157 := ⟨by decide +kernel, rfl⟩
theorem zd_M_goes_157 : decode zb_M_goes 157 = .ok (.iconst 4, 1) ∧ 157 + 1 = 158 := ⟨by decide +kernel, rfl⟩
theorem zd_M_goes_158 : decode zb_M_goes 158 = .ok (.iand, 1) ∧ 158 + 1 = 159 := ⟨by decide +kernel, rfl⟩
theorem zd_M_goes_159 : decode zb_M_goes 159 = .ok (.invokevirtual 430, 3) ∧ 159 + 3 = 162 := ⟨by decide +kernel, rfl⟩
theorem zd_M_goes_162 : decode zb_M_goes 162 = .ok (.return_, 1) ∧ 162 + 1 = 163 := ⟨by decide +kernel, rfl⟩
theorem zd_M_goes_163 : decode zb_M_goes 163 = .ok (.aload_n 0, 1) ∧ 163 + 1 = 164 := ⟨by decide +kernel, rfl⟩
theorem zd_M_goes_164 : decode zb_M_goes 164 = .ok (.iload_n 1, 1) ∧ 164 + 1 = 165 := ⟨by decide +kernel, rfl⟩
theorem zd_M_goes_165 : decode zb_M_goes 165 = .ok (.iload 4, 2) ∧ 165 + 2 = 167 := ⟨by decide +kernel, rfl⟩
theorem zd_M_goes_167 : decode zb_M_goes 167 = .ok (.invokevirtual 427, 3) ∧ 167 + 3 = 170 := ⟨by decide +kernel, rfl⟩
theorem zd_M_goes_170 : decode zb_M_goes 170 = .ok (.iconst 1, 1) ∧ 170 + 1 = 171 := ⟨by decide +kernel, rfl⟩
theorem zd_M_goes_171 : decode zb_M_goes 171 = .ok (.if_icmp .ne 10, 3) ∧ ((171 : Nat) : Int) + (10) = ((181 : Nat) : Int) ∧ 171 + 3 = 174 := ⟨by decide +kernel, by decide, rfl⟩
theorem zd_M_goes_174 : decode zb_M_goes 174 = .ok (.aload_n 0, 1) ∧ 174 + 1 = 175 := ⟨by decide +kernel, rfl⟩
theorem zd_M_goes_175 : decode zb_M_goes 175 = .ok (.iload_n 1, 1) ∧ 175 + 1 = 176 := ⟨by decide +kernel, rfl⟩
theorem zd_M_goes_176 : decode zb_M_goes 176 = .ok (.iload_n 2, 1) ∧ 176 + 1 = 177 := ⟨by decide +kernel, rfl⟩
theorem zd_M_goes_177 : decode zb_M_goes 177 = .ok (.iload_n 3, 1) ∧ 177 + 1 = 178 := ⟨by decide +kernel, rfl⟩
theorem zd_M_goes_178 : decode zb_M_goes 178 = .ok (.invokevirtual 430, 3) ∧ 178 + 3 = 181 := ⟨by decide +kernel, rfl⟩
theorem zd_M_goes_181 : decode zb_M_goes 181 = .ok (.return_, 1) ∧ 181 + 1 = 182 := ⟨by decide +kernel, rfl⟩
theorem zd_M_goes_182 : decode zb_M_goes 182 = .ok (.return_, 1) ∧ 182 + 1 = 183 := ⟨by decide +kernel, rfl⟩
theorem zd_M_shines_0 : decode zb_M_shines 0 = .ok (.iconst 0, 1) ∧ 0 + 1 = 1 := ⟨by decide +kernel, rfl⟩
theorem zd_M_shines_1 : decode zb_M_shines 1 = .ok (.istore_n 2, 1) ∧ 1 + 1 = 2 := ⟨by decide +kernel, rfl⟩
theorem zd_M_shines_2 : decode zb_M_shines 2 = .ok (.iload_n 2, 1) ∧ 2 + 1 = 3 := ⟨by decide +kernel, rfl⟩
theorem zd_M_shines_3 : decode zb_M_shines 3 = .ok (.sipush 576, 3) ∧ 3 + 3 = 6 := ⟨by decide +kernel, rfl⟩
theorem zd_M_shines_6 : decode zb_M_shines 6 = .ok (.if_icmp .ge 16, 3) ∧ ((6 : Nat) : Int) + (16) = ((22 : Nat) : Int) ∧ 6 + 3 = 9 := ⟨by decide +kernel, by decide, rfl⟩
theorem zd_M_shines_9 : decode zb_M_shines 9 = .ok (.aload_n 0, 1) ∧ 9 + 1 = 10 := ⟨by decide +kernel, rfl⟩
theorem zd_M_shines_10 : decode zb_M_shines 10 = .ok (.getfield 174, 3) ∧ 10 + 3 = 13 := ⟨by decide +kernel, rfl⟩
theorem zd_M_shines_13 : decode zb_M_shines 13 = .ok (.iload_n 2, 1) ∧ 13 + 1 = 14 := ⟨by decide +kernel, rfl⟩
theorem zd_M_shines_14 : decode zb_M_shines 14 = .ok (.iconst 0, 1) ∧ 14 + 1 = 15 := ⟨by decide +kernel, rfl⟩
theorem zd_M_shines_15 : decode zb_M_shines 15 = .ok (.iastore, 1) ∧ 15 + 1 = 16 := ⟨by decide +kernel, rfl⟩
theorem zd_M_shines_16 : decode zb_M_shines 16 = .ok (.iinc 2 1, 3) ∧ 16 + 3 = 19 := ⟨by decide +kernel, rfl⟩
theorem zd_M_shines_19 : decode zb_M_shines 19 = .ok (.goto (-17), 3) ∧ ((19 : Nat) : Int) + (-17) = ((2 : Nat) : Int) ∧ 19 + 3 = 22 := ⟨by decide +kernel, by decide, rfl⟩
theorem zd_M_shines_22 : decode zb_M_shines 22 = .ok (.aload_n 0, 1) ∧ 22 + 1 = 23 := ⟨by decide +kernel, rfl⟩
theorem zd_M_shines_23 : decode zb_M_shines 23 = .ok (.iconst 0, 1) ∧ 23 + 1 = 24 := ⟨by decide +kernel, rfl⟩
theorem zd_M_shines_24 : decode zb_M_shines 24 = .ok (.putfield 180, 3) ∧ 24 + 3 = 27 := ⟨by decide +kernel, rfl⟩
theorem zd_M_shines_27 : decode zb_M_shines 27 = .ok (.iconst 0, 1) ∧ 27 + 1 = 28 := ⟨by decide +kernel, rfl⟩
theorem zd_M_shines_28 : decode zb_M_shines 28 = .ok (.istore_n 2, 1) ∧ 28 + 1 = 29 := ⟨by decide +kernel, rfl⟩
theorem zd_M_shines_29 : decode zb_M_shines 29 = .ok (.iload_n 2, 1) ∧ 29 + 1 = 30 := ⟨by decide +kernel, rfl⟩
theorem zd_M_shines_30 : decode zb_M_shines 30 = .ok (.sipush 144, 3) ∧ 30 + 3 = 33 := ⟨by decide +kernel, rfl⟩
theorem zd_M_shines_33 : decode zb_M_shines 33 = .ok (.if_icmp .ge 66, 3) ∧ ((33 : Nat) : Int) + (66) = ((99 : Nat) : Int) ∧ 33 + 3 = 36 := ⟨by decide +kernel, by decide, rfl⟩
theorem zd_M_shines_36 : decode zb_M_shines 36 = .ok (.aload_n 0, 1) ∧ 36 + 1 = 37 := ⟨by decide +kernel, rfl⟩
theorem zd_M_shines_37 : decode zb_M_shines 37 = .ok (.iload_n 2, 1) ∧ 37 + 1 = 38 := ⟨by decide +kernel, rfl⟩
theorem zd_M_shines_38 : decode zb_M_shines 38 = .ok (.invokevirtual 424, 3) ∧ 38 + 3 = 41 := ⟨by decide +kernel, rfl⟩
theorem zd_M_shines_41 : decode zb_M_shines 41 = .ok (.iconst 1, 1) ∧ 41 + 1 = 42 := ⟨by decide +kernel, rfl⟩
theorem zd_M_shines_42 : decode zb_M_shines 42 = .ok (.if_icmp .ne 51, 3) ∧ ((42 : Nat) : Int) + (51) = ((93 : Nat) : Int) ∧ 42 + 3 = 45 := ⟨by decide +kernel, by decide, rfl⟩
theorem zd_M_shines_45 : decode zb_M_shines 45 = .ok (.aload_n 0, 1) ∧ 45 + 1 = 46 := ⟨by decide +kernel, rfl⟩
theorem zd_M_shines_46 : decode zb_M_shines 46 = .ok (.getfield 183, 3) ∧ 46 + 3 = 49 := ⟨by decide +kernel, rfl⟩
theorem zd_M_shines_49 : decode zb_M_shines 49 = .ok (.iconst (-1), 1) ∧ 49 + 1 = 50 := ⟨by decide +kernel, rfl⟩
theorem zd_M_shines_50 : decode zb_M_shines 50 = .ok (.if_icmp .eq 18, 3) ∧ ((50 : Nat) : Int) + (18) = ((68 : Nat) : Int) ∧ 50 + 3 = 53 := ⟨by decide +kernel, by decide, rfl⟩
theorem zd_M_shines_53 : decode zb_M_shines 53 = .ok (.aload_n 0, 1) ∧ 53 + 1 = 54 := ⟨by decide +kernel, rfl⟩
theorem zd_M_shines_54 : decode zb_M_shines 54 = .ok (.iload_n 2, 1) ∧ 54 + 1 = 55 := ⟨by decide +kernel, rfl⟩
theorem zd_M_shines_55 : decode zb_M_shines 55 = .ok (.invokevirtual 417, 3) ∧ 55 + 3 = 58 := ⟨by decide +kernel, rfl⟩
theorem zd_M_shines_58 : decode zb_M_shines 58 = .ok (.aload_n 0, 1) ∧ 58 + 1 = 59 := ⟨by decide +kernel, rfl⟩
theorem zd_M_shines_59 : decode zb_M_shines 59 = .ok (.getfield 183, 3) ∧ 59 + 3 = 62 := ⟨by decide +kernel, rfl⟩
theorem zd_M_shines_62 : decode zb_M_shines 62 = .ok (.if_icmp .eq 6, 3) ∧ ((62 : Nat) : Int) + (6) = ((68 : Nat) : Int) ∧ 62 + 3 = 65 := ⟨by decide +kernel, by decide, rfl⟩
theorem zd_M_shines_65 : decode zb_M_shines 65 = .ok (.goto 28, 3) ∧ ((65 : Nat) : Int) + (28) = ((93 : Nat) : Int) ∧ 65 + 3 = 68 := ⟨by decide +kernel, by decide, rfl⟩
theorem zd_M_shines_68 : decode zb_M_shines 68 = .ok (.aload_n 0, 1) ∧ 68 + 1 = 69 := ⟨by decide +kernel, rfl⟩
theorem zd_M_shines_69 : decode zb_M_shines 69 = .ok (.iload_n 2, 1) ∧ 69 + 1 = 70 := ⟨by decide +kernel, rfl⟩
theorem zd_M_shines_70 : decode zb_M_shines 70 = .ok (.aload_n 0, 1) ∧ 70 + 1 = 71 := ⟨by decide +kernel, rfl⟩
theorem zd_M_shines_71 : decode zb_M_shines 71 = .ok (.getfield 84, 3) ∧ 71 + 3 = 74 := ⟨by decide +kernel, rfl⟩
theorem zd_M_shines_74 : decode zb_M_shines 74 = .ok (.aload_n 0, 1) ∧ 74 + 1 = 75 := ⟨by decide +kernel, rfl⟩
theorem zd_M_shines_75 : decode zb_M_shines 75 = .ok (.iload_n 2, 1) ∧ 75 + 1 = 76 := ⟨by decide +kernel, rfl⟩
theorem zd_M_shines_76 : decode zb_M_shines 76 = .ok (.invokevirtual 414, 3) ∧ 76 + 3 = 79 := ⟨by decide +kernel, rfl⟩
theorem zd_M_shines_79 : decode zb_M_shines 79 = .ok (.iaload, 1) ∧ 79 + 1 = 80 := ⟨by decide +kernel, rfl⟩
theorem zd_M_shines_80 : decode zb_M_shines 80 = .ok (.aload_n 0, 1) ∧ 80 + 1 = 81 := ⟨by decide +kernel, rfl⟩
theorem zd_M_shines_81 : decode zb_M_shines 81 = .ok (.getfield 81, 3) ∧ 81 + 3 = 84 := ⟨by decide +kernel, rfl⟩
theorem zd_M_shines_84 : decode zb_M_shines 84 = .ok (.aload_n 0, 1) ∧ 84 + 1 = 85 := ⟨by decide +kernel, rfl⟩
theorem zd_M_shines_85 : decode zb_M_shines 85 = .ok (.iload_n 2, 1) ∧ 85 + 1 = 86 := ⟨by decide +kernel, rfl⟩
theorem zd_M_shines_86 : decode zb_M_shines 86 = .ok (.invokevirtual 414, 3) ∧ 86 + 3 = 89 := ⟨by decide +kernel, rfl⟩
theorem zd_M_shines_89 : decode zb_M_shines 89 = .ok (.iaload, 1) ∧ 89 + 1 = 90 := ⟨by decide +kernel, rfl⟩
theorem zd_M_shines_90 : decode zb_M_shines 90 = .ok (.invokevirtual 430, 3) ∧ 90 + 3 = 93 := ⟨by decide +kernel, rfl⟩
theorem zd_M_shines_93 : decode zb_M_shines 93 = .ok (.iinc 2 1, 3) ∧ 93 + 3 = 96 := ⟨by decide +kernel, rfl⟩
theorem zd_M_shines_96 : decode zb_M_shines 96 = .ok (.goto (-67), 3) ∧ ((96 : Nat) : Int) + (-67) = ((29 : Nat) : Int) ∧ 96 + 3 = 99 := ⟨by decide +kernel, by decide, rfl⟩
theorem zd_M_shines_99 : decode zb_M_shines 99 = .ok (.aload_n 0, 1) ∧ 99 + 1 = 100 := ⟨by decide +kernel, rfl⟩
theorem zd_M_shines_100 : decode zb_M_shines 100 = .ok (.getfield 180, 3) ∧ 100 + 3 = 103 := ⟨by decide +kernel, rfl⟩
theorem zd_M_shines_103 : decode zb_M_shines 103 = .ok (.ifCond .le 43, 3) ∧ ((103 : Nat) : Int) + (43) = ((146 : Nat) : Int) ∧ 103 + 3 = 106 := ⟨by decide +kernel, by decide, rfl⟩
theorem zd_M_shines_106 : decode zb_M_shines 106 = .ok (.aload_n 0, 1) ∧ 106 + 1 = 107 := ⟨by decide +kernel, rfl⟩
theorem zd_M_shines_107 : decode zb_M_shines 107 = .ok (.dup, 1) ∧ 107 + 1 = 108 := ⟨by decide +kernel, rfl⟩
theorem zd_M_shines_108 : decode zb_M_shines 108 = .ok (.getfield 180, 3) ∧ 108 + 3 = 111 := ⟨by decide +kernel, rfl⟩
theorem zd_M_shines_111 : decode zb_M_shines 111 = .ok (.iconst 1, 1) ∧ 111 + 1 = 112 := ⟨by decide +kernel, rfl⟩
theorem zd_M_shines_112 : decode zb_M_shines 112 = .ok (.isub, 1) ∧ 112 + 1 = 113 := ⟨by decide +kernel, rfl⟩
theorem zd_M_shines_113 : decode zb_M_shines 113 = .ok (.putfield 180, 3) ∧ 113 + 3 = 116 := ⟨by decide +kernel, rfl⟩
theorem zd_M_shines_116 : decode zb_M_shines 116 = .ok (.aload_n 0, 1) ∧ 116 + 1 = 117 := ⟨by decide +kernel, rfl⟩
theorem zd_M_shines_117 : decode zb_M_shines 117 = .ok (.getfield 177, 3) ∧ 117 + 3 = 120 := ⟨by decide +kernel, rfl⟩
theorem zd_M_shines_120 : decode zb_M_shines 120 = .ok (.aload_n 0, 1) ∧ 120 + 1 = 121 := ⟨by decide +kernel, rfl⟩
theorem zd_M_shines_121 : decode zb_M_shines 121 = .ok (.getfield 180, 3) ∧ 121 + 3 = 124 := ⟨by decide +kernel, rfl⟩
theorem zd_M_shines_124 : decode zb_M_shines 124 = .ok (.iaload, 1) ∧ 124 + 1 = 125 := ⟨by decide +kernel, rfl⟩
theorem zd_M_shines_125 : decode zb_M_shines 125 = .ok (.istore_n 2, 1) ∧ 125 + 1 = 126 := ⟨by decide +kernel, rfl⟩
theorem zd_M_shines_126 : decode zb_M_shines 126 = .ok (.aload_n 0, 1) ∧ 126 + 1 = 127 := ⟨by decide +kernel, rfl⟩
theorem zd_M_shines_127 : decode zb_M_shines 127 = .ok (.iload_n 2, 1) ∧ 127 + 1 = 128 := ⟨by decide +kernel, rfl⟩
theorem zd_M_shines_128 : decode zb_M_shines 128 = .ok (.iconst 4, 1) ∧ 128 + 1 = 129 := ⟨by decide +kernel, rfl⟩
theorem zd_M_shines_129 : decode zb_M_shines 129 = .ok (.idiv, 1) ∧ 129 + 1 = 130 := ⟨by decide +kernel, rfl⟩
theorem zd_M_shines_130 : decode zb_M_shines 130 = .ok (.iload_n 2, 1) ∧ 130 + 1 = 131 := ⟨by decide +kernel, rfl⟩
theorem zd_M_shines_131 : decode zb_M_shines 131 = .ok (.iconst 4, 1) ∧ 131 + 1 = 132 := ⟨by decide +kernel, rfl⟩
theorem zd_M_shines_132 : decode zb_M_shines 132 = .ok (.irem, 1) ∧ 132 + 1 = 133 := ⟨by decide +kernel, rfl⟩
theorem zd_M_shines_133 : decode zb_M_shines 133 = .ok (.aload_n 0, 1) ∧ 133 + 1 = 134 := ⟨by decide +kernel, rfl⟩
theorem zd_M_shines_134 : decode zb_M_shines 134 = .ok (.getfield 174, 3) ∧ 134 + 3 = 137 := ⟨by decide +kernel, rfl⟩
theorem zd_M_shines_137 : decode zb_M_shines 137 = .ok (.iload_n 2, 1) ∧ 137 + 1 = 138 := ⟨by decide +kernel, rfl⟩
theorem zd_M_shines_138 : decode zb_M_shines 138 = .ok (.iaload, 1) ∧ 138 + 1 = 139 := ⟨by decide +kernel, rfl⟩
theorem zd_M_shines_139 : decode zb_M_shines 139 = .ok (.iload_n 1, 1) ∧ 139 + 1 = 140 := ⟨by decide +kernel, rfl⟩
theorem zd_M_shines_140 : decode zb_M_shines 140 = .ok (.invokevirtual 437, 3) ∧ 140 + 3 = 143 := ⟨by decide +kernel, rfl⟩
theorem zd_M_shines_143 : decode zb_M_shines 143 = .ok (.goto (-44), 3) ∧ ((143 : Nat) : Int) + (-44) = ((99 : Nat) : Int) ∧ 143 + 3 = 146 := ⟨by decide +kernel, by decide, rfl⟩
theorem zd_M_shines_146 : decode zb_M_shines 146 = .ok (.return_, 1) ∧ 146 + 1 = 147 := ⟨by decide +kernel, rfl⟩
theorem zd_M_into_0 : decode zb_M_into 0 = .ok (.aload_n 0, 1) ∧ 0 + 1 = 1 := ⟨by decide +kernel, rfl⟩
theorem zd_M_into_1 : decode zb_M_into 1 = .ok (.getfield 174, 3) ∧ 1 + 3 = 4 := ⟨by decide +kernel, rfl⟩
theorem zd_M_into_4 : decode zb_M_into 4 = .ok (.iconst 4, 1) ∧ 4 + 1 = 5 := ⟨by decide +kernel, rfl⟩
theorem zd_M_into_5 : decode zb_M_into 5 = .ok (.iload_n 1, 1) ∧ 5 + 1 = 6 := ⟨by decide +kernel, rfl⟩
theorem zd_M_into_6 : decode zb_M_into 6 = .ok (.imul, 1) ∧ 6 + 1 = 7 := ⟨by decide +kernel, rfl⟩
theorem zd_M_into_7 : decode zb_M_into 7 = .ok (.iaload, 1) ∧ 7 + 1 = 8 := ⟨by decide +kernel, rfl⟩
theorem zd_M_into_8 : decode zb_M_into 8 = .ok (.aload_n 0, 1) ∧ 8 + 1 = 9 := ⟨by decide +kernel, rfl⟩
theorem zd_M_into_9 : decode zb_M_into 9 = .ok (.getfield 174, 3) ∧ 9 + 3 = 12 := ⟨by decide +kernel, rfl⟩
theorem zd_M_into_12 : decode zb_M_into 12 = .ok (.iconst 4, 1) ∧ 12 + 1 = 13 := ⟨by decide +kernel, rfl⟩
theorem zd_M_into_13 : decode zb_M_into 13 = .ok (.iload_n 1, 1) ∧ 13 + 1 = 14 := ⟨by decide +kernel, rfl⟩
theorem zd_M_into_14 : decode zb_M_into 14 = .ok (.imul, 1) ∧ 14 + 1 = 15 := ⟨by decide +kernel, rfl⟩
theorem zd_M_into_15 : decode zb_M_into 15 = .ok (.iconst 1, 1) ∧ 15 + 1 = 16 := ⟨by decide +kernel, rfl⟩
theorem zd_M_into_16 : decode zb_M_into 16 = .ok (.iadd, 1) ∧ 16 + 1 = 17 := ⟨by decide +kernel, rfl⟩
theorem zd_M_into_17 : decode zb_M_into 17 = .ok (.iaload, 1) ∧ 17 + 1 = 18 := ⟨by decide +kernel, rfl⟩
theorem zd_M_into_18 : decode zb_M_into 18 = .ok (.ior, 1) ∧ 18 + 1 = 19 := ⟨by decide +kernel, rfl⟩
theorem zd_M_into_19 : decode zb_M_into 19 = .ok (.aload_n 0, 1) ∧ 19 + 1 = 20 := ⟨by decide +kernel, rfl⟩
theorem zd_M_into_20 : decode zb_M_into 20 = .ok (.getfield 174, 3) ∧ 20 + 3 = 23 := ⟨by decide +kernel, rfl⟩
theorem zd_M_into_23 : decode zb_M_into 23 = .ok (.iconst 4, 1) ∧ 23 + 1 = 24 := ⟨by decide +kernel, rfl⟩
theorem zd_M_into_24 : decode zb_M_into 24 = .ok (.iload_n 1, 1) ∧ 24 + 1 = 25 := ⟨by decide +kernel, rfl⟩
theorem zd_M_into_25 : decode zb_M_into 25 = .ok (.imul, 1) ∧ 25 + 1 = 26 := ⟨by decide +kernel, rfl⟩
theorem zd_M_into_26 : decode zb_M_into 26 = .ok (.iconst 2, 1) ∧ 26 + 1 = 27 := ⟨by decide +kernel, rfl⟩
theorem zd_M_into_27 : decode zb_M_into 27 = .ok (.iadd, 1) ∧ 27 + 1 = 28 := ⟨by decide +kernel, rfl⟩
theorem zd_M_into_28 : decode zb_M_into 28 = .ok (.iaload, 1) ∧ 28 + 1 = 29 := ⟨by decide +kernel, rfl⟩
theorem zd_M_into_29 : decode zb_M_into 29 = .ok (.ior, 1) ∧ 29 + 1 = 30 := ⟨by decide +kernel, rfl⟩
theorem zd_M_into_30 : decode zb_M_into 30 = .ok (.aload_n 0, 1) ∧ 30 + 1 = 31 := ⟨by decide +kernel, rfl⟩
theorem zd_M_into_31 : decode zb_M_into 31 = .ok (.getfield 174, 3) ∧ 31 + 3 = 34 := ⟨by decide +kernel, rfl⟩
theorem zd_M_into_34 : decode zb_M_into 34 = .ok (.iconst 4, 1) ∧ 34 + 1 = 35 := ⟨by decide +kernel, rfl⟩
theorem zd_M_into_35 : decode zb_M_into 35 = .ok (.iload_n 1, 1) ∧ 35 + 1 = 36 := ⟨by decide +kernel, rfl⟩
theorem zd_M_into_36 : decode zb_M_into 36 = .ok (.imul, 1) ∧ 36 + 1 = 37 := ⟨by decide +kernel, rfl⟩
theorem zd_M_into_37 : decode zb_M_into 37 = .ok (.iconst 3, 1) ∧ 37 + 1 = 38 := ⟨by decide +kernel, rfl⟩
theorem zd_M_into_38 : decode zb_M_into 38 = .ok (.iadd, 1) ∧ 38 + 1 = 39 := ⟨by decide +kernel, rfl⟩
theorem zd_M_into_39 : decode zb_M_into 39 = .ok (.iaload, 1) ∧ 39 + 1 = 40 := ⟨by decide +kernel, rfl⟩
theorem zd_M_into_40 : decode zb_M_into 40 = .ok (.ior, 1) ∧ 40 + 1 = 41 := ⟨by decide +kernel, rfl⟩
theorem zd_M_into_41 : decode zb_M_into 41 = .ok (.ireturn, 1) ∧ 41 + 1 = 42 := ⟨by decide +kernel, rfl⟩
theorem zd_M_seen_0 : decode zb_M_seen 0 = .ok (.aload_n 0, 1) ∧ 0 + 1 = 1 := ⟨by decide +kernel, rfl⟩
theorem zd_M_seen_1 : decode zb_M_seen 1 = .ok (.aload_n 0, 1) ∧ 1 + 1 = 2 := ⟨by decide +kernel, rfl⟩
theorem zd_M_seen_2 : decode zb_M_seen 2 = .ok (.getfield 91, 3) ∧ 2 + 3 = 5 := ⟨by decide +kernel, rfl⟩
theorem zd_M_seen_5 : decode zb_M_seen 5 = .ok (.bipush 8, 2) ∧ 5 + 2 = 7 := ⟨by decide +kernel, rfl⟩
theorem zd_M_seen_7 : decode zb_M_seen 7 = .ok (.aload_n 0, 1) ∧ 7 + 1 = 8 := ⟨by decide +kernel, rfl⟩
theorem zd_M_seen_8 : decode zb_M_seen 8 = .ok (.getfield 51, 3) ∧ 8 + 3 = 11 := ⟨by decide +kernel, rfl⟩
theorem zd_M_seen_11 : decode zb_M_seen 11 = .ok (.imul, 1) ∧ 11 + 1 = 12 := ⟨by decide +kernel, rfl⟩
theorem zd_M_seen_12 : decode zb_M_seen 12 = .ok (.iload_n 1, 1) ∧ 12 + 1 = 13 := ⟨by decide +kernel, rfl⟩
theorem zd_M_seen_13 : decode zb_M_seen 13 = .ok (.iadd, 1) ∧ 13 + 1 = 14 := ⟨by decide +kernel, rfl⟩
theorem zd_M_seen_14 : decode zb_M_seen 14 = .ok (.iaload, 1) ∧ 14 + 1 = 15 := ⟨by decide +kernel, rfl⟩
theorem zd_M_seen_15 : decode zb_M_seen 15 = .ok (.invokevirtual 414, 3) ∧ 15 + 3 = 18 := ⟨by decide +kernel, rfl⟩
theorem zd_M_seen_18 : decode zb_M_seen 18 = .ok (.sipush 144, 3) ∧ 18 + 3 = 21 := ⟨by decide +kernel, rfl⟩
theorem zd_M_seen_21 : decode zb_M_seen 21 = .ok (.aload_n 0, 1) ∧ 21 + 1 = 22 := ⟨by decide +kernel, rfl⟩
theorem zd_M_seen_22 : decode zb_M_seen 22 = .ok (.getfield 51, 3) ∧ 22 + 3 = 25 := ⟨by decide +kernel, rfl⟩
theorem zd_M_seen_25 : decode zb_M_seen 25 = .ok (.imul, 1) ∧ 25 + 1 = 26 := ⟨by decide +kernel, rfl⟩
theorem zd_M_seen_26 : decode zb_M_seen 26 = .ok (.isub, 1) ∧ 26 + 1 = 27 := ⟨by decide +kernel, rfl⟩
theorem zd_M_seen_27 : decode zb_M_seen 27 = .ok (.istore_n 2, 1) ∧ 27 + 1 = 28 := ⟨by decide +kernel, rfl⟩
theorem zd_M_seen_28 : decode zb_M_seen 28 = .ok (.iload_n 2, 1) ∧ 28 + 1 = 29 := ⟨by decide +kernel, rfl⟩
theorem zd_M_seen_29 : decode zb_M_seen 29 = .ok (.aload_n 0, 1) ∧ 29 + 1 = 30 := ⟨by decide +kernel, rfl⟩
theorem zd_M_seen_30 : decode zb_M_seen 30 = .ok (.getfield 150, 3) ∧ 30 + 3 = 33 := ⟨by decide +kernel, rfl⟩
theorem zd_M_seen_33 : decode zb_M_seen 33 = .ok (.if_icmp .ne 7, 3) ∧ ((33 : Nat) : Int) + (7) = ((40 : Nat) : Int) ∧ 33 + 3 = 36 := ⟨by decide +kernel, by decide, rfl⟩
theorem zd_M_seen_36 : decode zb_M_seen 36 = .ok (.iconst 0, 1) ∧ 36 + 1 = 37 := ⟨by decide +kernel, rfl⟩
theorem zd_M_seen_37 : decode zb_M_seen 37 = .ok (.goto 8, 3) ∧ ((37 : Nat) : Int) + (8) = ((45 : Nat) : Int) ∧ 37 + 3 = 40 := ⟨by decide +kernel, by decide, rfl⟩
theorem zd_M_seen_40 : decode zb_M_seen 40 = .ok (.aload_n 0, 1) ∧ 40 + 1 = 41 := ⟨by decide +kernel, rfl⟩
theorem zd_M_seen_41 : decode zb_M_seen 41 = .ok (.iload_n 2, 1) ∧ 41 + 1 = 42 := ⟨by decide +kernel, rfl⟩
theorem zd_M_seen_42 : decode zb_M_seen 42 = .ok (.invokevirtual 440, 3) ∧ 42 + 3 = 45 := ⟨by decide +kernel, rfl⟩
theorem zd_M_seen_45 : decode zb_M_seen 45 = .ok (.ireturn, 1) ∧ 45 + 1 = 46 := ⟨by decide +kernel, rfl⟩
theorem zd_M_litEyes_0 : decode zb_M_litEyes 0 = .ok (.iconst 0, 1) ∧ 0 + 1 = 1 := ⟨by decide +kernel, rfl⟩
theorem zd_M_litEyes_1 : decode zb_M_litEyes 1 = .ok (.istore_n 1, 1) ∧ 1 + 1 = 2 := ⟨by decide +kernel, rfl⟩
theorem zd_M_litEyes_2 : decode zb_M_litEyes 2 = .ok (.iconst 0, 1) ∧ 2 + 1 = 3 := ⟨by decide +kernel, rfl⟩
theorem zd_M_litEyes_3 : decode zb_M_litEyes 3 = .ok (.istore_n 2, 1) ∧ 3 + 1 = 4 := ⟨by decide +kernel, rfl⟩
theorem zd_M_litEyes_4 : decode zb_M_litEyes 4 = .ok (.iload_n 2, 1) ∧ 4 + 1 = 5 := ⟨by decide +kernel, rfl⟩
theorem zd_M_litEyes_5 : decode zb_M_litEyes 5 = .ok (.aload_n 0, 1) ∧ 5 + 1 = 6 := ⟨by decide +kernel, rfl⟩
theorem zd_M_litEyes_6 : decode zb_M_litEyes 6 = .ok (.getfield 72, 3) ∧ 6 + 3 = 9 := ⟨by decide +kernel, rfl⟩
theorem zd_M_litEyes_9 : decode zb_M_litEyes 9 = .ok (.aload_n 0, 1) ∧ 9 + 1 = 10 := ⟨by decide +kernel, rfl⟩
theorem zd_M_litEyes_10 : decode zb_M_litEyes 10 = .ok (.getfield 51, 3) ∧ 10 + 3 = 13 := ⟨by decide +kernel, rfl⟩
theorem zd_M_litEyes_13 : decode zb_M_litEyes 13 = .ok (.iaload, 1) ∧ 13 + 1 = 14 := ⟨by decide +kernel, rfl⟩
theorem zd_M_litEyes_14 : decode zb_M_litEyes 14 = .ok (.if_icmp .ge 27, 3) ∧ ((14 : Nat) : Int) + (27) = ((41 : Nat) : Int) ∧ 14 + 3 = 17 := ⟨by decide +kernel, by decide, rfl⟩
theorem zd_M_litEyes_17 : decode zb_M_litEyes 17 = .ok (.iload_n 1, 1) ∧ 17 + 1 = 18 := ⟨by decide +kernel, rfl⟩
theorem zd_M_litEyes_18 : decode zb_M_litEyes 18 = .ok (.aload_n 0, 1) ∧ 18 + 1 = 19 := ⟨by decide +kernel, rfl⟩
theorem zd_M_litEyes_19 : decode zb_M_litEyes 19 = .ok (.iload_n 2, 1) ∧ 19 + 1 = 20 := ⟨by decide +kernel, rfl⟩
theorem zd_M_litEyes_20 : decode zb_M_litEyes 20 = .ok (.invokevirtual 443, 3) ∧ 20 + 3 = 23 := ⟨by decide +kernel, rfl⟩
theorem zd_M_litEyes_23 : decode zb_M_litEyes 23 = .ok (.ifCond .eq 9, 3) ∧ ((23 : Nat) : Int) + (9) = ((32 : Nat) : Int) ∧ 23 + 3 = 26 := ⟨by decide +kernel, by decide, rfl⟩
theorem zd_M_litEyes_26 : decode zb_M_litEyes 26 = .ok (.iconst 1, 1) ∧ 26 + 1 = 27 := ⟨by decide +kernel, rfl⟩
theorem zd_M_litEyes_27 : decode zb_M_litEyes 27 = .ok (.iload_n 2, 1) ∧ 27 + 1 = 28 := ⟨by decide +kernel, rfl⟩
theorem zd_M_litEyes_28 : decode zb_M_litEyes 28 = .ok (.ishl, 1) ∧ 28 + 1 = 29 := ⟨by decide +kernel, rfl⟩
theorem zd_M_litEyes_29 : decode zb_M_litEyes 29 = .ok (.goto 4, 3) ∧ ((29 : Nat) : Int) + (4) = ((33 : Nat) : Int) ∧ 29 + 3 = 32 := ⟨by decide +kernel, by decide, rfl⟩
theorem zd_M_litEyes_32 : decode zb_M_litEyes 32 = .ok (.iconst 0, 1) ∧ 32 + 1 = 33 := ⟨by decide +kernel, rfl⟩
theorem zd_M_litEyes_33 : decode zb_M_litEyes 33 = .ok (.ior, 1) ∧ 33 + 1 = 34 := ⟨by decide +kernel, rfl⟩
theorem zd_M_litEyes_34 : decode zb_M_litEyes 34 = .ok (.istore_n 1, 1) ∧ 34 + 1 = 35 := ⟨by decide +kernel, rfl⟩
theorem zd_M_litEyes_35 : decode zb_M_litEyes 35 = .ok (.iinc 2 1, 3) ∧ 35 + 3 = 38 := ⟨by decide +kernel, rfl⟩
theorem zd_M_litEyes_38 : decode zb_M_litEyes 38 = .ok (.goto (-34), 3) ∧ ((38 : Nat) : Int) + (-34) = ((4 : Nat) : Int) ∧ 38 + 3 = 41 := ⟨by decide +kernel, by decide, rfl⟩
theorem zd_M_litEyes_41 : decode zb_M_litEyes 41 = .ok (.iload_n 1, 1) ∧ 41 + 1 = 42 := ⟨by decide +kernel, rfl⟩
theorem zd_M_litEyes_42 : decode zb_M_litEyes 42 = .ok (.ireturn, 1) ∧ 42 + 1 = 43 := ⟨by decide +kernel, rfl⟩
theorem zd_M_isMirror_0 : decode zb_M_isMirror 0 = .ok (.iload_n 1, 1) ∧ 0 + 1 = 1 := ⟨by decide +kernel, rfl⟩
theorem zd_M_isMirror_1 : decode zb_M_isMirror 1 = .ok (.iconst 0, 1) ∧ 1 + 1 = 2 := ⟨by decide +kernel, rfl⟩
theorem zd_M_isMirror_2 : decode zb_M_isMirror 2 = .ok (.aload_n 0, 1) ∧ 2 + 1 = 3 := ⟨by decide +kernel, rfl⟩
theorem zd_M_isMirror_3 : decode zb_M_isMirror 3 = .ok (.getfield 66, 3) ∧ 3 + 3 = 6 := ⟨by decide +kernel, rfl⟩
theorem zd_M_isMirror_6 : decode zb_M_isMirror 6 = .ok (.aload_n 0, 1) ∧ 6 + 1 = 7 := ⟨by decide +kernel, rfl⟩
theorem zd_M_isMirror_7 : decode zb_M_isMirror 7 = .ok (.getfield 51, 3) ∧ 7 + 3 = 10 := ⟨by decide +kernel, rfl⟩
theorem zd_M_isMirror_10 : decode zb_M_isMirror 10 = .ok (.iaload, 1) ∧ 10 + 1 = 11 := ⟨by decide +kernel, rfl⟩
theorem zd_M_isMirror_11 : decode zb_M_isMirror 11 = .ok (.iconst 1, 1) ∧ 11 + 1 = 12 := ⟨by decide +kernel, rfl⟩
theorem zd_M_isMirror_12 : decode zb_M_isMirror 12 = .ok (.isub, 1) ∧ 12 + 1 = 13 := ⟨by decide +kernel, rfl⟩
theorem zd_M_isMirror_13 : decode zb_M_isMirror 13 = .ok (.invokestatic 320, 3) ∧ 13 + 3 = 16 := ⟨by decide +kernel, rfl⟩
theorem zd_M_isMirror_16 : decode zb_M_isMirror 16 = .ok (.ireturn, 1) ∧ 16 + 1 = 17 := ⟨by decide +kernel, rfl⟩
theorem zd_M_bitsOf_0 : decode zb_M_bitsOf 0 = .ok (.iconst 0, 1) ∧ 0 + 1 = 1 := ⟨by decide +kernel, rfl⟩
theorem zd_M_bitsOf_1 : decode zb_M_bitsOf 1 = .ok (.istore_n 1, 1) ∧ 1 + 1 = 2 := ⟨by decide +kernel, rfl⟩
theorem zd_M_bitsOf_2 : decode zb_M_bitsOf 2 = .ok (.iload_n 0, 1) ∧ 2 + 1 = 3 := ⟨by decide +kernel, rfl⟩
theorem zd_M_bitsOf_3 : decode zb_M_bitsOf 3 = .ok (.istore_n 2, 1) ∧ 3 + 1 = 4 := ⟨by decide +kernel, rfl⟩
theorem zd_M_bitsOf_4 : decode zb_M_bitsOf 4 = .ok (.iload_n 2, 1) ∧ 4 + 1 = 5 := ⟨by decide +kernel, rfl⟩
theorem zd_M_bitsOf_5 : decode zb_M_bitsOf 5 = .ok (.ifCond .eq 16, 3) ∧ ((5 : Nat) : Int) + (16) = ((21 : Nat) : Int) ∧ 5 + 3 = 8 := ⟨by decide +kernel, by decide, rfl⟩
theorem zd_M_bitsOf_8 : decode zb_M_bitsOf 8 = .ok (.iload_n 1, 1) ∧ 8 + 1 = 9 := ⟨by decide +kernel, rfl⟩
theorem zd_M_bitsOf_9 : decode zb_M_bitsOf 9 = .ok (.iload_n 2, 1) ∧ 9 + 1 = 10 := ⟨by decide +kernel, rfl⟩
theorem zd_M_bitsOf_10 : decode zb_M_bitsOf 10 = .ok (.iconst 1, 1) ∧ 10 + 1 = 11 := ⟨by decide +kernel, rfl⟩
theorem zd_M_bitsOf_11 : decode zb_M_bitsOf 11 = .ok (.iand, 1) ∧ 11 + 1 = 12 := ⟨by decide +kernel, rfl⟩
theorem zd_M_bitsOf_12 : decode zb_M_bitsOf 12 = .ok (.iadd, 1) ∧ 12 + 1 = 13 := ⟨by decide +kernel, rfl⟩
theorem zd_M_bitsOf_13 : decode zb_M_bitsOf 13 = .ok (.istore_n 1, 1) ∧ 13 + 1 = 14 := ⟨by decide +kernel, rfl⟩
theorem zd_M_bitsOf_14 : decode zb_M_bitsOf 14 = .ok (.iload_n 2, 1) ∧ 14 + 1 = 15 := ⟨by decide +kernel, rfl⟩
theorem zd_M_bitsOf_15 : decode zb_M_bitsOf 15 = .ok (.iconst 1, 1) ∧ 15 + 1 = 16 := ⟨by decide +kernel, rfl⟩
theorem zd_M_bitsOf_16 : decode zb_M_bitsOf 16 = .ok (.iushr, 1) ∧ 16 + 1 = 17 := ⟨by decide +kernel, rfl⟩
theorem zd_M_bitsOf_17 : decode zb_M_bitsOf 17 = .ok (.istore_n 2, 1) ∧ 17 + 1 = 18 := ⟨by decide +kernel, rfl⟩
theorem zd_M_bitsOf_18 : decode zb_M_bitsOf 18 = .ok (.goto (-14), 3) ∧ ((18 : Nat) : Int) + (-14) = ((4 : Nat) : Int) ∧ 18 + 3 = 21 := ⟨by decide +kernel, by decide, rfl⟩
theorem zd_M_bitsOf_21 : decode zb_M_bitsOf 21 = .ok (.iload_n 1, 1) ∧ 21 + 1 = 22 := ⟨by decide +kernel, rfl⟩
theorem zd_M_bitsOf_22 : decode zb_M_bitsOf 22 = .ok (.ireturn, 1) ∧ 22 + 1 = 23 := ⟨by decide +kernel, rfl⟩
theorem zd_M_turn_0 : decode zb_M_turn 0 = .ok (.aload_n 0, 1) ∧ 0 + 1 = 1 := ⟨by decide +kernel, rfl⟩
theorem zd_M_turn_1 : decode zb_M_turn 1 = .ok (.iload_n 1, 1) ∧ 1 + 1 = 2 := ⟨by decide +kernel, rfl⟩
theorem zd_M_turn_2 : decode zb_M_turn 2 = .ok (.invokevirtual 446, 3) ∧ 2 + 3 = 5 := ⟨by decide +kernel, rfl⟩
theorem zd_M_turn_5 : decode zb_M_turn 5 = .ok (.ifCond .ne 5, 3) ∧ ((5 : Nat) : Int) + (5) = ((10 : Nat) : Int) ∧ 5 + 3 = 8 := ⟨by decide +kernel, by decide, rfl⟩
theorem zd_M_turn_8 : decode zb_M_turn 8 = .ok (.iconst (-1), 1) ∧ 8 + 1 = 9 := ⟨by decide +kernel, rfl⟩
theorem zd_M_turn_9 : decode zb_M_turn 9 = .ok (.ireturn, 1) ∧ 9 + 1 = 10 := ⟨by decide +kernel, rfl⟩
theorem zd_M_turn_10 : decode zb_M_turn 10 = .ok (.aload_n 0, 1) ∧ 10 + 1 = 11 := ⟨by decide +kernel, rfl⟩
theorem zd_M_turn_11 : decode zb_M_turn 11 = .ok (.aload_n 0, 1) ∧ 11 + 1 = 12 := ⟨by decide +kernel, rfl⟩
theorem zd_M_turn_12 : decode zb_M_turn 12 = .ok (.getfield 141, 3) ∧ 12 + 3 = 15 := ⟨by decide +kernel, rfl⟩
theorem zd_M_turn_15 : decode zb_M_turn 15 = .ok (.aload_n 0, 1) ∧ 15 + 1 = 16 := ⟨by decide +kernel, rfl⟩
theorem zd_M_turn_16 : decode zb_M_turn 16 = .ok (.getfield 144, 3) ∧ 16 + 3 = 19 := ⟨by decide +kernel, rfl⟩
theorem zd_M_turn_19 : decode zb_M_turn 19 = .ok (.invokevirtual 449, 3) ∧ 19 + 3 = 22 := ⟨by decide +kernel, rfl⟩
theorem zd_M_turn_22 : decode zb_M_turn 22 = .ok (.aload_n 0, 1) ∧ 22 + 1 = 23 := ⟨by decide +kernel, rfl⟩
theorem zd_M_turn_23 : decode zb_M_turn 23 = .ok (.dup, 1) ∧ 23 + 1 = 24 := ⟨by decide +kernel, rfl⟩
theorem zd_M_turn_24 : decode zb_M_turn 24 = .ok (.getfield 141, 3) ∧ 24 + 3 = 27 := ⟨by decide +kernel, rfl⟩
theorem zd_M_turn_27 : decode zb_M_turn 27 = .ok (.iconst 1, 1) ∧ 27 + 1 = 28 := ⟨by decide +kernel, rfl⟩
theorem zd_M_turn_28 : decode zb_M_turn 28 = .ok (.iload_n 1, 1) ∧ 28 + 1 = 29 := ⟨by decide +kernel, rfl⟩
theorem zd_M_turn_29 : decode zb_M_turn 29 = .ok (.ishl, 1) ∧ 29 + 1 = 30 := ⟨by decide +kernel, rfl⟩
theorem zd_M_turn_30 : decode zb_M_turn 30 = .ok (.ixor, 1) ∧ 30 + 1 = 31 := ⟨by decide +kernel, rfl⟩
theorem zd_M_turn_31 : decode zb_M_turn 31 = .ok (.putfield 141, 3) ∧ 31 + 3 = 34 := ⟨by decide +kernel, rfl⟩
theorem zd_M_turn_34 : decode zb_M_turn 34 = .ok (.aload_n 0, 1) ∧ 34 + 1 = 35 := ⟨by decide +kernel, rfl⟩
theorem zd_M_turn_35 : decode zb_M_turn 35 = .ok (.getfield 141, 3) ∧ 35 + 3 = 38 := ⟨by decide +kernel, rfl⟩
theorem zd_M_turn_38 : decode zb_M_turn 38 = .ok (.invokestatic 452, 3) ∧ 38 + 3 = 41 := ⟨by decide +kernel, rfl⟩
theorem zd_M_turn_41 : decode zb_M_turn 41 = .ok (.ireturn, 1) ∧ 41 + 1 = 42 := ⟨by decide +kernel, rfl⟩
theorem zd_M_turned_0 : decode zb_M_turned 0 = .ok (.aload_n 0, 1) ∧ 0 + 1 = 1 := ⟨by decide +kernel, rfl⟩
theorem zd_M_turned_1 : decode zb_M_turned 1 = .ok (.getfield 141, 3) ∧ 1 + 3 = 4 := ⟨by decide +kernel, rfl⟩
theorem zd_M_turned_4 : decode zb_M_turned 4 = .ok (.ireturn, 1) ∧ 4 + 1 = 5 := ⟨by decide +kernel, rfl⟩
theorem zd_M_states_0 : decode zb_M_states 0 = .ok (.iconst 1, 1) ∧ 0 + 1 = 1 := ⟨by decide +kernel, rfl⟩
theorem zd_M_states_1 : decode zb_M_states 1 = .ok (.aload_n 0, 1) ∧ 1 + 1 = 2 := ⟨by decide +kernel, rfl⟩
theorem zd_M_states_2 : decode zb_M_states 2 = .ok (.getfield 69, 3) ∧ 2 + 3 = 5 := ⟨by decide +kernel, rfl⟩
theorem zd_M_states_5 : decode zb_M_states 5 = .ok (.aload_n 0, 1) ∧ 5 + 1 = 6 := ⟨by decide +kernel, rfl⟩
theorem zd_M_states_6 : decode zb_M_states 6 = .ok (.getfield 51, 3) ∧ 6 + 3 = 9 := ⟨by decide +kernel, rfl⟩
theorem zd_M_states_9 : decode zb_M_states 9 = .ok (.iaload, 1) ∧ 9 + 1 = 10 := ⟨by decide +kernel, rfl⟩
theorem zd_M_states_10 : decode zb_M_states 10 = .ok (.ishl, 1) ∧ 10 + 1 = 11 := ⟨by decide +kernel, rfl⟩
theorem zd_M_states_11 : decode zb_M_states 11 = .ok (.ireturn, 1) ∧ 11 + 1 = 12 := ⟨by decide +kernel, rfl⟩
theorem zd_M_set_0 : decode zb_M_set 0 = .ok (.iload_n 1, 1) ∧ 0 + 1 = 1 := ⟨by decide +kernel, rfl⟩
theorem zd_M_set_1 : decode zb_M_set 1 = .ok (.iconst 0, 1) ∧ 1 + 1 = 2 := ⟨by decide +kernel, rfl⟩
theorem zd_M_set_2 : decode zb_M_set 2 = .ok (.aload_n 0, 1) ∧ 2 + 1 = 3 := ⟨by decide +kernel, rfl⟩
theorem zd_M_set_3 : decode zb_M_set 3 = .ok (.invokevirtual 455, 3) ∧ 3 + 3 = 6 := ⟨by decide +kernel, rfl⟩
theorem zd_M_set_6 : decode zb_M_set 6 = .ok (.iconst 1, 1) ∧ 6 + 1 = 7 := ⟨by decide +kernel, rfl⟩
theorem zd_M_set_7 : decode zb_M_set 7 = .ok (.isub, 1) ∧ 7 + 1 = 8 := ⟨by decide +kernel, rfl⟩
theorem zd_M_set_8 : decode zb_M_set 8 = .ok (.invokestatic 320, 3) ∧ 8 + 3 = 11 := ⟨by decide +kernel, rfl⟩
theorem zd_M_set_11 : decode zb_M_set 11 = .ok (.ifCond .ne 5, 3) ∧ ((11 : Nat) : Int) + (5) = ((16 : Nat) : Int) ∧ 11 + 3 = 14 := ⟨by decide +kernel, by decide, rfl⟩
theorem zd_M_set_14 : decode zb_M_set 14 = .ok (.iconst 0, 1) ∧ 14 + 1 = 15 := ⟨by decide +kernel, rfl⟩
theorem zd_M_set_15 : decode zb_M_set 15 = .ok (.ireturn, 1) ∧ 15 + 1 = 16 := ⟨by decide +kernel, rfl⟩
theorem zd_M_set_16 : decode zb_M_set 16 = .ok (.iload_n 1, 1) ∧ 16 + 1 = 17 := ⟨by decide +kernel, rfl⟩
theorem zd_M_set_17 : decode zb_M_set 17 = .ok (.aload_n 0, 1) ∧ 17 + 1 = 18 := ⟨by decide +kernel, rfl⟩
theorem zd_M_set_18 : decode zb_M_set 18 = .ok (.getfield 144, 3) ∧ 18 + 3 = 21 := ⟨by decide +kernel, rfl⟩
theorem zd_M_set_21 : decode zb_M_set 21 = .ok (.if_icmp .eq 15, 3) ∧ ((21 : Nat) : Int) + (15) = ((36 : Nat) : Int) ∧ 21 + 3 = 24 := ⟨by decide +kernel, by decide, rfl⟩
theorem zd_M_set_24 : decode zb_M_set 24 = .ok (.aload_n 0, 1) ∧ 24 + 1 = 25 := ⟨by decide +kernel, rfl⟩
theorem zd_M_set_25 : decode zb_M_set 25 = .ok (.aload_n 0, 1) ∧ 25 + 1 = 26 := ⟨by decide +kernel, rfl⟩
theorem zd_M_set_26 : decode zb_M_set 26 = .ok (.getfield 141, 3) ∧ 26 + 3 = 29 := ⟨by decide +kernel, rfl⟩
theorem zd_M_set_29 : decode zb_M_set 29 = .ok (.aload_n 0, 1) ∧ 29 + 1 = 30 := ⟨by decide +kernel, rfl⟩
theorem zd_M_set_30 : decode zb_M_set 30 = .ok (.getfield 144, 3) ∧ 30 + 3 = 33 := ⟨by decide +kernel, rfl⟩
theorem zd_M_set_33 : decode zb_M_set 33 = .ok (.invokevirtual 449, 3) ∧ 33 + 3 = 36 := ⟨by decide +kernel, rfl⟩
theorem zd_M_set_36 : decode zb_M_set 36 = .ok (.aload_n 0, 1) ∧ 36 + 1 = 37 := ⟨by decide +kernel, rfl⟩
theorem zd_M_set_37 : decode zb_M_set 37 = .ok (.iload_n 1, 1) ∧ 37 + 1 = 38 := ⟨by decide +kernel, rfl⟩
theorem zd_M_set_38 : decode zb_M_set 38 = .ok (.putfield 144, 3) ∧ 38 + 3 = 41 := ⟨by decide +kernel, rfl⟩
theorem zd_M_set_41 : decode zb_M_set 41 = .ok (.iconst 1, 1) ∧ 41 + 1 = 42 := ⟨by decide +kernel, rfl⟩
theorem zd_M_set_42 : decode zb_M_set 42 = .ok (.ireturn, 1) ∧ 42 + 1 = 43 := ⟨by decide +kernel, rfl⟩
theorem zd_M_state_0 : decode zb_M_state 0 = .ok (.aload_n 0, 1) ∧ 0 + 1 = 1 := ⟨by decide +kernel, rfl⟩
theorem zd_M_state_1 : decode zb_M_state 1 = .ok (.getfield 144, 3) ∧ 1 + 3 = 4 := ⟨by decide +kernel, rfl⟩
theorem zd_M_state_4 : decode zb_M_state 4 = .ok (.ireturn, 1) ∧ 4 + 1 = 5 := ⟨by decide +kernel, rfl⟩
theorem zd_M_light_0 : decode zb_M_light 0 = .ok (.aload_n 0, 1) ∧ 0 + 1 = 1 := ⟨by decide +kernel, rfl⟩
theorem zd_M_light_1 : decode zb_M_light 1 = .ok (.iload_n 1, 1) ∧ 1 + 1 = 2 := ⟨by decide +kernel, rfl⟩
theorem zd_M_light_2 : decode zb_M_light 2 = .ok (.iload_n 2, 1) ∧ 2 + 1 = 3 := ⟨by decide +kernel, rfl⟩
theorem zd_M_light_3 : decode zb_M_light 3 = .ok (.invokevirtual 420, 3) ∧ 3 + 3 = 6 := ⟨by decide +kernel, rfl⟩
theorem zd_M_light_6 : decode zb_M_light 6 = .ok (.ifCond .eq 12, 3) ∧ ((6 : Nat) : Int) + (12) = ((18 : Nat) : Int) ∧ 6 + 3 = 9 := ⟨by decide +kernel, by decide, rfl⟩
theorem zd_M_light_9 : decode zb_M_light 9 = .ok (.iload_n 3, 1) ∧ 9 + 1 = 10 := ⟨by decide +kernel, rfl⟩
theorem zd_M_light_10 : decode zb_M_light 10 = .ok (.iconst 0, 1) ∧ 10 + 1 = 11 := ⟨by decide +kernel, rfl⟩
theorem zd_M_light_11 : decode zb_M_light 11 = .ok (.iconst 3, 1) ∧ 11 + 1 = 12 := ⟨by decide +kernel, rfl⟩
theorem zd_M_light_12 : decode zb_M_light 12 = .ok (.invokestatic 320, 3) ∧ 12 + 3 = 15 := ⟨by decide +kernel, rfl⟩
theorem zd_M_light_15 : decode zb_M_light 15 = .ok (.ifCond .ne 5, 3) ∧ ((15 : Nat) : Int) + (5) = ((20 : Nat) : Int) ∧ 15 + 3 = 18 := ⟨by decide +kernel, by decide, rfl⟩
theorem zd_M_light_18 : decode zb_M_light 18 = .ok (.iconst (-1), 1) ∧ 18 + 1 = 19 := ⟨by decide +kernel, rfl⟩
theorem zd_M_light_19 : decode zb_M_light 19 = .ok (.ireturn, 1) ∧ 19 + 1 = 20 := ⟨by decide +kernel, rfl⟩
theorem zd_M_light_20 : decode zb_M_light 20 = .ok (.aload_n 0, 1) ∧ 20 + 1 = 21 := ⟨by decide +kernel, rfl⟩
theorem zd_M_light_21 : decode zb_M_light 21 = .ok (.aload_n 0, 1) ∧ 21 + 1 = 22 := ⟨by decide +kernel, rfl⟩
theorem zd_M_light_22 : decode zb_M_light 22 = .ok (.getfield 144, 3) ∧ 22 + 3 = 25 := ⟨by decide +kernel, rfl⟩
theorem zd_M_light_25 : decode zb_M_light 25 = .ok (.invokevirtual 458, 3) ∧ 25 + 3 = 28 := ⟨by decide +kernel, rfl⟩
theorem zd_M_light_28 : decode zb_M_light 28 = .ok (.aload_n 0, 1) ∧ 28 + 1 = 29 := ⟨by decide +kernel, rfl⟩
theorem zd_M_light_29 : decode zb_M_light 29 = .ok (.getfield 174, 3) ∧ 29 + 3 = 32 := ⟨by decide +kernel, rfl⟩
theorem zd_M_light_32 : decode zb_M_light 32 = .ok (.iconst 4, 1) ∧ 32 + 1 = 33 := ⟨by decide +kernel, rfl⟩
theorem zd_M_light_33 : decode zb_M_light 33 = .ok (.bipush 12, 2) ∧ 33 + 2 = 35 := ⟨by decide +kernel, rfl⟩
theorem zd_M_light_35 : decode zb_M_light 35 = .ok (.iload_n 2, 1) ∧ 35 + 1 = 36 := ⟨by decide +kernel, rfl⟩
theorem zd_M_light_36 : decode zb_M_light 36 = .ok (.imul, 1) ∧ 36 + 1 = 37 := ⟨by decide +kernel, rfl⟩
theorem zd_M_light_37 : decode zb_M_light 37 = .ok (.iload_n 1, 1) ∧ 37 + 1 = 38 := ⟨by decide +kernel, rfl⟩
theorem zd_M_light_38 : decode zb_M_light 38 = .ok (.iadd, 1) ∧ 38 + 1 = 39 := ⟨by decide +kernel, rfl⟩
theorem zd_M_light_39 : decode zb_M_light 39 = .ok (.imul, 1) ∧ 39 + 1 = 40 := ⟨by decide +kernel, rfl⟩
theorem zd_M_light_40 : decode zb_M_light 40 = .ok (.iload_n 3, 1) ∧ 40 + 1 = 41 := ⟨by decide +kernel, rfl⟩
theorem zd_M_light_41 : decode zb_M_light 41 = .ok (.iadd, 1) ∧ 41 + 1 = 42 := ⟨by decide +kernel, rfl⟩
theorem zd_M_light_42 : decode zb_M_light 42 = .ok (.iaload, 1) ∧ 42 + 1 = 43 := ⟨by decide +kernel, rfl⟩
theorem zd_M_light_43 : decode zb_M_light 43 = .ok (.ireturn, 1) ∧ 43 + 1 = 44 := ⟨by decide +kernel, rfl⟩
theorem zd_M_lit_0 : decode zb_M_lit 0 = .ok (.iload_n 1, 1) ∧ 0 + 1 = 1 := ⟨by decide +kernel, rfl⟩
theorem zd_M_lit_1 : decode zb_M_lit 1 = .ok (.iconst 1, 1) ∧ 1 + 1 = 2 := ⟨by decide +kernel, rfl⟩
theorem zd_M_lit_2 : decode zb_M_lit 2 = .ok (.if_icmp .eq 21, 3) ∧ ((2 : Nat) : Int) + (21) = ((23 : Nat) : Int) ∧ 2 + 3 = 5 := ⟨by decide +kernel, by decide, rfl⟩
theorem zd_M_lit_5 : decode zb_M_lit 5 = .ok (.iload_n 1, 1) ∧ 5 + 1 = 6 := ⟨by decide +kernel, rfl⟩
theorem zd_M_lit_6 : decode zb_M_lit 6 = .ok (.iconst 2, 1) ∧ 6 + 1 = 7 := ⟨by decide +kernel, rfl⟩
theorem zd_M_lit_7 : decode zb_M_lit 7 = .ok (.if_icmp .eq 16, 3) ∧ ((7 : Nat) : Int) + (16) = ((23 : Nat) : Int) ∧ 7 + 3 = 10 := ⟨by decide +kernel, by decide, rfl⟩
theorem zd_M_lit_10 : decode zb_M_lit 10 = .ok (.iload_n 1, 1) ∧ 10 + 1 = 11 := ⟨by decide +kernel, rfl⟩
theorem zd_M_lit_11 : decode zb_M_lit 11 = .ok (.iconst 4, 1) ∧ 11 + 1 = 12 := ⟨by decide +kernel, rfl⟩
theorem zd_M_lit_12 : decode zb_M_lit 12 = .ok (.if_icmp .eq 11, 3) ∧ ((12 : Nat) : Int) + (11) = ((23 : Nat) : Int) ∧ 12 + 3 = 15 := ⟨by decide +kernel, by decide, rfl⟩
theorem zd_M_lit_15 : decode zb_M_lit 15 = .ok (.iload_n 1, 1) ∧ 15 + 1 = 16 := ⟨by decide +kernel, rfl⟩
theorem zd_M_lit_16 : decode zb_M_lit 16 = .ok (.bipush 7, 2) ∧ 16 + 2 = 18 := ⟨by decide +kernel, rfl⟩
theorem zd_M_lit_18 : decode zb_M_lit 18 = .ok (.if_icmp .eq 5, 3) ∧ ((18 : Nat) : Int) + (5) = ((23 : Nat) : Int) ∧ 18 + 3 = 21 := ⟨by decide +kernel, by decide, rfl⟩
theorem zd_M_lit_21 : decode zb_M_lit 21 = .ok (.iconst (-1), 1) ∧ 21 + 1 = 22 := ⟨by decide +kernel, rfl⟩
theorem zd_M_lit_22 : decode zb_M_lit 22 = .ok (.ireturn, 1) ∧ 22 + 1 = 23 := ⟨by decide +kernel, rfl⟩
theorem zd_M_lit_23 : decode zb_M_lit 23 = .ok (.aload_n 0, 1) ∧ 23 + 1 = 24 := ⟨by decide +kernel, rfl⟩
theorem zd_M_lit_24 : decode zb_M_lit 24 = .ok (.aload_n 0, 1) ∧ 24 + 1 = 25 := ⟨by decide +kernel, rfl⟩
theorem zd_M_lit_25 : decode zb_M_lit 25 = .ok (.getfield 144, 3) ∧ 25 + 3 = 28 := ⟨by decide +kernel, rfl⟩
theorem zd_M_lit_28 : decode zb_M_lit 28 = .ok (.invokevirtual 458, 3) ∧ 28 + 3 = 31 := ⟨by decide +kernel, rfl⟩
theorem zd_M_lit_31 : decode zb_M_lit 31 = .ok (.iconst 0, 1) ∧ 31 + 1 = 32 := ⟨by decide +kernel, rfl⟩
theorem zd_M_lit_32 : decode zb_M_lit 32 = .ok (.istore_n 2, 1) ∧ 32 + 1 = 33 := ⟨by decide +kernel, rfl⟩
theorem zd_M_lit_33 : decode zb_M_lit 33 = .ok (.iconst 0, 1) ∧ 33 + 1 = 34 := ⟨by decide +kernel, rfl⟩
theorem zd_M_lit_34 : decode zb_M_lit 34 = .ok (.istore_n 3, 1) ∧ 34 + 1 = 35 := ⟨by decide +kernel, rfl⟩
theorem zd_M_lit_35 : decode zb_M_lit 35 = .ok (.iload_n 3, 1) ∧ 35 + 1 = 36 := ⟨by decide +kernel, rfl⟩
theorem zd_M_lit_36 : decode zb_M_lit 36 = .ok (.sipush 144, 3) ∧ 36 + 3 = 39 := ⟨by decide +kernel, rfl⟩
theorem zd_M_lit_39 : decode zb_M_lit 39 = .ok (.if_icmp .ge 27, 3) ∧ ((39 : Nat) : Int) + (27) = ((66 : Nat) : Int) ∧ 39 + 3 = 42 := ⟨by decide +kernel, by decide, rfl⟩
theorem zd_M_lit_42 : decode zb_M_lit 42 = .ok (.iload_n 2, 1) ∧ 42 + 1 = 43 := ⟨by decide +kernel, rfl⟩
theorem zd_M_lit_43 : decode zb_M_lit 43 = .ok (.aload_n 0, 1) ∧ 43 + 1 = 44 := ⟨by decide +kernel, rfl⟩
theorem zd_M_lit_44 : decode zb_M_lit 44 = .ok (.iload_n 3, 1) ∧ 44 + 1 = 45 := ⟨by decide +kernel, rfl⟩
theorem zd_M_lit_45 : decode zb_M_lit 45 = .ok (.invokevirtual 440, 3) ∧ 45 + 3 = 48 := ⟨by decide +kernel, rfl⟩
theorem zd_M_lit_48 : decode zb_M_lit 48 = .ok (.iload_n 1, 1) ∧ 48 + 1 = 49 := ⟨by decide +kernel, rfl⟩
theorem zd_M_lit_49 : decode zb_M_lit 49 = .ok (.iand, 1) ∧ 49 + 1 = 50 := ⟨by decide +kernel, rfl⟩
theorem zd_M_lit_50 : decode zb_M_lit 50 = .ok (.ifCond .eq 7, 3) ∧ ((50 : Nat) : Int) + (7) = ((57 : Nat) : Int) ∧ 50 + 3 = 53 := ⟨by decide +kernel, by decide, rfl⟩
theorem zd_M_lit_53 : decode zb_M_lit 53 = .ok (.iconst 1, 1) ∧ 53 + 1 = 54 := ⟨by decide +kernel, rfl⟩
theorem zd_M_lit_54 : decode zb_M_lit 54 = .ok (.goto 4, 3) ∧ ((54 : Nat) : Int) + (4) = ((58 : Nat) : Int) ∧ 54 + 3 = 57 := ⟨by decide +kernel, by decide, rfl⟩
theorem zd_M_lit_57 : decode zb_M_lit 57 = .ok (.iconst 0, 1) ∧ 57 + 1 = 58 := ⟨by decide +kernel, rfl⟩
theorem zd_M_lit_58 : decode zb_M_lit 58 = .ok (.iadd, 1) ∧ 58 + 1 = 59 := ⟨by decide +kernel, rfl⟩
theorem zd_M_lit_59 : decode zb_M_lit 59 = .ok (.istore_n 2, 1) ∧ 59 + 1 = 60 := ⟨by decide +kernel, rfl⟩
theorem zd_M_lit_60 : decode zb_M_lit 60 = .ok (.iinc 3 1, 3) ∧ 60 + 3 = 63 := ⟨by decide +kernel, rfl⟩
theorem zd_M_lit_63 : decode zb_M_lit 63 = .ok (.goto (-28), 3) ∧ ((63 : Nat) : Int) + (-28) = ((35 : Nat) : Int) ∧ 63 + 3 = 66 := ⟨by decide +kernel, by decide, rfl⟩
theorem zd_M_lit_66 : decode zb_M_lit 66 = .ok (.iload_n 2, 1) ∧ 66 + 1 = 67 := ⟨by decide +kernel, rfl⟩
theorem zd_M_lit_67 : decode zb_M_lit 67 = .ok (.ireturn, 1) ∧ 67 + 1 = 68 := ⟨by decide +kernel, rfl⟩
theorem zd_M_sees_0 : decode zb_M_sees 0 = .ok (.aload_n 0, 1) ∧ 0 + 1 = 1 := ⟨by decide +kernel, rfl⟩
theorem zd_M_sees_1 : decode zb_M_sees 1 = .ok (.iload_n 1, 1) ∧ 1 + 1 = 2 := ⟨by decide +kernel, rfl⟩
theorem zd_M_sees_2 : decode zb_M_sees 2 = .ok (.invokevirtual 409, 3) ∧ 2 + 3 = 5 := ⟨by decide +kernel, rfl⟩
theorem zd_M_sees_5 : decode zb_M_sees 5 = .ok (.ifCond .ne 5, 3) ∧ ((5 : Nat) : Int) + (5) = ((10 : Nat) : Int) ∧ 5 + 3 = 8 := ⟨by decide +kernel, by decide, rfl⟩
theorem zd_M_sees_8 : decode zb_M_sees 8 = .ok (.iconst (-1), 1) ∧ 8 + 1 = 9 := ⟨by decide +kernel, rfl⟩
theorem zd_M_sees_9 : decode zb_M_sees 9 = .ok (.ireturn, 1) ∧ 9 + 1 = 10 := ⟨by decide +kernel, rfl⟩
theorem zd_M_sees_10 : decode zb_M_sees 10 = .ok (.aload_n 0, 1) ∧ 10 + 1 = 11 := ⟨by decide +kernel, rfl⟩
theorem zd_M_sees_11 : decode zb_M_sees 11 = .ok (.aload_n 0, 1) ∧ 11 + 1 = 12 := ⟨by decide +kernel, rfl⟩
theorem zd_M_sees_12 : decode zb_M_sees 12 = .ok (.getfield 144, 3) ∧ 12 + 3 = 15 := ⟨by decide +kernel, rfl⟩
theorem zd_M_sees_15 : decode zb_M_sees 15 = .ok (.invokevirtual 458, 3) ∧ 15 + 3 = 18 := ⟨by decide +kernel, rfl⟩
theorem zd_M_sees_18 : decode zb_M_sees 18 = .ok (.aload_n 0, 1) ∧ 18 + 1 = 19 := ⟨by decide +kernel, rfl⟩
theorem zd_M_sees_19 : decode zb_M_sees 19 = .ok (.iload_n 1, 1) ∧ 19 + 1 = 20 := ⟨by decide +kernel, rfl⟩
theorem zd_M_sees_20 : decode zb_M_sees 20 = .ok (.invokevirtual 443, 3) ∧ 20 + 3 = 23 := ⟨by decide +kernel, rfl⟩
theorem zd_M_sees_23 : decode zb_M_sees 23 = .ok (.ireturn, 1) ∧ 23 + 1 = 24 := ⟨by decide +kernel, rfl⟩
theorem zd_M_holds_0 : decode zb_M_holds 0 = .ok (.iconst 0, 1) ∧ 0 + 1 = 1 := ⟨by decide +kernel, rfl⟩
theorem zd_M_holds_1 : decode zb_M_holds 1 = .ok (.istore_n 2, 1) ∧ 1 + 1 = 2 := ⟨by decide +kernel, rfl⟩
theorem zd_M_holds_2 : decode zb_M_holds 2 = .ok (.sipush 1600, 3) ∧ 2 + 3 = 5 := ⟨by decide +kernel, rfl⟩
theorem zd_M_holds_5 : decode zb_M_holds 5 = .ok (.aload_n 0, 1) ∧ 5 + 1 = 6 := ⟨by decide +kernel, rfl⟩
theorem zd_M_holds_6 : decode zb_M_holds 6 = .ok (.getfield 51, 3) ∧ 6 + 3 = 9 := ⟨by decide +kernel, rfl⟩
theorem zd_M_holds_9 : decode zb_M_holds 9 = .ok (.imul, 1) ∧ 9 + 1 = 10 := ⟨by decide +kernel, rfl⟩
theorem zd_M_holds_10 : decode zb_M_holds 10 = .ok (.aload_n 0, 1) ∧ 10 + 1 = 11 := ⟨by decide +kernel, rfl⟩
theorem zd_M_holds_11 : decode zb_M_holds 11 = .ok (.getfield 94, 3) ∧ 11 + 3 = 14 := ⟨by decide +kernel, rfl⟩
theorem zd_M_holds_14 : decode zb_M_holds 14 = .ok (.bipush 6, 2) ∧ 14 + 2 = 16 := ⟨by decide +kernel, rfl⟩
theorem zd_M_holds_16 : decode zb_M_holds 16 = .ok (.aload_n 0, 1) ∧ 16 + 1 = 17 := ⟨by decide +kernel, rfl⟩
theorem zd_M_holds_17 : decode zb_M_holds 17 = .ok (.getfield 51, 3) ∧ 17 + 3 = 20 := ⟨by decide +kernel, rfl⟩
theorem zd_M_holds_20 : decode zb_M_holds 20 = .ok (.imul, 1) ∧ 20 + 1 = 21 := ⟨by decide +kernel, rfl⟩
theorem zd_M_holds_21 : decode zb_M_holds 21 = .ok (.iload_n 1, 1) ∧ 21 + 1 = 22 := ⟨by decide +kernel, rfl⟩
theorem zd_M_holds_22 : decode zb_M_holds 22 = .ok (.iadd, 1) ∧ 22 + 1 = 23 := ⟨by decide +kernel, rfl⟩
theorem zd_M_holds_23 : decode zb_M_holds 23 = .ok (.iaload, 1) ∧ 23 + 1 = 24 := ⟨by decide +kernel, rfl⟩
theorem zd_M_holds_24 : decode zb_M_holds 24 = .ok (.iadd, 1) ∧ 24 + 1 = 25 := ⟨by decide +kernel, rfl⟩
theorem zd_M_holds_25 : decode zb_M_holds 25 = .ok (.istore_n 3, 1) ∧ 25 + 1 = 26 := ⟨by decide +kernel, rfl⟩
theorem zd_M_holds_26 : decode zb_M_holds 26 = .ok (.iload_n 3, 1) ∧ 26 + 1 = 27 := ⟨by decide +kernel, rfl⟩
theorem zd_M_holds_27 : decode zb_M_holds 27 = .ok (.sipush 1600, 3) ∧ 27 + 3 = 30 := ⟨by decide +kernel, rfl⟩
theorem zd_M_holds_30 : decode zb_M_holds 30 = .ok (.aload_n 0, 1) ∧ 30 + 1 = 31 := ⟨by decide +kernel, rfl⟩
theorem zd_M_holds_31 : decode zb_M_holds 31 = .ok (.getfield 51, 3) ∧ 31 + 3 = 34 := ⟨by decide +kernel, rfl⟩
theorem zd_M_holds_34 : decode zb_M_holds 34 = .ok (.imul, 1) ∧ 34 + 1 = 35 := ⟨by decide +kernel, rfl⟩
theorem zd_M_holds_35 : decode zb_M_holds 35 = .ok (.aload_n 0, 1) ∧ 35 + 1 = 36 := ⟨by decide +kernel, rfl⟩
theorem zd_M_holds_36 : decode zb_M_holds 36 = .ok (.getfield 97, 3) ∧ 36 + 3 = 39 := ⟨by decide +kernel, rfl⟩
theorem zd_M_holds_39 : decode zb_M_holds 39 = .ok (.bipush 6, 2) ∧ 39 + 2 = 41 := ⟨by decide +kernel, rfl⟩
theorem zd_M_holds_41 : decode zb_M_holds 41 = .ok (.aload_n 0, 1) ∧ 41 + 1 = 42 := ⟨by decide +kernel, rfl⟩
theorem zd_M_holds_42 : decode zb_M_holds 42 = .ok (.getfield 51, 3) ∧ 42 + 3 = 45 := ⟨by decide +kernel, rfl⟩
theorem zd_M_holds_45 : decode zb_M_holds 45 = .ok (.imul, 1) ∧ 45 + 1 = 46 := ⟨by decide +kernel, rfl⟩
theorem zd_M_holds_46 : decode zb_M_holds 46 = .ok (.iload_n 1, 1) ∧ 46 + 1 = 47 := ⟨by decide +kernel, rfl⟩
theorem zd_M_holds_47 : decode zb_M_holds 47 = .ok (.iadd, 1) ∧ 47 + 1 = 48 := ⟨by decide +kernel, rfl⟩
theorem zd_M_holds_48 : decode zb_M_holds 48 = .ok (.iaload, 1) ∧ 48 + 1 = 49 := ⟨by decide +kernel, rfl⟩
theorem zd_M_holds_49 : decode zb_M_holds 49 = .ok (.iadd, 1) ∧ 49 + 1 = 50 := ⟨by decide +kernel, rfl⟩
theorem zd_M_holds_50 : decode zb_M_holds 50 = .ok (.if_icmp .ge 179, 3) ∧ ((50 : Nat) : Int) + (179) = ((229 : Nat) : Int) ∧ 50 + 3 = 53 := ⟨by decide +kernel, by decide, rfl⟩
theorem zd_M_holds_53 : decode zb_M_holds 53 = .ok (.aload_n 0, 1) ∧ 53 + 1 = 54 := ⟨by decide +kernel, rfl⟩
theorem zd_M_holds_54 : decode zb_M_holds 54 = .ok (.getfield 100, 3) ∧ 54 + 3 = 57 := ⟨by decide +kernel, rfl⟩
theorem zd_M_holds_57 : decode zb_M_holds 57 = .ok (.iload_n 3, 1) ∧ 57 + 1 = 58 := ⟨by decide +kernel, rfl⟩
theorem zd_M_holds_58 : decode zb_M_holds 58 = .ok (.iaload, 1) ∧ 58 + 1 = 59 := ⟨by decide +kernel, rfl⟩
theorem zd_M_holds_59 : decode zb_M_holds 59 = .ok (.istore 4, 2) ∧ 59 + 2 = 61 := ⟨by decide +kernel, rfl⟩
theorem zd_M_holds_61 : decode zb_M_holds 61 = .ok (.iload 4, 2) ∧ 61 + 2 = 63 := ⟨by decide +kernel, rfl⟩
theorem zd_M_holds_63 : decode zb_M_holds 63 = .ok (.ifCond .eq 9, 3) ∧ ((63 : Nat) : Int) + (9) = ((72 : Nat) : Int) ∧ 63 + 3 = 66 := ⟨by decide +kernel, by decide, rfl⟩
theorem zd_M_holds_66 : decode zb_M_holds 66 = .ok (.iload 4, 2) ∧ 66 + 2 = 68 := ⟨by decide +kernel, rfl⟩
theorem zd_M_holds_68 : decode zb_M_holds 68 = .ok (.iconst 1, 1) ∧ 68 + 1 = 69 := ⟨by decide +kernel, rfl⟩
theorem zd_M_holds_69 : decode zb_M_holds 69 = .ok (.if_icmp .ne 51, 3) ∧ ((69 : Nat) : Int) + (51) = ((120 : Nat) : Int) ∧ 69 + 3 = 72 := ⟨by decide +kernel, by decide, rfl⟩
theorem zd_M_holds_72 : decode zb_M_holds 72 = .ok (.aload_n 0, 1) ∧ 72 + 1 = 73 := ⟨by decide +kernel, rfl⟩
theorem zd_M_holds_73 : decode zb_M_holds 73 = .ok (.getfield 186, 3) ∧ 73 + 3 = 76 := ⟨by decide +kernel, rfl⟩
theorem zd_M_holds_76 : decode zb_M_holds 76 = .ok (.iload_n 2, 1) ∧ 76 + 1 = 77 := ⟨by decide +kernel, rfl⟩
theorem zd_M_holds_77 : decode zb_M_holds 77 = .ok (.iload 4, 2) ∧ 77 + 2 = 79 := ⟨by decide +kernel, rfl⟩
theorem zd_M_holds_79 : decode zb_M_holds 79 = .ok (.ifCond .eq 29, 3) ∧ ((79 : Nat) : Int) + (29) = ((108 : Nat) : Int) ∧ 79 + 3 = 82 := ⟨by decide +kernel, by decide, rfl⟩
theorem zd_M_holds_82 : decode zb_M_holds 82 = .ok (.aload_n 0, 1) ∧ 82 + 1 = 83 := ⟨by decide +kernel, rfl⟩
theorem zd_M_holds_83 : decode zb_M_holds 83 = .ok (.aload_n 0, 1) ∧ 83 + 1 = 84 := ⟨by decide +kernel, rfl⟩
theorem zd_M_holds_84 : decode zb_M_holds 84 = .ok (.getfield 106, 3) ∧ 84 + 3 = 87 := ⟨by decide +kernel, rfl⟩
theorem zd_M_holds_87 : decode zb_M_holds 87 = .ok (.iload_n 3, 1) ∧ 87 + 1 = 88 := ⟨by decide +kernel, rfl⟩
theorem zd_M_holds_88 : decode zb_M_holds 88 = .ok (.iaload, 1) ∧ 88 + 1 = 89 := ⟨by decide +kernel, rfl⟩
theorem zd_M_holds_89 : decode zb_M_holds 89 = .ok (.invokevirtual 443, 3) ∧ 89 + 3 = 92 := ⟨by decide +kernel, rfl⟩
theorem zd_M_holds_92 : decode zb_M_holds 92 = .ok (.aload_n 0, 1) ∧ 92 + 1 = 93 := ⟨by decide +kernel, rfl⟩
theorem zd_M_holds_93 : decode zb_M_holds 93 = .ok (.getfield 103, 3) ∧ 93 + 3 = 96 := ⟨by decide +kernel, rfl⟩
theorem zd_M_holds_96 : decode zb_M_holds 96 = .ok (.iload_n 3, 1) ∧ 96 + 1 = 97 := ⟨by decide +kernel, rfl⟩
theorem zd_M_holds_97 : decode zb_M_holds 97 = .ok (.iaload, 1) ∧ 97 + 1 = 98 := ⟨by decide +kernel, rfl⟩
theorem zd_M_holds_98 : decode zb_M_holds 98 = .ok (.iand, 1) ∧ 98 + 1 = 99 := ⟨by decide +kernel, rfl⟩
theorem zd_M_holds_99 : decode zb_M_holds 99 = .ok (.aload_n 0, 1) ∧ 99 + 1 = 100 := ⟨by decide +kernel, rfl⟩
theorem zd_M_holds_100 : decode zb_M_holds 100 = .ok (.getfield 103, 3) ∧ 100 + 3 = 103 := ⟨by decide +kernel, rfl⟩
theorem zd_M_holds_103 : decode zb_M_holds 103 = .ok (.iload_n 3, 1) ∧ 103 + 1 = 104 := ⟨by decide +kernel, rfl⟩
theorem zd_M_holds_104 : decode zb_M_holds 104 = .ok (.iaload, 1) ∧ 104 + 1 = 105 := ⟨by decide +kernel, rfl⟩
theorem zd_M_holds_105 : decode zb_M_holds 105 = .ok (.if_icmp .ne 7, 3) ∧ ((105 : Nat) : Int) + (7) = ((112 : Nat) : Int) ∧ 105 + 3 = 108 := ⟨by decide +kernel, by decide, rfl⟩
theorem zd_M_holds_108 : decode zb_M_holds 108 = .ok (.iconst 1, 1) ∧ 108 + 1 = 109 := ⟨by decide +kernel, rfl⟩
theorem zd_M_holds_109 : decode zb_M_holds 109 = .ok (.goto 4, 3) ∧ ((109 : Nat) : Int) + (4) = ((113 : Nat) : Int) ∧ 109 + 3 = 112 := ⟨by decide +kernel, by decide, rfl⟩
theorem zd_M_holds_112 : decode zb_M_holds 112 = .ok (.iconst 0, 1) ∧ 112 + 1 = 113 := ⟨by decide +kernel, rfl⟩
theorem zd_M_holds_113 : decode zb_M_holds 113 = .ok (.bastore, 1) ∧ 113 + 1 = 114 := ⟨by decide +kernel, rfl⟩
theorem zd_M_holds_114 : decode zb_M_holds 114 = .ok (.iinc 2 1, 3) ∧ 114 + 3 = 117 := ⟨by decide +kernel, rfl⟩
theorem zd_M_holds_117 : decode zb_M_holds 117 = .ok (.goto 106, 3) ∧ ((117 : Nat) : Int) + (106) = ((223 : Nat) : Int) ∧ 117 + 3 = 120 := ⟨by decide +kernel, by decide, rfl⟩
theorem zd_M_holds_120 : decode zb_M_holds 120 = .ok (.iload 4, 2) ∧ 120 + 2 = 122 := ⟨by decide +kernel, rfl⟩
theorem zd_M_holds_122 : decode zb_M_holds 122 = .ok (.iconst 4, 1) ∧ 122 + 1 = 123 := ⟨by decide +kernel, rfl⟩
theorem zd_M_holds_123 : decode zb_M_holds 123 = .ok (.if_icmp .ne 30, 3) ∧ ((123 : Nat) : Int) + (30) = ((153 : Nat) : Int) ∧ 123 + 3 = 126 := ⟨by decide +kernel, by decide, rfl⟩
theorem zd_M_holds_126 : decode zb_M_holds 126 = .ok (.aload_n 0, 1) ∧ 126 + 1 = 127 := ⟨by decide +kernel, rfl⟩
theorem zd_M_holds_127 : decode zb_M_holds 127 = .ok (.getfield 186, 3) ∧ 127 + 3 = 130 := ⟨by decide +kernel, rfl⟩
theorem zd_M_holds_130 : decode zb_M_holds 130 = .ok (.iload_n 2, 1) ∧ 130 + 1 = 131 := ⟨by decide +kernel, rfl⟩
theorem zd_M_holds_131 : decode zb_M_holds 131 = .ok (.iconst 1, 1) ∧ 131 + 1 = 132 := ⟨by decide +kernel, rfl⟩
theorem zd_M_holds_132 : decode zb_M_holds 132 = .ok (.isub, 1) ∧ 132 + 1 = 133 := ⟨by decide +kernel, rfl⟩
theorem zd_M_holds_133 : decode zb_M_holds 133 = .ok (.aload_n 0, 1) ∧ 133 + 1 = 134 := ⟨by decide +kernel, rfl⟩
theorem zd_M_holds_134 : decode zb_M_holds 134 = .ok (.getfield 186, 3) ∧ 134 + 3 = 137 := ⟨by decide +kernel, rfl⟩
theorem zd_M_holds_137 : decode zb_M_holds 137 = .ok (.iload_n 2, 1) ∧ 137 + 1 = 138 := ⟨by decide +kernel, rfl⟩
theorem zd_M_holds_138 : decode zb_M_holds 138 = .ok (.iconst 1, 1) ∧ 138 + 1 = 139 := ⟨by decide +kernel, rfl⟩
theorem zd_M_holds_139 : decode zb_M_holds 139 = .ok (.isub, 1) ∧ 139 + 1 = 140 := ⟨by decide +kernel, rfl⟩
theorem zd_M_holds_140 : decode zb_M_holds 140 = .ok (.baload, 1) ∧ 140 + 1 = 141 := ⟨by decide +kernel, rfl⟩
theorem zd_M_holds_141 : decode zb_M_holds 141 = .ok (.ifCond .ne 7, 3) ∧ ((141 : Nat) : Int) + (7) = ((148 : Nat) : Int) ∧ 141 + 3 = 144 := ⟨by decide +kernel, by decide, rfl⟩
theorem zd_M_holds_144 : decode zb_M_holds 144 = .ok (.iconst 1, 1) ∧ 144 + 1 = 145 := ⟨by decide +kernel, rfl⟩
theorem zd_M_holds_145 : decode zb_M_holds 145 = .ok (.goto 4, 3) ∧ ((145 : Nat) : Int) + (4) = ((149 : Nat) : Int) ∧ 145 + 3 = 148 := ⟨by decide +kernel, by decide, rfl⟩
theorem zd_M_holds_148 : decode zb_M_holds 148 = .ok (.iconst 0, 1) ∧ 148 + 1 = 149 := ⟨by decide +kernel, rfl⟩
theorem zd_M_holds_149 : decode zb_M_holds 149 = .ok (.bastore, 1) ∧ 149 + 1 = 150 := ⟨by decide +kernel, rfl⟩
theorem zd_M_holds_150 : decode zb_M_holds 150 = .ok (.goto 73, 3) ∧ ((150 : Nat) : Int) + (73) = ((223 : Nat) : Int) ∧ 150 + 3 = 153 := ⟨by decide +kernel, by decide, rfl⟩
theorem zd_M_holds_153 : decode zb_M_holds 153 = .ok (.iinc 2 (-1), 3) ∧ 153 + 3 = 156 := ⟨by decide +kernel, rfl⟩
theorem zd_M_holds_156 : decode zb_M_holds 156 = .ok (.aload_n 0, 1) ∧ 156 + 1 = 157 := ⟨by decide +kernel, rfl⟩
theorem zd_M_holds_157 : decode zb_M_holds 157 = .ok (.getfield 186, 3) ∧ 157 + 3 = 160 := ⟨by decide +kernel, rfl⟩
theorem zd_M_holds_160 : decode zb_M_holds 160 = .ok (.iload_n 2, 1) ∧ 160 + 1 = 161 := ⟨by decide +kernel, rfl⟩
theorem zd_M_holds_161 : decode zb_M_holds 161 = .ok (.iconst 1, 1) ∧ 161 + 1 = 162 := ⟨by decide +kernel, rfl⟩
theorem zd_M_holds_162 : decode zb_M_holds 162 = .ok (.isub, 1) ∧ 162 + 1 = 163 := ⟨by decide +kernel, rfl⟩
theorem zd_M_holds_163 : decode zb_M_holds 163 = .ok (.iload 4, 2) ∧ 163 + 2 = 165 := ⟨by decide +kernel, rfl⟩
theorem zd_M_holds_165 : decode zb_M_holds 165 = .ok (.iconst 2, 1) ∧ 165 + 1 = 166 := ⟨by decide +kernel, rfl⟩
theorem zd_M_holds_166 : decode zb_M_holds 166 = .ok (.if_icmp .ne 31, 3) ∧ ((166 : Nat) : Int) + (31) = ((197 : Nat) : Int) ∧ 166 + 3 = 169 := ⟨by decide +kernel, by decide, rfl⟩
theorem zd_M_holds_169 : decode zb_M_holds 169 = .ok (.aload_n 0, 1) ∧ 169 + 1 = 170 := ⟨by decide +kernel, rfl⟩
theorem zd_M_holds_170 : decode zb_M_holds 170 = .ok (.getfield 186, 3) ∧ 170 + 3 = 173 := ⟨by decide +kernel, rfl⟩
theorem zd_M_holds_173 : decode zb_M_holds 173 = .ok (.iload_n 2, 1) ∧ 173 + 1 = 174 := ⟨by decide +kernel, rfl⟩
theorem zd_M_holds_174 : decode zb_M_holds 174 = .ok (.iconst 1, 1) ∧ 174 + 1 = 175 := ⟨by decide +kernel, rfl⟩
theorem zd_M_holds_175 : decode zb_M_holds 175 = .ok (.isub, 1) ∧ 175 + 1 = 176 := ⟨by decide +kernel, rfl⟩
theorem zd_M_holds_176 : decode zb_M_holds 176 = .ok (.baload, 1) ∧ 176 + 1 = 177 := ⟨by decide +kernel, rfl⟩
theorem zd_M_holds_177 : decode zb_M_holds 177 = .ok (.ifCond .eq 16, 3) ∧ ((177 : Nat) : Int) + (16) = ((193 : Nat) : Int) ∧ 177 + 3 = 180 := ⟨by decide +kernel, by decide, rfl⟩
theorem zd_M_holds_180 : decode zb_M_holds 180 = .ok (.aload_n 0, 1) ∧ 180 + 1 = 181 := ⟨by decide +kernel, rfl⟩
theorem zd_M_holds_181 : decode zb_M_holds 181 = .ok (.getfield 186, 3) ∧ 181 + 3 = 184 := ⟨by decide +kernel, rfl⟩
theorem zd_M_holds_184 : decode zb_M_holds 184 = .ok (.iload_n 2, 1) ∧ 184 + 1 = 185 := ⟨by decide +kernel, rfl⟩
theorem zd_M_holds_185 : decode zb_M_holds 185 = .ok (.baload, 1) ∧ 185 + 1 = 186 := ⟨by decide +kernel, rfl⟩
theorem zd_M_holds_186 : decode zb_M_holds 186 = .ok (.ifCond .eq 7, 3) ∧ ((186 : Nat) : Int) + (7) = ((193 : Nat) : Int) ∧ 186 + 3 = 189 := ⟨by decide +kernel, by decide, rfl⟩
theorem zd_M_holds_189 : decode zb_M_holds 189 = .ok (.iconst 1, 1) ∧ 189 + 1 = 190 := ⟨by decide +kernel, rfl⟩
theorem zd_M_holds_190 : decode zb_M_holds 190 = .ok (.goto 32, 3) ∧ ((190 : Nat) : Int) + (32) = ((222 : Nat) : Int) ∧ 190 + 3 = 193 := ⟨by decide +kernel, by decide, rfl⟩
theorem zd_M_holds_193 : decode zb_M_holds 193 = .ok (.iconst 0, 1) ∧ 193 + 1 = 194 := ⟨by decide +kernel, rfl⟩
theorem zd_M_holds_194 : decode zb_M_holds 194 = .ok (.goto 28, 3) ∧ ((194 : Nat) : Int) + (28) = ((222 : Nat) : Int) ∧ 194 + 3 = 197 := ⟨by decide +kernel, by decide, rfl⟩
theorem zd_M_holds_197 : decode zb_M_holds 197 = .ok (.aload_n 0, 1) ∧ 197 + 1 = 198 := ⟨by decide +kernel, rfl⟩
theorem zd_M_holds_198 : decode zb_M_holds 198 = .ok (.getfield 186, 3) ∧ 198 + 3 = 201 := ⟨by decide +kernel, rfl⟩
theorem zd_M_holds_201 : decode zb_M_holds 201 = .ok (.iload_n 2, 1) ∧ 201 + 1 = 202 := ⟨by decide +kernel, rfl⟩
theorem zd_M_holds_202 : decode zb_M_holds 202 = .ok (.iconst 1, 1) ∧ 202 + 1 = 203 := ⟨by decide +kernel, rfl⟩
theorem zd_M_holds_203 : decode zb_M_holds 203 = .ok (.isub, 1) ∧ 203 + 1 = 204 := ⟨by decide +kernel, rfl⟩
theorem zd_M_holds_204 : decode zb_M_holds 204 = .ok (.baload, 1) ∧ 204 + 1 = 205 := ⟨by decide +kernel, rfl⟩
theorem zd_M_holds_205 : decode zb_M_holds 205 = .ok (.ifCond .ne 12, 3) ∧ ((205 : Nat) : Int) + (12) = ((217 : Nat) : Int) ∧ 205 + 3 = 208 := ⟨by decide +kernel, by decide, rfl⟩
theorem zd_M_holds_208 : decode zb_M_holds 208 = .ok (.aload_n 0, 1) ∧ 208 + 1 = 209 := ⟨by decide +kernel, rfl⟩
theorem zd_M_holds_209 : decode zb_M_holds 209 = .ok (.getfield 186, 3) ∧ 209 + 3 = 212 := ⟨by decide +kernel, rfl⟩
theorem zd_M_holds_212 : decode zb_M_holds 212 = .ok (.iload_n 2, 1) ∧ 212 + 1 = 213 := ⟨by decide +kernel, rfl⟩
theorem zd_M_holds_213 : decode zb_M_holds 213 = .ok (.baload, 1) ∧ 213 + 1 = 214 := ⟨by decide +kernel, rfl⟩
theorem zd_M_holds_214 : decode zb_M_holds 214 = .ok (.ifCond .eq 7, 3) ∧ ((214 : Nat) : Int) + (7) = ((221 : Nat) : Int) ∧ 214 + 3 = 217 := ⟨by decide +kernel, by decide, rfl⟩
theorem zd_M_holds_217 : decode zb_M_holds 217 = .ok (.iconst 1, 1) ∧ 217 + 1 = 218 := ⟨by decide +kernel, rfl⟩
theorem zd_M_holds_218 : decode zb_M_holds 218 = .ok (.goto 4, 3) ∧ ((218 : Nat) : Int) + (4) = ((222 : Nat) : Int) ∧ 218 + 3 = 221 := ⟨by decide +kernel, by decide, rfl⟩
theorem zd_M_holds_221 : decode zb_M_holds 221 = .ok (.iconst 0, 1) ∧ 221 + 1 = 222 := ⟨by decide +kernel, rfl⟩
theorem zd_M_holds_222 : decode zb_M_holds 222 = .ok (.bastore, 1) ∧ 222 + 1 = 223 := ⟨by decide +kernel, rfl⟩
theorem zd_M_holds_223 : decode zb_M_holds 223 = .ok (.iinc 3 1, 3) ∧ 223 + 3 = 226 := ⟨by decide +kernel, rfl⟩
theorem zd_M_holds_226 : decode zb_M_holds 226 = .ok (.goto (-200), 3) ∧ ((226 : Nat) : Int) + (-200) = ((26 : Nat) : Int) ∧ 226 + 3 = 229 := ⟨by decide +kernel, by decide, rfl⟩
theorem zd_M_holds_229 : decode zb_M_holds 229 = .ok (.aload_n 0, 1) ∧ 229 + 1 = 230 := ⟨by decide +kernel, rfl⟩
theorem zd_M_holds_230 : decode zb_M_holds 230 = .ok (.getfield 186, 3) ∧ 230 + 3 = 233 := ⟨by decide +kernel, rfl⟩
theorem zd_M_holds_233 : decode zb_M_holds 233 = .ok (.iconst 0, 1) ∧ 233 + 1 = 234 := ⟨by decide +kernel, rfl⟩
theorem zd_M_holds_234 : decode zb_M_holds 234 = .ok (.baload, 1) ∧ 234 + 1 = 235 := ⟨by decide +kernel, rfl⟩
theorem zd_M_holds_235 : decode zb_M_holds 235 = .ok (.ireturn, 1) ∧ 235 + 1 = 236 := ⟨by decide +kernel, rfl⟩
theorem zd_M_stepped_0 : decode zb_M_stepped 0 = .ok (.aload_n 0, 1) ∧ 0 + 1 = 1 := ⟨by decide +kernel, rfl⟩
theorem zd_M_stepped_1 : decode zb_M_stepped 1 = .ok (.iload_n 1, 1) ∧ 1 + 1 = 2 := ⟨by decide +kernel, rfl⟩
theorem zd_M_stepped_2 : decode zb_M_stepped 2 = .ok (.invokevirtual 458, 3) ∧ 2 + 3 = 5 := ⟨by decide +kernel, rfl⟩
theorem zd_M_stepped_5 : decode zb_M_stepped 5 = .ok (.iconst (-1), 1) ∧ 5 + 1 = 6 := ⟨by decide +kernel, rfl⟩
theorem zd_M_stepped_6 : decode zb_M_stepped 6 = .ok (.istore_n 2, 1) ∧ 6 + 1 = 7 := ⟨by decide +kernel, rfl⟩
theorem zd_M_stepped_7 : decode zb_M_stepped 7 = .ok (.aload_n 0, 1) ∧ 7 + 1 = 8 := ⟨by decide +kernel, rfl⟩
theorem zd_M_stepped_8 : decode zb_M_stepped 8 = .ok (.getfield 150, 3) ∧ 8 + 3 = 11 := ⟨by decide +kernel, rfl⟩
theorem zd_M_stepped_11 : decode zb_M_stepped 11 = .ok (.iconst (-1), 1) ∧ 11 + 1 = 12 := ⟨by decide +kernel, rfl⟩
theorem zd_M_stepped_12 : decode zb_M_stepped 12 = .ok (.if_icmp .eq 35, 3) ∧ ((12 : Nat) : Int) + (35) = ((47 : Nat) : Int) ∧ 12 + 3 = 15 := ⟨by decide +kernel, by decide, rfl⟩
theorem zd_M_stepped_15 : decode zb_M_stepped 15 = .ok (.aload_n 0, 1) ∧ 15 + 1 = 16 := ⟨by decide +kernel, rfl⟩
theorem zd_M_stepped_16 : decode zb_M_stepped 16 = .ok (.getfield 75, 3) ∧ 16 + 3 = 19 := ⟨by decide +kernel, rfl⟩
theorem zd_M_stepped_19 : decode zb_M_stepped 19 = .ok (.sipush 144, 3) ∧ 19 + 3 = 22 := ⟨by decide +kernel, rfl⟩
theorem zd_M_stepped_22 : decode zb_M_stepped 22 = .ok (.aload_n 0, 1) ∧ 22 + 1 = 23 := ⟨by decide +kernel, rfl⟩
theorem zd_M_stepped_23 : decode zb_M_stepped 23 = .ok (.getfield 51, 3) ∧ 23 + 3 = 26 := ⟨by decide +kernel, rfl⟩
theorem zd_M_stepped_26 : decode zb_M_stepped 26 = .ok (.imul, 1) ∧ 26 + 1 = 27 := ⟨by decide +kernel, rfl⟩
theorem zd_M_stepped_27 : decode zb_M_stepped 27 = .ok (.aload_n 0, 1) ∧ 27 + 1 = 28 := ⟨by decide +kernel, rfl⟩
theorem zd_M_stepped_28 : decode zb_M_stepped 28 = .ok (.getfield 150, 3) ∧ 28 + 3 = 31 := ⟨by decide +kernel, rfl⟩
theorem zd_M_stepped_31 : decode zb_M_stepped 31 = .ok (.iadd, 1) ∧ 31 + 1 = 32 := ⟨by decide +kernel, rfl⟩
theorem zd_M_stepped_32 : decode zb_M_stepped 32 = .ok (.iaload, 1) ∧ 32 + 1 = 33 := ⟨by decide +kernel, rfl⟩
theorem zd_M_stepped_33 : decode zb_M_stepped 33 = .ok (.bipush 8, 2) ∧ 33 + 2 = 35 := ⟨by decide +kernel, rfl⟩
theorem zd_M_stepped_35 : decode zb_M_stepped 35 = .ok (.if_icmp .lt 12, 3) ∧ ((35 : Nat) : Int) + (12) = ((47 : Nat) : Int) ∧ 35 + 3 = 38 := ⟨by decide +kernel, by decide, rfl⟩
theorem zd_M_stepped_38 : decode zb_M_stepped 38 = .ok (.aload_n 0, 1) ∧ 38 + 1 = 39 := ⟨by decide +kernel, rfl⟩
theorem zd_M_stepped_39 : decode zb_M_stepped 39 = .ok (.aload_n 0, 1) ∧ 39 + 1 = 40 := ⟨by decide +kernel, rfl⟩
theorem zd_M_stepped_40 : decode zb_M_stepped 40 = .ok (.getfield 150, 3) ∧ 40 + 3 = 43 := ⟨by decide +kernel, rfl⟩
theorem zd_M_stepped_43 : decode zb_M_stepped 43 = .ok (.invokevirtual 417, 3) ∧ 43 + 3 = 46 := ⟨by decide +kernel, rfl⟩
theorem zd_M_stepped_46 : decode zb_M_stepped 46 = .ok (.istore_n 2, 1) ∧ 46 + 1 = 47 := ⟨by decide +kernel, rfl⟩
theorem zd_M_stepped_47 : decode zb_M_stepped 47 = .ok (.iconst 0, 1) ∧ 47 + 1 = 48 := ⟨by decide +kernel, rfl⟩
theorem zd_M_stepped_48 : decode zb_M_stepped 48 = .ok (.istore_n 3, 1) ∧ 48 + 1 = 49 := ⟨by decide +kernel, rfl⟩
theorem zd_M_stepped_49 : decode zb_M_stepped 49 = .ok (.iconst 0, 1) ∧ 49 + 1 = 50 := ⟨by decide +kernel, rfl⟩
theorem zd_M_stepped_50 : decode zb_M_stepped 50 = .ok (.istore 4, 2) ∧ 50 + 2 = 52 := ⟨by decide +kernel, rfl⟩
theorem zd_M_stepped_52 : decode zb_M_stepped 52 = .ok (.iload 4, 2) ∧ 52 + 2 = 54 := ⟨by decide +kernel, rfl⟩
theorem zd_M_stepped_54 : decode zb_M_stepped 54 = .ok (.aload_n 0, 1) ∧ 54 + 1 = 55 := ⟨by decide +kernel, rfl⟩
theorem zd_M_stepped_55 : decode zb_M_stepped 55 = .ok (.getfield 69, 3) ∧ 55 + 3 = 58 := ⟨by decide +kernel, rfl⟩
theorem zd_M_stepped_58 : decode zb_M_stepped 58 = .ok (.aload_n 0, 1) ∧ 58 + 1 = 59 := ⟨by decide +kernel, rfl⟩
theorem zd_M_stepped_59 : decode zb_M_stepped 59 = .ok (.getfield 51, 3) ∧ 59 + 3 = 62 := ⟨by decide +kernel, rfl⟩
theorem zd_M_stepped_62 : decode zb_M_stepped 62 = .ok (.iaload, 1) ∧ 62 + 1 = 63 := ⟨by decide +kernel, rfl⟩
theorem zd_M_stepped_63 : decode zb_M_stepped 63 = .ok (.if_icmp .ge 57, 3) ∧ ((63 : Nat) : Int) + (57) = ((120 : Nat) : Int) ∧ 63 + 3 = 66 := ⟨by decide +kernel, by decide, rfl⟩
theorem zd_M_stepped_66 : decode zb_M_stepped 66 = .ok (.iload 4, 2) ∧ 66 + 2 = 68 := ⟨by decide +kernel, rfl⟩
theorem zd_M_stepped_68 : decode zb_M_stepped 68 = .ok (.iload_n 2, 1) ∧ 68 + 1 = 69 := ⟨by decide +kernel, rfl⟩
theorem zd_M_stepped_69 : decode zb_M_stepped 69 = .ok (.if_icmp .ne 21, 3) ∧ ((69 : Nat) : Int) + (21) = ((90 : Nat) : Int) ∧ 69 + 3 = 72 := ⟨by decide +kernel, by decide, rfl⟩
theorem zd_M_stepped_72 : decode zb_M_stepped 72 = .ok (.iload_n 1, 1) ∧ 72 + 1 = 73 := ⟨by decide +kernel, rfl⟩
theorem zd_M_stepped_73 : decode zb_M_stepped 73 = .ok (.iload 4, 2) ∧ 73 + 2 = 75 := ⟨by decide +kernel, rfl⟩
theorem zd_M_stepped_75 : decode zb_M_stepped 75 = .ok (.ishr, 1) ∧ 75 + 1 = 76 := ⟨by decide +kernel, rfl⟩
theorem zd_M_stepped_76 : decode zb_M_stepped 76 = .ok (.iconst 1, 1) ∧ 76 + 1 = 77 := ⟨by decide +kernel, rfl⟩
theorem zd_M_stepped_77 : decode zb_M_stepped 77 = .ok (.iand, 1) ∧ 77 + 1 = 78 := ⟨by decide +kernel, rfl⟩
theorem zd_M_stepped_78 : decode zb_M_stepped 78 = .ok (.iconst 1, 1) ∧ 78 + 1 = 79 := ⟨by decide +kernel, rfl⟩
theorem zd_M_stepped_79 : decode zb_M_stepped 79 = .ok (.if_icmp .ne 7, 3) ∧ ((79 : Nat) : Int) + (7) = ((86 : Nat) : Int) ∧ 79 + 3 = 82 := ⟨by decide +kernel, by decide, rfl⟩
theorem zd_M_stepped_82 : decode zb_M_stepped 82 = .ok (.iconst 1, 1) ∧ 82 + 1 = 83 := ⟨by decide +kernel, rfl⟩
theorem zd_M_stepped_83 : decode zb_M_stepped 83 = .ok (.goto 13, 3) ∧ ((83 : Nat) : Int) + (13) = ((96 : Nat) : Int) ∧ 83 + 3 = 86 := ⟨by decide +kernel, by decide, rfl⟩
theorem zd_M_stepped_86 : decode zb_M_stepped 86 = .ok (.iconst 0, 1) ∧ 86 + 1 = 87 := ⟨by decide +kernel, rfl⟩
theorem zd_M_stepped_87 : decode zb_M_stepped 87 = .ok (.goto 9, 3) ∧ ((87 : Nat) : Int) + (9) = ((96 : Nat) : Int) ∧ 87 + 3 = 90 := ⟨by decide +kernel, by decide, rfl⟩
theorem zd_M_stepped_90 : decode zb_M_stepped 90 = .ok (.aload_n 0, 1) ∧ 90 + 1 = 91 := ⟨by decide +kernel, rfl⟩
theorem zd_M_stepped_91 : decode zb_M_stepped 91 = .ok (.iload 4, 2) ∧ 91 + 2 = 93 := ⟨by decide +kernel, rfl⟩
theorem zd_M_stepped_93 : decode zb_M_stepped 93 = .ok (.invokevirtual 461, 3) ∧ 93 + 3 = 96 := ⟨by decide +kernel, rfl⟩
theorem zd_M_stepped_96 : decode zb_M_stepped 96 = .ok (.istore 5, 2) ∧ 96 + 2 = 98 := ⟨by decide +kernel, rfl⟩
theorem zd_M_stepped_98 : decode zb_M_stepped 98 = .ok (.iload_n 3, 1) ∧ 98 + 1 = 99 := ⟨by decide +kernel, rfl⟩
theorem zd_M_stepped_99 : decode zb_M_stepped 99 = .ok (.iload 5, 2) ∧ 99 + 2 = 101 := ⟨by decide +kernel, rfl⟩
theorem zd_M_stepped_101 : decode zb_M_stepped 101 = .ok (.ifCond .eq 10, 3) ∧ ((101 : Nat) : Int) + (10) = ((111 : Nat) : Int) ∧ 101 + 3 = 104 := ⟨by decide +kernel, by decide, rfl⟩
theorem zd_M_stepped_104 : decode zb_M_stepped 104 = .ok (.iconst 1, 1) ∧ 104 + 1 = 105 := ⟨by decide +kernel, rfl⟩
theorem zd_M_stepped_105 : decode zb_M_stepped 105 = .ok (.iload 4, 2) ∧ 105 + 2 = 107 := ⟨by decide +kernel, rfl⟩
theorem zd_M_stepped_107 : decode zb_M_stepped 107 = .ok (.ishl, 1) ∧ 107 + 1 = 108 := ⟨by decide +kernel, rfl⟩
theorem zd_M_stepped_108 : decode zb_M_stepped 108 = .ok (.goto 4, 3) ∧ ((108 : Nat) : Int) + (4) = ((112 : Nat) : Int) ∧ 108 + 3 = 111 := ⟨by decide +kernel, by decide, rfl⟩
theorem zd_M_stepped_111 : decode zb_M_stepped 111 = .ok (.iconst 0, 1) ∧ 111 + 1 = 112 := ⟨by decide +kernel, rfl⟩
theorem zd_M_stepped_112 : decode zb_M_stepped 112 = .ok (.ior, 1) ∧ 112 + 1 = 113 := ⟨by decide +kernel, rfl⟩
theorem zd_M_stepped_113 : decode zb_M_stepped 113 = .ok (.istore_n 3, 1) ∧ 113 + 1 = 114 := ⟨by decide +kernel, rfl⟩
theorem zd_M_stepped_114 : decode zb_M_stepped 114 = .ok (.iinc 4 1, 3) ∧ 114 + 3 = 117 := ⟨by decide +kernel, rfl⟩
theorem zd_M_stepped_117 : decode zb_M_stepped 117 = .ok (.goto (-65), 3) ∧ ((117 : Nat) : Int) + (-65) = ((52 : Nat) : Int) ∧ 117 + 3 = 120 := ⟨by decide +kernel, by decide, rfl⟩
theorem zd_M_stepped_120 : decode zb_M_stepped 120 = .ok (.iload_n 3, 1) ∧ 120 + 1 = 121 := ⟨by decide +kernel, rfl⟩
theorem zd_M_stepped_121 : decode zb_M_stepped 121 = .ok (.ireturn, 1) ∧ 121 + 1 = 122 := ⟨by decide +kernel, rfl⟩
theorem zd_M_step_0 : decode zb_M_step 0 = .ok (.iload_n 1, 1) ∧ 0 + 1 = 1 := ⟨by decide +kernel, rfl⟩
theorem zd_M_step_1 : decode zb_M_step 1 = .ok (.iconst 0, 1) ∧ 1 + 1 = 2 := ⟨by decide +kernel, rfl⟩
theorem zd_M_step_2 : decode zb_M_step 2 = .ok (.sipush 1000, 3) ∧ 2 + 3 = 5 := ⟨by decide +kernel, rfl⟩
theorem zd_M_step_5 : decode zb_M_step 5 = .ok (.invokestatic 320, 3) ∧ 5 + 3 = 8 := ⟨by decide +kernel, rfl⟩
theorem zd_M_step_8 : decode zb_M_step 8 = .ok (.ifCond .ne 5, 3) ∧ ((8 : Nat) : Int) + (5) = ((13 : Nat) : Int) ∧ 8 + 3 = 11 := ⟨by decide +kernel, by decide, rfl⟩
theorem zd_M_step_11 : decode zb_M_step 11 = .ok (.iconst (-1), 1) ∧ 11 + 1 = 12 := ⟨by decide +kernel, rfl⟩
theorem zd_M_step_12 : decode zb_M_step 12 = .ok (.ireturn, 1) ∧ 12 + 1 = 13 := ⟨by decide +kernel, rfl⟩
theorem zd_M_step_13 : decode zb_M_step 13 = .ok (.aload_n 0, 1) ∧ 13 + 1 = 14 := ⟨by decide +kernel, rfl⟩
theorem zd_M_step_14 : decode zb_M_step 14 = .ok (.getfield 144, 3) ∧ 14 + 3 = 17 := ⟨by decide +kernel, rfl⟩
theorem zd_M_step_17 : decode zb_M_step 17 = .ok (.istore_n 2, 1) ∧ 17 + 1 = 18 := ⟨by decide +kernel, rfl⟩
theorem zd_M_step_18 : decode zb_M_step 18 = .ok (.iconst 0, 1) ∧ 18 + 1 = 19 := ⟨by decide +kernel, rfl⟩
theorem zd_M_step_19 : decode zb_M_step 19 = .ok (.istore_n 3, 1) ∧ 19 + 1 = 20 := ⟨by decide +kernel, rfl⟩
theorem zd_M_step_20 : decode zb_M_step 20 = .ok (.iload_n 3, 1) ∧ 20 + 1 = 21 := ⟨by decide +kernel, rfl⟩
theorem zd_M_step_21 : decode zb_M_step 21 = .ok (.iload_n 1, 1) ∧ 21 + 1 = 22 := ⟨by decide +kernel, rfl⟩
theorem zd_M_step_22 : decode zb_M_step 22 = .ok (.if_icmp .ge 21, 3) ∧ ((22 : Nat) : Int) + (21) = ((43 : Nat) : Int) ∧ 22 + 3 = 25 := ⟨by decide +kernel, by decide, rfl⟩
theorem zd_M_step_25 : decode zb_M_step 25 = .ok (.aload_n 0, 1) ∧ 25 + 1 = 26 := ⟨by decide +kernel, rfl⟩
theorem zd_M_step_26 : decode zb_M_step 26 = .ok (.aload_n 0, 1) ∧ 26 + 1 = 27 := ⟨by decide +kernel, rfl⟩
theorem zd_M_step_27 : decode zb_M_step 27 = .ok (.aload_n 0, 1) ∧ 27 + 1 = 28 := ⟨by decide +kernel, rfl⟩
theorem zd_M_step_28 : decode zb_M_step 28 = .ok (.getfield 144, 3) ∧ 28 + 3 = 31 := ⟨by decide +kernel, rfl⟩
theorem zd_M_step_31 : decode zb_M_step 31 = .ok (.invokevirtual 464, 3) ∧ 31 + 3 = 34 := ⟨by decide +kernel, rfl⟩
theorem zd_M_step_34 : decode zb_M_step 34 = .ok (.putfield 144, 3) ∧ 34 + 3 = 37 := ⟨by decide +kernel, rfl⟩
theorem zd_M_step_37 : decode zb_M_step 37 = .ok (.iinc 3 1, 3) ∧ 37 + 3 = 40 := ⟨by decide +kernel, rfl⟩
theorem zd_M_step_40 : decode zb_M_step 40 = .ok (.goto (-20), 3) ∧ ((40 : Nat) : Int) + (-20) = ((20 : Nat) : Int) ∧ 40 + 3 = 43 := ⟨by decide +kernel, by decide, rfl⟩
theorem zd_M_step_43 : decode zb_M_step 43 = .ok (.aload_n 0, 1) ∧ 43 + 1 = 44 := ⟨by decide +kernel, rfl⟩
theorem zd_M_step_44 : decode zb_M_step 44 = .ok (.getfield 144, 3) ∧ 44 + 3 = 47 := ⟨by decide +kernel, rfl⟩
theorem zd_M_step_47 : decode zb_M_step 47 = .ok (.iload_n 2, 1) ∧ 47 + 1 = 48 := ⟨by decide +kernel, rfl⟩
theorem zd_M_step_48 : decode zb_M_step 48 = .ok (.if_icmp .eq 12, 3) ∧ ((48 : Nat) : Int) + (12) = ((60 : Nat) : Int) ∧ 48 + 3 = 51 := ⟨by decide +kernel, by decide, rfl⟩
theorem zd_M_step_51 : decode zb_M_step 51 = .ok (.aload_n 0, 1) ∧ 51 + 1 = 52 := ⟨by decide +kernel, rfl⟩
theorem zd_M_step_52 : decode zb_M_step 52 = .ok (.aload_n 0, 1) ∧ 52 + 1 = 53 := ⟨by decide +kernel, rfl⟩
theorem zd_M_step_53 : decode zb_M_step 53 = .ok (.getfield 141, 3) ∧ 53 + 3 = 56 := ⟨by decide +kernel, rfl⟩
theorem zd_M_step_56 : decode zb_M_step 56 = .ok (.iload_n 2, 1) ∧ 56 + 1 = 57 := ⟨by decide +kernel, rfl⟩
theorem zd_M_step_57 : decode zb_M_step 57 = .ok (.invokevirtual 449, 3) ∧ 57 + 3 = 60 := ⟨by decide +kernel, rfl⟩
theorem zd_M_step_60 : decode zb_M_step 60 = .ok (.aload_n 0, 1) ∧ 60 + 1 = 61 := ⟨by decide +kernel, rfl⟩
theorem zd_M_step_61 : decode zb_M_step 61 = .ok (.getfield 144, 3) ∧ 61 + 3 = 64 := ⟨by decide +kernel, rfl⟩
theorem zd_M_step_64 : decode zb_M_step 64 = .ok (.ireturn, 1) ∧ 64 + 1 = 65 := ⟨by decide +kernel, rfl⟩
theorem zd_M_follows_0 : decode zb_M_follows 0 = .ok (.iconst 0, 1) ∧ 0 + 1 = 1 := ⟨by decide +kernel, rfl⟩
theorem zd_M_follows_1 : decode zb_M_follows 1 = .ok (.istore_n 2, 1) ∧ 1 + 1 = 2 := ⟨by decide +kernel, rfl⟩
theorem zd_M_follows_2 : decode zb_M_follows 2 = .ok (.iload_n 2, 1) ∧ 2 + 1 = 3 := ⟨by decide +kernel, rfl⟩
theorem zd_M_follows_3 : decode zb_M_follows 3 = .ok (.bipush 64, 2) ∧ 3 + 2 = 5 := ⟨by decide +kernel, rfl⟩
theorem zd_M_follows_5 : decode zb_M_follows 5 = .ok (.if_icmp .ge 16, 3) ∧ ((5 : Nat) : Int) + (16) = ((21 : Nat) : Int) ∧ 5 + 3 = 8 := ⟨by decide +kernel, by decide, rfl⟩
theorem zd_M_follows_8 : decode zb_M_follows 8 = .ok (.aload_n 0, 1) ∧ 8 + 1 = 9 := ⟨by decide +kernel, rfl⟩
theorem zd_M_follows_9 : decode zb_M_follows 9 = .ok (.getfield 189, 3) ∧ 9 + 3 = 12 := ⟨by decide +kernel, rfl⟩
theorem zd_M_follows_12 : decode zb_M_follows 12 = .ok (.iload_n 2, 1) ∧ 12 + 1 = 13 := ⟨by decide +kernel, rfl⟩
theorem zd_M_follows_13 : decode zb_M_follows 13 = .ok (.iconst (-1), 1) ∧ 13 + 1 = 14 := ⟨by decide +kernel, rfl⟩
theorem zd_M_follows_14 : decode zb_M_follows 14 = .ok (.iastore, 1) ∧ 14 + 1 = 15 := ⟨by decide +kernel, rfl⟩
theorem zd_M_follows_15 : decode zb_M_follows 15 = .ok (.iinc 2 1, 3) ∧ 15 + 3 = 18 := ⟨by decide +kernel, rfl⟩
theorem zd_M_follows_18 : decode zb_M_follows 18 = .ok (.goto (-16), 3) ∧ ((18 : Nat) : Int) + (-16) = ((2 : Nat) : Int) ∧ 18 + 3 = 21 := ⟨by decide +kernel, by decide, rfl⟩
theorem zd_M_follows_21 : decode zb_M_follows 21 = .ok (.iload_n 1, 1) ∧ 21 + 1 = 22 := ⟨by decide +kernel, rfl⟩
theorem zd_M_follows_22 : decode zb_M_follows 22 = .ok (.istore_n 2, 1) ∧ 22 + 1 = 23 := ⟨by decide +kernel, rfl⟩
theorem zd_M_follows_23 : decode zb_M_follows 23 = .ok (.iconst 0, 1) ∧ 23 + 1 = 24 := ⟨by decide +kernel, rfl⟩
theorem zd_M_follows_24 : decode zb_M_follows 24 = .ok (.istore_n 3, 1) ∧ 24 + 1 = 25 := ⟨by decide +kernel, rfl⟩
theorem zd_M_follows_25 : decode zb_M_follows 25 = .ok (.aload_n 0, 1) ∧ 25 + 1 = 26 := ⟨by decide +kernel, rfl⟩
theorem zd_M_follows_26 : decode zb_M_follows 26 = .ok (.getfield 189, 3) ∧ 26 + 3 = 29 := ⟨by decide +kernel, rfl⟩
theorem zd_M_follows_29 : decode zb_M_follows 29 = .ok (.iload_n 2, 1) ∧ 29 + 1 = 30 := ⟨by decide +kernel, rfl⟩
theorem zd_M_follows_30 : decode zb_M_follows 30 = .ok (.iaload, 1) ∧ 30 + 1 = 31 := ⟨by decide +kernel, rfl⟩
theorem zd_M_follows_31 : decode zb_M_follows 31 = .ok (.iconst (-1), 1) ∧ 31 + 1 = 32 := ⟨by decide +kernel, rfl⟩
theorem zd_M_follows_32 : decode zb_M_follows 32 = .ok (.if_icmp .ne 22, 3) ∧ ((32 : Nat) : Int) + (22) = ((54 : Nat) : Int) ∧ 32 + 3 = 35 := ⟨by decide +kernel, by decide, rfl⟩
theorem zd_M_follows_35 : decode zb_M_follows 35 = .ok (.aload_n 0, 1) ∧ 35 + 1 = 36 := ⟨by decide +kernel, rfl⟩
theorem zd_M_follows_36 : decode zb_M_follows 36 = .ok (.getfield 189, 3) ∧ 36 + 3 = 39 := ⟨by decide +kernel, rfl⟩
theorem zd_M_follows_39 : decode zb_M_follows 39 = .ok (.iload_n 2, 1) ∧ 39 + 1 = 40 := ⟨by decide +kernel, rfl⟩
theorem zd_M_follows_40 : decode zb_M_follows 40 = .ok (.iload_n 3, 1) ∧ 40 + 1 = 41 := ⟨by decide +kernel, rfl⟩
theorem zd_M_follows_41 : decode zb_M_follows 41 = .ok (.iastore, 1) ∧ 41 + 1 = 42 := ⟨by decide +kernel, rfl⟩
theorem zd_M_follows_42 : decode zb_M_follows 42 = .ok (.iinc 3 1, 3) ∧ 42 + 3 = 45 := ⟨by decide +kernel, rfl⟩
theorem zd_M_follows_45 : decode zb_M_follows 45 = .ok (.aload_n 0, 1) ∧ 45 + 1 = 46 := ⟨by decide +kernel, rfl⟩
theorem zd_M_follows_46 : decode zb_M_follows 46 = .ok (.iload_n 2, 1) ∧ 46 + 1 = 47 := ⟨by decide +kernel, rfl⟩
theorem zd_M_follows_47 : decode zb_M_follows 47 = .ok (.invokevirtual 464, 3) ∧ 47 + 3 = 50 := ⟨by decide +kernel, rfl⟩
theorem zd_M_follows_50 : decode zb_M_follows 50 = .ok (.istore_n 2, 1) ∧ 50 + 1 = 51 := ⟨by decide +kernel, rfl⟩
theorem zd_M_follows_51 : decode zb_M_follows 51 = .ok (.goto (-26), 3) ∧ ((51 : Nat) : Int) + (-26) = ((25 : Nat) : Int) ∧ 51 + 3 = 54 := ⟨by decide +kernel, by decide, rfl⟩
theorem zd_M_follows_54 : decode zb_M_follows 54 = .ok (.aload_n 0, 1) ∧ 54 + 1 = 55 := ⟨by decide +kernel, rfl⟩
theorem zd_M_follows_55 : decode zb_M_follows 55 = .ok (.aload_n 0, 1) ∧ 55 + 1 = 56 := ⟨by decide +kernel, rfl⟩
theorem zd_M_follows_56 : decode zb_M_follows 56 = .ok (.getfield 189, 3) ∧ 56 + 3 = 59 := ⟨by decide +kernel, rfl⟩
theorem zd_M_follows_59 : decode zb_M_follows 59 = .ok (.iload_n 2, 1) ∧ 59 + 1 = 60 := ⟨by decide +kernel, rfl⟩
theorem zd_M_follows_60 : decode zb_M_follows 60 = .ok (.iaload, 1) ∧ 60 + 1 = 61 := ⟨by decide +kernel, rfl⟩
theorem zd_M_follows_61 : decode zb_M_follows 61 = .ok (.putfield 192, 3) ∧ 61 + 3 = 64 := ⟨by decide +kernel, rfl⟩
theorem zd_M_follows_64 : decode zb_M_follows 64 = .ok (.aload_n 0, 1) ∧ 64 + 1 = 65 := ⟨by decide +kernel, rfl⟩
theorem zd_M_follows_65 : decode zb_M_follows 65 = .ok (.iload_n 3, 1) ∧ 65 + 1 = 66 := ⟨by decide +kernel, rfl⟩
theorem zd_M_follows_66 : decode zb_M_follows 66 = .ok (.aload_n 0, 1) ∧ 66 + 1 = 67 := ⟨by decide +kernel, rfl⟩
theorem zd_M_follows_67 : decode zb_M_follows 67 = .ok (.getfield 192, 3) ∧ 67 + 3 = 70 := ⟨by decide +kernel, rfl⟩
theorem zd_M_follows_70 : decode zb_M_follows 70 = .ok (.isub, 1) ∧ 70 + 1 = 71 := ⟨by decide +kernel, rfl⟩
theorem zd_M_follows_71 : decode zb_M_follows 71 = .ok (.putfield 195, 3) ∧ 71 + 3 = 74 := ⟨by decide +kernel, rfl⟩
theorem zd_M_follows_74 : decode zb_M_follows 74 = .ok (.aload_n 0, 1) ∧ 74 + 1 = 75 := ⟨by decide +kernel, rfl⟩
theorem zd_M_follows_75 : decode zb_M_follows 75 = .ok (.iload_n 2, 1) ∧ 75 + 1 = 76 := ⟨by decide +kernel, rfl⟩
theorem zd_M_follows_76 : decode zb_M_follows 76 = .ok (.putfield 198, 3) ∧ 76 + 3 = 79 := ⟨by decide +kernel, rfl⟩
theorem zd_M_follows_79 : decode zb_M_follows 79 = .ok (.aload_n 0, 1) ∧ 79 + 1 = 80 := ⟨by decide +kernel, rfl⟩
theorem zd_M_follows_80 : decode zb_M_follows 80 = .ok (.iconst (-1), 1) ∧ 80 + 1 = 81 := ⟨by decide +kernel, rfl⟩
theorem zd_M_follows_81 : decode zb_M_follows 81 = .ok (.putfield 201, 3) ∧ 81 + 3 = 84 := ⟨by decide +kernel, rfl⟩
theorem zd_M_follows_84 : decode zb_M_follows 84 = .ok (.bipush 63, 2) ∧ 84 + 2 = 86 := ⟨by decide +kernel, rfl⟩
theorem zd_M_follows_86 : decode zb_M_follows 86 = .ok (.istore 4, 2) ∧ 86 + 2 = 88 := ⟨by decide +kernel, rfl⟩
theorem zd_M_follows_88 : decode zb_M_follows 88 = .ok (.iload 4, 2) ∧ 88 + 2 = 90 := ⟨by decide +kernel, rfl⟩
theorem zd_M_follows_90 : decode zb_M_follows 90 = .ok (.ifCond .lt 29, 3) ∧ ((90 : Nat) : Int) + (29) = ((119 : Nat) : Int) ∧ 90 + 3 = 93 := ⟨by decide +kernel, by decide, rfl⟩
theorem zd_M_follows_93 : decode zb_M_follows 93 = .ok (.aload_n 0, 1) ∧ 93 + 1 = 94 := ⟨by decide +kernel, rfl⟩
theorem zd_M_follows_94 : decode zb_M_follows 94 = .ok (.getfield 189, 3) ∧ 94 + 3 = 97 := ⟨by decide +kernel, rfl⟩
theorem zd_M_follows_97 : decode zb_M_follows 97 = .ok (.iload 4, 2) ∧ 97 + 2 = 99 := ⟨by decide +kernel, rfl⟩
theorem zd_M_follows_99 : decode zb_M_follows 99 = .ok (.iaload, 1) ∧ 99 + 1 = 100 := ⟨by decide +kernel, rfl⟩
theorem zd_M_follows_100 : decode zb_M_follows 100 = .ok (.aload_n 0, 1) ∧ 100 + 1 = 101 := ⟨by decide +kernel, rfl⟩
theorem zd_M_follows_101 : decode zb_M_follows 101 = .ok (.getfield 192, 3) ∧ 101 + 3 = 104 := ⟨by decide +kernel, rfl⟩
theorem zd_M_follows_104 : decode zb_M_follows 104 = .ok (.if_icmp .lt 9, 3) ∧ ((104 : Nat) : Int) + (9) = ((113 : Nat) : Int) ∧ 104 + 3 = 107 := ⟨by decide +kernel, by decide, rfl⟩
theorem zd_M_follows_107 : decode zb_M_follows 107 = .ok (.aload_n 0, 1) ∧ 107 + 1 = 108 := ⟨by decide +kernel, rfl⟩
theorem zd_M_follows_108 : decode zb_M_follows 108 = .ok (.iload 4, 2) ∧ 108 + 2 = 110 := ⟨by decide +kernel, rfl⟩
theorem zd_M_follows_110 : decode zb_M_follows 110 = .ok (.putfield 201, 3) ∧ 110 + 3 = 113 := ⟨by decide +kernel, rfl⟩
theorem zd_M_follows_113 : decode zb_M_follows 113 = .ok (.iinc 4 (-1), 3) ∧ 113 + 3 = 116 := ⟨by decide +kernel, rfl⟩
theorem zd_M_follows_116 : decode zb_M_follows 116 = .ok (.goto (-28), 3) ∧ ((116 : Nat) : Int) + (-28) = ((88 : Nat) : Int) ∧ 116 + 3 = 119 := ⟨by decide +kernel, by decide, rfl⟩
theorem zd_M_follows_119 : decode zb_M_follows 119 = .ok (.return_, 1) ∧ 119 + 1 = 120 := ⟨by decide +kernel, rfl⟩
theorem zd_M_round_0 : decode zb_M_round 0 = .ok (.iload_n 1, 1) ∧ 0 + 1 = 1 := ⟨by decide +kernel, rfl⟩
theorem zd_M_round_1 : decode zb_M_round 1 = .ok (.iconst 0, 1) ∧ 1 + 1 = 2 := ⟨by decide +kernel, rfl⟩
theorem zd_M_round_2 : decode zb_M_round 2 = .ok (.iconst 3, 1) ∧ 2 + 1 = 3 := ⟨by decide +kernel, rfl⟩
theorem zd_M_round_3 : decode zb_M_round 3 = .ok (.invokestatic 320, 3) ∧ 3 + 3 = 6 := ⟨by decide +kernel, rfl⟩
theorem zd_M_round_6 : decode zb_M_round 6 = .ok (.ifCond .ne 5, 3) ∧ ((6 : Nat) : Int) + (5) = ((11 : Nat) : Int) ∧ 6 + 3 = 9 := ⟨by decide +kernel, by decide, rfl⟩
theorem zd_M_round_9 : decode zb_M_round 9 = .ok (.iconst (-1), 1) ∧ 9 + 1 = 10 := ⟨by decide +kernel, rfl⟩
theorem zd_M_round_10 : decode zb_M_round 10 = .ok (.ireturn, 1) ∧ 10 + 1 = 11 := ⟨by decide +kernel, rfl⟩
theorem zd_M_round_11 : decode zb_M_round 11 = .ok (.aload_n 0, 1) ∧ 11 + 1 = 12 := ⟨by decide +kernel, rfl⟩
theorem zd_M_round_12 : decode zb_M_round 12 = .ok (.aload_n 0, 1) ∧ 12 + 1 = 13 := ⟨by decide +kernel, rfl⟩
theorem zd_M_round_13 : decode zb_M_round 13 = .ok (.getfield 144, 3) ∧ 13 + 3 = 16 := ⟨by decide +kernel, rfl⟩
theorem zd_M_round_16 : decode zb_M_round 16 = .ok (.invokevirtual 467, 3) ∧ 16 + 3 = 19 := ⟨by decide +kernel, rfl⟩
theorem zd_M_round_19 : decode zb_M_round 19 = .ok (.iload_n 1, 1) ∧ 19 + 1 = 20 := ⟨by decide +kernel, rfl⟩
theorem zd_M_round_20 : decode zb_M_round 20 = .ok (.ifCond .ne 10, 3) ∧ ((20 : Nat) : Int) + (10) = ((30 : Nat) : Int) ∧ 20 + 3 = 23 := ⟨by decide +kernel, by decide, rfl⟩
theorem zd_M_round_23 : decode zb_M_round 23 = .ok (.aload_n 0, 1) ∧ 23 + 1 = 24 := ⟨by decide +kernel, rfl⟩
theorem zd_M_round_24 : decode zb_M_round 24 = .ok (.getfield 192, 3) ∧ 24 + 3 = 27 := ⟨by decide +kernel, rfl⟩
theorem zd_M_round_27 : decode zb_M_round 27 = .ok (.goto 31, 3) ∧ ((27 : Nat) : Int) + (31) = ((58 : Nat) : Int) ∧ 27 + 3 = 30 := ⟨by decide +kernel, by decide, rfl⟩
theorem zd_M_round_30 : decode zb_M_round 30 = .ok (.iload_n 1, 1) ∧ 30 + 1 = 31 := ⟨by decide +kernel, rfl⟩
theorem zd_M_round_31 : decode zb_M_round 31 = .ok (.iconst 1, 1) ∧ 31 + 1 = 32 := ⟨by decide +kernel, rfl⟩
theorem zd_M_round_32 : decode zb_M_round 32 = .ok (.if_icmp .ne 10, 3) ∧ ((32 : Nat) : Int) + (10) = ((42 : Nat) : Int) ∧ 32 + 3 = 35 := ⟨by decide +kernel, by decide, rfl⟩
theorem zd_M_round_35 : decode zb_M_round 35 = .ok (.aload_n 0, 1) ∧ 35 + 1 = 36 := ⟨by decide +kernel, rfl⟩
theorem zd_M_round_36 : decode zb_M_round 36 = .ok (.getfield 195, 3) ∧ 36 + 3 = 39 := ⟨by decide +kernel, rfl⟩
theorem zd_M_round_39 : decode zb_M_round 39 = .ok (.goto 19, 3) ∧ ((39 : Nat) : Int) + (19) = ((58 : Nat) : Int) ∧ 39 + 3 = 42 := ⟨by decide +kernel, by decide, rfl⟩
theorem zd_M_round_42 : decode zb_M_round 42 = .ok (.iload_n 1, 1) ∧ 42 + 1 = 43 := ⟨by decide +kernel, rfl⟩
theorem zd_M_round_43 : decode zb_M_round 43 = .ok (.iconst 2, 1) ∧ 43 + 1 = 44 := ⟨by decide +kernel, rfl⟩
theorem zd_M_round_44 : decode zb_M_round 44 = .ok (.if_icmp .ne 10, 3) ∧ ((44 : Nat) : Int) + (10) = ((54 : Nat) : Int) ∧ 44 + 3 = 47 := ⟨by decide +kernel, by decide, rfl⟩
theorem zd_M_round_47 : decode zb_M_round 47 = .ok (.aload_n 0, 1) ∧ 47 + 1 = 48 := ⟨by decide +kernel, rfl⟩
theorem zd_M_round_48 : decode zb_M_round 48 = .ok (.getfield 198, 3) ∧ 48 + 3 = 51 := ⟨by decide +kernel, rfl⟩
theorem zd_M_round_51 : decode zb_M_round 51 = .ok (.goto 7, 3) ∧ ((51 : Nat) : Int) + (7) = ((58 : Nat) : Int) ∧ 51 + 3 = 54 := ⟨by decide +kernel, by decide, rfl⟩
theorem zd_M_round_54 : decode zb_M_round 54 = .ok (.aload_n 0, 1) ∧ 54 + 1 = 55 := ⟨by decide +kernel, rfl⟩
theorem zd_M_round_55 : decode zb_M_round 55 = .ok (.getfield 201, 3) ∧ 55 + 3 = 58 := ⟨by decide +kernel, rfl⟩
theorem zd_M_round_58 : decode zb_M_round 58 = .ok (.ireturn, 1) ∧ 58 + 1 = 59 := ⟨by decide +kernel, rfl⟩
theorem zd_M_rests_0 : decode zb_M_rests 0 = .ok (.iload_n 1, 1) ∧ 0 + 1 = 1 := ⟨by decide +kernel, rfl⟩
theorem zd_M_rests_1 : decode zb_M_rests 1 = .ok (.iconst (-1), 1) ∧ 1 + 1 = 2 := ⟨by decide +kernel, rfl⟩
theorem zd_M_rests_2 : decode zb_M_rests 2 = .ok (.if_icmp .ge 5, 3) ∧ ((2 : Nat) : Int) + (5) = ((7 : Nat) : Int) ∧ 2 + 3 = 5 := ⟨by decide +kernel, by decide, rfl⟩
theorem zd_M_rests_5 : decode zb_M_rests 5 = .ok (.iconst (-1), 1) ∧ 5 + 1 = 6 := ⟨by decide +kernel, rfl⟩
theorem zd_M_rests_6 : decode zb_M_rests 6 = .ok (.ireturn, 1) ∧ 6 + 1 = 7 := ⟨by decide +kernel, rfl⟩
theorem zd_M_rests_7 : decode zb_M_rests 7 = .ok (.iconst 0, 1) ∧ 7 + 1 = 8 := ⟨by decide +kernel, rfl⟩
theorem zd_M_rests_8 : decode zb_M_rests 8 = .ok (.istore_n 2, 1) ∧ 8 + 1 = 9 := ⟨by decide +kernel, rfl⟩
theorem zd_M_rests_9 : decode zb_M_rests 9 = .ok (.iconst 0, 1) ∧ 9 + 1 = 10 := ⟨by decide +kernel, rfl⟩
theorem zd_M_rests_10 : decode zb_M_rests 10 = .ok (.istore_n 3, 1) ∧ 10 + 1 = 11 := ⟨by decide +kernel, rfl⟩
theorem zd_M_rests_11 : decode zb_M_rests 11 = .ok (.iload_n 3, 1) ∧ 11 + 1 = 12 := ⟨by decide +kernel, rfl⟩
theorem zd_M_rests_12 : decode zb_M_rests 12 = .ok (.aload_n 0, 1) ∧ 12 + 1 = 13 := ⟨by decide +kernel, rfl⟩
theorem zd_M_rests_13 : decode zb_M_rests 13 = .ok (.invokevirtual 455, 3) ∧ 13 + 3 = 16 := ⟨by decide +kernel, rfl⟩
theorem zd_M_rests_16 : decode zb_M_rests 16 = .ok (.if_icmp .ge 31, 3) ∧ ((16 : Nat) : Int) + (31) = ((47 : Nat) : Int) ∧ 16 + 3 = 19 := ⟨by decide +kernel, by decide, rfl⟩
theorem zd_M_rests_19 : decode zb_M_rests 19 = .ok (.aload_n 0, 1) ∧ 19 + 1 = 20 := ⟨by decide +kernel, rfl⟩
theorem zd_M_rests_20 : decode zb_M_rests 20 = .ok (.iload_n 3, 1) ∧ 20 + 1 = 21 := ⟨by decide +kernel, rfl⟩
theorem zd_M_rests_21 : decode zb_M_rests 21 = .ok (.invokevirtual 464, 3) ∧ 21 + 3 = 24 := ⟨by decide +kernel, rfl⟩
theorem zd_M_rests_24 : decode zb_M_rests 24 = .ok (.iload_n 3, 1) ∧ 24 + 1 = 25 := ⟨by decide +kernel, rfl⟩
theorem zd_M_rests_25 : decode zb_M_rests 25 = .ok (.if_icmp .eq 6, 3) ∧ ((25 : Nat) : Int) + (6) = ((31 : Nat) : Int) ∧ 25 + 3 = 28 := ⟨by decide +kernel, by decide, rfl⟩
theorem zd_M_rests_28 : decode zb_M_rests 28 = .ok (.goto 13, 3) ∧ ((28 : Nat) : Int) + (13) = ((41 : Nat) : Int) ∧ 28 + 3 = 31 := ⟨by decide +kernel, by decide, rfl⟩
theorem zd_M_rests_31 : decode zb_M_rests 31 = .ok (.iload_n 2, 1) ∧ 31 + 1 = 32 := ⟨by decide +kernel, rfl⟩
theorem zd_M_rests_32 : decode zb_M_rests 32 = .ok (.iload_n 1, 1) ∧ 32 + 1 = 33 := ⟨by decide +kernel, rfl⟩
theorem zd_M_rests_33 : decode zb_M_rests 33 = .ok (.if_icmp .ne 5, 3) ∧ ((33 : Nat) : Int) + (5) = ((38 : Nat) : Int) ∧ 33 + 3 = 36 := ⟨by decide +kernel, by decide, rfl⟩
theorem zd_M_rests_36 : decode zb_M_rests 36 = .ok (.iload_n 3, 1) ∧ 36 + 1 = 37 := ⟨by decide +kernel, rfl⟩
theorem zd_M_rests_37 : decode zb_M_rests 37 = .ok (.ireturn, 1) ∧ 37 + 1 = 38 := ⟨by decide +kernel, rfl⟩
theorem zd_M_rests_38 : decode zb_M_rests 38 = .ok (.iinc 2 1, 3) ∧ 38 + 3 = 41 := ⟨by decide +kernel, rfl⟩
theorem zd_M_rests_41 : decode zb_M_rests 41 = .ok (.iinc 3 1, 3) ∧ 41 + 3 = 44 := ⟨by decide +kernel, rfl⟩
theorem zd_M_rests_44 : decode zb_M_rests 44 = .ok (.goto (-33), 3) ∧ ((44 : Nat) : Int) + (-33) = ((11 : Nat) : Int) ∧ 44 + 3 = 47 := ⟨by decide +kernel, by decide, rfl⟩
theorem zd_M_rests_47 : decode zb_M_rests 47 = .ok (.iload_n 1, 1) ∧ 47 + 1 = 48 := ⟨by decide +kernel, rfl⟩
theorem zd_M_rests_48 : decode zb_M_rests 48 = .ok (.iconst (-1), 1) ∧ 48 + 1 = 49 := ⟨by decide +kernel, rfl⟩
theorem zd_M_rests_49 : decode zb_M_rests 49 = .ok (.if_icmp .ne 7, 3) ∧ ((49 : Nat) : Int) + (7) = ((56 : Nat) : Int) ∧ 49 + 3 = 52 := ⟨by decide +kernel, by decide, rfl⟩
theorem zd_M_rests_52 : decode zb_M_rests 52 = .ok (.iload_n 2, 1) ∧ 52 + 1 = 53 := ⟨by decide +kernel, rfl⟩
theorem zd_M_rests_53 : decode zb_M_rests 53 = .ok (.goto 4, 3) ∧ ((53 : Nat) : Int) + (4) = ((57 : Nat) : Int) ∧ 53 + 3 = 56 := ⟨by decide +kernel, by decide, rfl⟩
theorem zd_M_rests_56 : decode zb_M_rests 56 = .ok (.iconst (-1), 1) ∧ 56 + 1 = 57 := ⟨by decide +kernel, rfl⟩
theorem zd_M_rests_57 : decode zb_M_rests 57 = .ok (.ireturn, 1) ∧ 57 + 1 = 58 := ⟨by decide +kernel, rfl⟩
theorem zd_M_drawn_0 : decode zb_M_drawn 0 = .ok (.iload_n 1, 1) ∧ 0 + 1 = 1 := ⟨by decide +kernel, rfl⟩
theorem zd_M_drawn_1 : decode zb_M_drawn 1 = .ok (.iconst 0, 1) ∧ 1 + 1 = 2 := ⟨by decide +kernel, rfl⟩
theorem zd_M_drawn_2 : decode zb_M_drawn 2 = .ok (.aload_n 0, 1) ∧ 2 + 1 = 3 := ⟨by decide +kernel, rfl⟩
theorem zd_M_drawn_3 : decode zb_M_drawn 3 = .ok (.invokevirtual 455, 3) ∧ 3 + 3 = 6 := ⟨by decide +kernel, rfl⟩
theorem zd_M_drawn_6 : decode zb_M_drawn 6 = .ok (.iconst 1, 1) ∧ 6 + 1 = 7 := ⟨by decide +kernel, rfl⟩
theorem zd_M_drawn_7 : decode zb_M_drawn 7 = .ok (.isub, 1) ∧ 7 + 1 = 8 := ⟨by decide +kernel, rfl⟩
theorem zd_M_drawn_8 : decode zb_M_drawn 8 = .ok (.invokestatic 320, 3) ∧ 8 + 3 = 11 := ⟨by decide +kernel, rfl⟩
theorem zd_M_drawn_11 : decode zb_M_drawn 11 = .ok (.ifCond .ne 5, 3) ∧ ((11 : Nat) : Int) + (5) = ((16 : Nat) : Int) ∧ 11 + 3 = 14 := ⟨by decide +kernel, by decide, rfl⟩
theorem zd_M_drawn_14 : decode zb_M_drawn 14 = .ok (.iconst (-1), 1) ∧ 14 + 1 = 15 := ⟨by decide +kernel, rfl⟩
theorem zd_M_drawn_15 : decode zb_M_drawn 15 = .ok (.ireturn, 1) ∧ 15 + 1 = 16 := ⟨by decide +kernel, rfl⟩
theorem zd_M_drawn_16 : decode zb_M_drawn 16 = .ok (.iconst 0, 1) ∧ 16 + 1 = 17 := ⟨by decide +kernel, rfl⟩
theorem zd_M_drawn_17 : decode zb_M_drawn 17 = .ok (.istore_n 2, 1) ∧ 17 + 1 = 18 := ⟨by decide +kernel, rfl⟩
theorem zd_M_drawn_18 : decode zb_M_drawn 18 = .ok (.iconst 0, 1) ∧ 18 + 1 = 19 := ⟨by decide +kernel, rfl⟩
theorem zd_M_drawn_19 : decode zb_M_drawn 19 = .ok (.istore_n 3, 1) ∧ 19 + 1 = 20 := ⟨by decide +kernel, rfl⟩
theorem zd_M_drawn_20 : decode zb_M_drawn 20 = .ok (.iload_n 3, 1) ∧ 20 + 1 = 21 := ⟨by decide +kernel, rfl⟩
theorem zd_M_drawn_21 : decode zb_M_drawn 21 = .ok (.aload_n 0, 1) ∧ 21 + 1 = 22 := ⟨by decide +kernel, rfl⟩
theorem zd_M_drawn_22 : decode zb_M_drawn 22 = .ok (.invokevirtual 455, 3) ∧ 22 + 3 = 25 := ⟨by decide +kernel, rfl⟩
theorem zd_M_drawn_25 : decode zb_M_drawn 25 = .ok (.if_icmp .ge 35, 3) ∧ ((25 : Nat) : Int) + (35) = ((60 : Nat) : Int) ∧ 25 + 3 = 28 := ⟨by decide +kernel, by decide, rfl⟩
theorem zd_M_drawn_28 : decode zb_M_drawn 28 = .ok (.aload_n 0, 1) ∧ 28 + 1 = 29 := ⟨by decide +kernel, rfl⟩
theorem zd_M_drawn_29 : decode zb_M_drawn 29 = .ok (.iload_n 3, 1) ∧ 29 + 1 = 30 := ⟨by decide +kernel, rfl⟩
theorem zd_M_drawn_30 : decode zb_M_drawn 30 = .ok (.invokevirtual 467, 3) ∧ 30 + 3 = 33 := ⟨by decide +kernel, rfl⟩
theorem zd_M_drawn_33 : decode zb_M_drawn 33 = .ok (.iload_n 2, 1) ∧ 33 + 1 = 34 := ⟨by decide +kernel, rfl⟩
theorem zd_M_drawn_34 : decode zb_M_drawn 34 = .ok (.aload_n 0, 1) ∧ 34 + 1 = 35 := ⟨by decide +kernel, rfl⟩
theorem zd_M_drawn_35 : decode zb_M_drawn 35 = .ok (.getfield 189, 3) ∧ 35 + 3 = 38 := ⟨by decide +kernel, rfl⟩
theorem zd_M_drawn_38 : decode zb_M_drawn 38 = .ok (.iload_n 1, 1) ∧ 38 + 1 = 39 := ⟨by decide +kernel, rfl⟩
theorem zd_M_drawn_39 : decode zb_M_drawn 39 = .ok (.iaload, 1) ∧ 39 + 1 = 40 := ⟨by decide +kernel, rfl⟩
theorem zd_M_drawn_40 : decode zb_M_drawn 40 = .ok (.aload_n 0, 1) ∧ 40 + 1 = 41 := ⟨by decide +kernel, rfl⟩
theorem zd_M_drawn_41 : decode zb_M_drawn 41 = .ok (.getfield 192, 3) ∧ 41 + 3 = 44 := ⟨by decide +kernel, rfl⟩
theorem zd_M_drawn_44 : decode zb_M_drawn 44 = .ok (.if_icmp .lt 7, 3) ∧ ((44 : Nat) : Int) + (7) = ((51 : Nat) : Int) ∧ 44 + 3 = 47 := ⟨by decide +kernel, by decide, rfl⟩
theorem zd_M_drawn_47 : decode zb_M_drawn 47 = .ok (.iconst 1, 1) ∧ 47 + 1 = 48 := ⟨by decide +kernel, rfl⟩
theorem zd_M_drawn_48 : decode zb_M_drawn 48 = .ok (.goto 4, 3) ∧ ((48 : Nat) : Int) + (4) = ((52 : Nat) : Int) ∧ 48 + 3 = 51 := ⟨by decide +kernel, by decide, rfl⟩
theorem zd_M_drawn_51 : decode zb_M_drawn 51 = .ok (.iconst 0, 1) ∧ 51 + 1 = 52 := ⟨by decide +kernel, rfl⟩
theorem zd_M_drawn_52 : decode zb_M_drawn 52 = .ok (.iadd, 1) ∧ 52 + 1 = 53 := ⟨by decide +kernel, rfl⟩
theorem zd_M_drawn_53 : decode zb_M_drawn 53 = .ok (.istore_n 2, 1) ∧ 53 + 1 = 54 := ⟨by decide +kernel, rfl⟩
theorem zd_M_drawn_54 : decode zb_M_drawn 54 = .ok (.iinc 3 1, 3) ∧ 54 + 3 = 57 := ⟨by decide +kernel, rfl⟩
theorem zd_M_drawn_57 : decode zb_M_drawn 57 = .ok (.goto (-37), 3) ∧ ((57 : Nat) : Int) + (-37) = ((20 : Nat) : Int) ∧ 57 + 3 = 60 := ⟨by decide +kernel, by decide, rfl⟩
theorem zd_M_drawn_60 : decode zb_M_drawn 60 = .ok (.iload_n 2, 1) ∧ 60 + 1 = 61 := ⟨by decide +kernel, rfl⟩
theorem zd_M_drawn_61 : decode zb_M_drawn 61 = .ok (.ireturn, 1) ∧ 61 + 1 = 62 := ⟨by decide +kernel, rfl⟩
theorem zd_M_litEnd_0 : decode zb_M_litEnd 0 = .ok (.aload_n 0, 1) ∧ 0 + 1 = 1 := ⟨by decide +kernel, rfl⟩
theorem zd_M_litEnd_1 : decode zb_M_litEnd 1 = .ok (.aload_n 0, 1) ∧ 1 + 1 = 2 := ⟨by decide +kernel, rfl⟩
theorem zd_M_litEnd_2 : decode zb_M_litEnd 2 = .ok (.getfield 144, 3) ∧ 2 + 3 = 5 := ⟨by decide +kernel, rfl⟩
theorem zd_M_litEnd_5 : decode zb_M_litEnd 5 = .ok (.invokevirtual 467, 3) ∧ 5 + 3 = 8 := ⟨by decide +kernel, rfl⟩
theorem zd_M_litEnd_8 : decode zb_M_litEnd 8 = .ok (.aload_n 0, 1) ∧ 8 + 1 = 9 := ⟨by decide +kernel, rfl⟩
theorem zd_M_litEnd_9 : decode zb_M_litEnd 9 = .ok (.getfield 195, 3) ∧ 9 + 3 = 12 := ⟨by decide +kernel, rfl⟩
theorem zd_M_litEnd_12 : decode zb_M_litEnd 12 = .ok (.iconst 1, 1) ∧ 12 + 1 = 13 := ⟨by decide +kernel, rfl⟩
theorem zd_M_litEnd_13 : decode zb_M_litEnd 13 = .ok (.if_icmp .eq 5, 3) ∧ ((13 : Nat) : Int) + (5) = ((18 : Nat) : Int) ∧ 13 + 3 = 16 := ⟨by decide +kernel, by decide, rfl⟩
theorem zd_M_litEnd_16 : decode zb_M_litEnd 16 = .ok (.iconst (-1), 1) ∧ 16 + 1 = 17 := ⟨by decide +kernel, rfl⟩
theorem zd_M_litEnd_17 : decode zb_M_litEnd 17 = .ok (.ireturn, 1) ∧ 17 + 1 = 18 := ⟨by decide +kernel, rfl⟩
theorem zd_M_litEnd_18 : decode zb_M_litEnd 18 = .ok (.aload_n 0, 1) ∧ 18 + 1 = 19 := ⟨by decide +kernel, rfl⟩
theorem zd_M_litEnd_19 : decode zb_M_litEnd 19 = .ok (.aload_n 0, 1) ∧ 19 + 1 = 20 := ⟨by decide +kernel, rfl⟩
theorem zd_M_litEnd_20 : decode zb_M_litEnd 20 = .ok (.getfield 198, 3) ∧ 20 + 3 = 23 := ⟨by decide +kernel, rfl⟩
theorem zd_M_litEnd_23 : decode zb_M_litEnd 23 = .ok (.invokevirtual 458, 3) ∧ 23 + 3 = 26 := ⟨by decide +kernel, rfl⟩
theorem zd_M_litEnd_26 : decode zb_M_litEnd 26 = .ok (.aload_n 0, 1) ∧ 26 + 1 = 27 := ⟨by decide +kernel, rfl⟩
theorem zd_M_litEnd_27 : decode zb_M_litEnd 27 = .ok (.invokevirtual 470, 3) ∧ 27 + 3 = 30 := ⟨by decide +kernel, rfl⟩
theorem zd_M_litEnd_30 : decode zb_M_litEnd 30 = .ok (.ireturn, 1) ∧ 30 + 1 = 31 := ⟨by decide +kernel, rfl⟩
theorem zd_M_wish_0 : decode zb_M_wish 0 = .ok (.aload_n 0, 1) ∧ 0 + 1 = 1 := ⟨by decide +kernel, rfl⟩
theorem zd_M_wish_1 : decode zb_M_wish 1 = .ok (.iload_n 1, 1) ∧ 1 + 1 = 2 := ⟨by decide +kernel, rfl⟩
theorem zd_M_wish_2 : decode zb_M_wish 2 = .ok (.invokevirtual 409, 3) ∧ 2 + 3 = 5 := ⟨by decide +kernel, rfl⟩
theorem zd_M_wish_5 : decode zb_M_wish 5 = .ok (.ifCond .eq 12, 3) ∧ ((5 : Nat) : Int) + (12) = ((17 : Nat) : Int) ∧ 5 + 3 = 8 := ⟨by decide +kernel, by decide, rfl⟩
theorem zd_M_wish_8 : decode zb_M_wish 8 = .ok (.iload_n 2, 1) ∧ 8 + 1 = 9 := ⟨by decide +kernel, rfl⟩
theorem zd_M_wish_9 : decode zb_M_wish 9 = .ok (.iconst 0, 1) ∧ 9 + 1 = 10 := ⟨by decide +kernel, rfl⟩
theorem zd_M_wish_10 : decode zb_M_wish 10 = .ok (.iconst 2, 1) ∧ 10 + 1 = 11 := ⟨by decide +kernel, rfl⟩
theorem zd_M_wish_11 : decode zb_M_wish 11 = .ok (.invokestatic 320, 3) ∧ 11 + 3 = 14 := ⟨by decide +kernel, rfl⟩
theorem zd_M_wish_14 : decode zb_M_wish 14 = .ok (.ifCond .ne 5, 3) ∧ ((14 : Nat) : Int) + (5) = ((19 : Nat) : Int) ∧ 14 + 3 = 17 := ⟨by decide +kernel, by decide, rfl⟩
theorem zd_M_wish_17 : decode zb_M_wish 17 = .ok (.iconst 0, 1) ∧ 17 + 1 = 18 := ⟨by decide +kernel, rfl⟩
theorem zd_M_wish_18 : decode zb_M_wish 18 = .ok (.ireturn, 1) ∧ 18 + 1 = 19 := ⟨by decide +kernel, rfl⟩
theorem zd_M_wish_19 : decode zb_M_wish 19 = .ok (.aload_n 0, 1) ∧ 19 + 1 = 20 := ⟨by decide +kernel, rfl⟩
theorem zd_M_wish_20 : decode zb_M_wish 20 = .ok (.getfield 147, 3) ∧ 20 + 3 = 23 := ⟨by decide +kernel, rfl⟩
theorem zd_M_wish_23 : decode zb_M_wish 23 = .ok (.iload_n 1, 1) ∧ 23 + 1 = 24 := ⟨by decide +kernel, rfl⟩
theorem zd_M_wish_24 : decode zb_M_wish 24 = .ok (.iload_n 2, 1) ∧ 24 + 1 = 25 := ⟨by decide +kernel, rfl⟩
theorem zd_M_wish_25 : decode zb_M_wish 25 = .ok (.iastore, 1) ∧ 25 + 1 = 26 := ⟨by decide +kernel, rfl⟩
theorem zd_M_wish_26 : decode zb_M_wish 26 = .ok (.iconst 1, 1) ∧ 26 + 1 = 27 := ⟨by decide +kernel, rfl⟩
theorem zd_M_wish_27 : decode zb_M_wish 27 = .ok (.ireturn, 1) ∧ 27 + 1 = 28 := ⟨by decide +kernel, rfl⟩
theorem zd_M_isMet_0 : decode zb_M_isMet 0 = .ok (.aload_n 0, 1) ∧ 0 + 1 = 1 := ⟨by decide +kernel, rfl⟩
theorem zd_M_isMet_1 : decode zb_M_isMet 1 = .ok (.invokevirtual 473, 3) ∧ 1 + 3 = 4 := ⟨by decide +kernel, rfl⟩
theorem zd_M_isMet_4 : decode zb_M_isMet 4 = .ok (.istore_n 1, 1) ∧ 4 + 1 = 5 := ⟨by decide +kernel, rfl⟩
theorem zd_M_isMet_5 : decode zb_M_isMet 5 = .ok (.iload_n 1, 1) ∧ 5 + 1 = 6 := ⟨by decide +kernel, rfl⟩
theorem zd_M_isMet_6 : decode zb_M_isMet 6 = .ok (.iconst (-1), 1) ∧ 6 + 1 = 7 := ⟨by decide +kernel, rfl⟩
theorem zd_M_isMet_7 : decode zb_M_isMet 7 = .ok (.if_icmp .ne 5, 3) ∧ ((7 : Nat) : Int) + (5) = ((12 : Nat) : Int) ∧ 7 + 3 = 10 := ⟨by decide +kernel, by decide, rfl⟩
theorem zd_M_isMet_10 : decode zb_M_isMet 10 = .ok (.iconst 0, 1) ∧ 10 + 1 = 11 := ⟨by decide +kernel, rfl⟩
theorem zd_M_isMet_11 : decode zb_M_isMet 11 = .ok (.ireturn, 1) ∧ 11 + 1 = 12 := ⟨by decide +kernel, rfl⟩
theorem zd_M_isMet_12 : decode zb_M_isMet 12 = .ok (.iconst 0, 1) ∧ 12 + 1 = 13 := ⟨by decide +kernel, rfl⟩
theorem zd_M_isMet_13 : decode zb_M_isMet 13 = .ok (.istore_n 2, 1) ∧ 13 + 1 = 14 := ⟨by decide +kernel, rfl⟩
theorem zd_M_isMet_14 : decode zb_M_isMet 14 = .ok (.iload_n 2, 1) ∧ 14 + 1 = 15 := ⟨by decide +kernel, rfl⟩
theorem zd_M_isMet_15 : decode zb_M_isMet 15 = .ok (.aload_n 0, 1) ∧ 15 + 1 = 16 := ⟨by decide +kernel, rfl⟩
theorem zd_M_isMet_16 : decode zb_M_isMet 16 = .ok (.getfield 72, 3) ∧ 16 + 3 = 19 := ⟨by decide +kernel, rfl⟩
theorem zd_M_isMet_19 : decode zb_M_isMet 19 = .ok (.aload_n 0, 1) ∧ 19 + 1 = 20 := ⟨by decide +kernel, rfl⟩
theorem zd_M_isMet_20 : decode zb_M_isMet 20 = .ok (.getfield 51, 3) ∧ 20 + 3 = 23 := ⟨by decide +kernel, rfl⟩
theorem zd_M_isMet_23 : decode zb_M_isMet 23 = .ok (.iaload, 1) ∧ 23 + 1 = 24 := ⟨by decide +kernel, rfl⟩
theorem zd_M_isMet_24 : decode zb_M_isMet 24 = .ok (.if_icmp .ge 52, 3) ∧ ((24 : Nat) : Int) + (52) = ((76 : Nat) : Int) ∧ 24 + 3 = 27 := ⟨by decide +kernel, by decide, rfl⟩
theorem zd_M_isMet_27 : decode zb_M_isMet 27 = .ok (.aload_n 0, 1) ∧ 27 + 1 = 28 := ⟨by decide +kernel, rfl⟩
theorem zd_M_isMet_28 : decode zb_M_isMet 28 = .ok (.getfield 147, 3) ∧ 28 + 3 = 31 := ⟨by decide +kernel, rfl⟩
theorem zd_M_isMet_31 : decode zb_M_isMet 31 = .ok (.iload_n 2, 1) ∧ 31 + 1 = 32 := ⟨by decide +kernel, rfl⟩
theorem zd_M_isMet_32 : decode zb_M_isMet 32 = .ok (.iaload, 1) ∧ 32 + 1 = 33 := ⟨by decide +kernel, rfl⟩
theorem zd_M_isMet_33 : decode zb_M_isMet 33 = .ok (.ifCond .eq 37, 3) ∧ ((33 : Nat) : Int) + (37) = ((70 : Nat) : Int) ∧ 33 + 3 = 36 := ⟨by decide +kernel, by decide, rfl⟩
theorem zd_M_isMet_36 : decode zb_M_isMet 36 = .ok (.aload_n 0, 1) ∧ 36 + 1 = 37 := ⟨by decide +kernel, rfl⟩
theorem zd_M_isMet_37 : decode zb_M_isMet 37 = .ok (.getfield 147, 3) ∧ 37 + 3 = 40 := ⟨by decide +kernel, rfl⟩
theorem zd_M_isMet_40 : decode zb_M_isMet 40 = .ok (.iload_n 2, 1) ∧ 40 + 1 = 41 := ⟨by decide +kernel, rfl⟩
theorem zd_M_isMet_41 : decode zb_M_isMet 41 = .ok (.iaload, 1) ∧ 41 + 1 = 42 := ⟨by decide +kernel, rfl⟩
theorem zd_M_isMet_42 : decode zb_M_isMet 42 = .ok (.iconst 1, 1) ∧ 42 + 1 = 43 := ⟨by decide +kernel, rfl⟩
theorem zd_M_isMet_43 : decode zb_M_isMet 43 = .ok (.if_icmp .ne 7, 3) ∧ ((43 : Nat) : Int) + (7) = ((50 : Nat) : Int) ∧ 43 + 3 = 46 := ⟨by decide +kernel, by decide, rfl⟩
theorem zd_M_isMet_46 : decode zb_M_isMet 46 = .ok (.iconst 1, 1) ∧ 46 + 1 = 47 := ⟨by decide +kernel, rfl⟩
theorem zd_M_isMet_47 : decode zb_M_isMet 47 = .ok (.goto 4, 3) ∧ ((47 : Nat) : Int) + (4) = ((51 : Nat) : Int) ∧ 47 + 3 = 50 := ⟨by decide +kernel, by decide, rfl⟩
theorem zd_M_isMet_50 : decode zb_M_isMet 50 = .ok (.iconst 0, 1) ∧ 50 + 1 = 51 := ⟨by decide +kernel, rfl⟩
theorem zd_M_isMet_51 : decode zb_M_isMet 51 = .ok (.iload_n 1, 1) ∧ 51 + 1 = 52 := ⟨by decide +kernel, rfl⟩
theorem zd_M_isMet_52 : decode zb_M_isMet 52 = .ok (.iload_n 2, 1) ∧ 52 + 1 = 53 := ⟨by decide +kernel, rfl⟩
theorem zd_M_isMet_53 : decode zb_M_isMet 53 = .ok (.ishr, 1) ∧ 53 + 1 = 54 := ⟨by decide +kernel, rfl⟩
theorem zd_M_isMet_54 : decode zb_M_isMet 54 = .ok (.iconst 1, 1) ∧ 54 + 1 = 55 := ⟨by decide +kernel, rfl⟩
theorem zd_M_isMet_55 : decode zb_M_isMet 55 = .ok (.iand, 1) ∧ 55 + 1 = 56 := ⟨by decide +kernel, rfl⟩
theorem zd_M_isMet_56 : decode zb_M_isMet 56 = .ok (.iconst 1, 1) ∧ 56 + 1 = 57 := ⟨by decide +kernel, rfl⟩
theorem zd_M_isMet_57 : decode zb_M_isMet 57 = .ok (.if_icmp .ne 7, 3) ∧ ((57 : Nat) : Int) + (7) = ((64 : Nat) : Int) ∧ 57 + 3 = 60 := ⟨by decide +kernel, by decide, rfl⟩
theorem zd_M_isMet_60 : decode zb_M_isMet 60 = .ok (.iconst 1, 1) ∧ 60 + 1 = 61 := ⟨by decide +kernel, rfl⟩
theorem zd_M_isMet_61 : decode zb_M_isMet 61 = .ok (.goto 4, 3) ∧ ((61 : Nat) : Int) + (4) = ((65 : Nat) : Int) ∧ 61 + 3 = 64 := ⟨by decide +kernel, by decide, rfl⟩
theorem zd_M_isMet_64 : decode zb_M_isMet 64 = .ok (.iconst 0, 1) ∧ 64 + 1 = 65 := ⟨by decide +kernel, rfl⟩
theorem zd_M_isMet_65 : decode zb_M_isMet 65 = .ok (.if_icmp .eq 5, 3) ∧ ((65 : Nat) : Int) + (5) = ((70 : Nat) : Int) ∧ 65 + 3 = 68 := ⟨by decide +kernel, by decide, rfl⟩
theorem zd_M_isMet_68 : decode zb_M_isMet 68 = .ok (.iconst 0, 1) ∧ 68 + 1 = 69 := ⟨by decide +kernel, rfl⟩
theorem zd_M_isMet_69 : decode zb_M_isMet 69 = .ok (.ireturn, 1) ∧ 69 + 1 = 70 := ⟨by decide +kernel, rfl⟩
theorem zd_M_isMet_70 : decode zb_M_isMet 70 = .ok (.iinc 2 1, 3) ∧ 70 + 3 = 73 := ⟨by decide +kernel, rfl⟩
theorem zd_M_isMet_73 : decode zb_M_isMet 73 = .ok (.goto (-59), 3) ∧ ((73 : Nat) : Int) + (-59) = ((14 : Nat) : Int) ∧ 73 + 3 = 76 := ⟨by decide +kernel, by decide, rfl⟩
theorem zd_M_isMet_76 : decode zb_M_isMet 76 = .ok (.iconst 1, 1) ∧ 76 + 1 = 77 := ⟨by decide +kernel, rfl⟩
theorem zd_M_isMet_77 : decode zb_M_isMet 77 = .ok (.ireturn, 1) ∧ 77 + 1 = 78 := ⟨by decide +kernel, rfl⟩
theorem zd_M_met_0 : decode zb_M_met 0 = .ok (.aload_n 0, 1) ∧ 0 + 1 = 1 := ⟨by decide +kernel, rfl⟩
theorem zd_M_met_1 : decode zb_M_met 1 = .ok (.invokevirtual 476, 3) ∧ 1 + 3 = 4 := ⟨by decide +kernel, rfl⟩
theorem zd_M_met_4 : decode zb_M_met 4 = .ok (.ifCond .eq 7, 3) ∧ ((4 : Nat) : Int) + (7) = ((11 : Nat) : Int) ∧ 4 + 3 = 7 := ⟨by decide +kernel, by decide, rfl⟩
theorem zd_M_met_7 : decode zb_M_met 7 = .ok (.iconst 1, 1) ∧ 7 + 1 = 8 := ⟨by decide +kernel, rfl⟩
theorem zd_M_met_8 : decode zb_M_met 8 = .ok (.goto 4, 3) ∧ ((8 : Nat) : Int) + (4) = ((12 : Nat) : Int) ∧ 8 + 3 = 11 := ⟨by decide +kernel, by decide, rfl⟩
theorem zd_M_met_11 : decode zb_M_met 11 = .ok (.iconst 0, 1) ∧ 11 + 1 = 12 := ⟨by decide +kernel, rfl⟩
theorem zd_M_met_12 : decode zb_M_met 12 = .ok (.ireturn, 1) ∧ 12 + 1 = 13 := ⟨by decide +kernel, rfl⟩
theorem zd_M_fewest_0 : decode zb_M_fewest 0 = .ok (.aload_n 0, 1) ∧ 0 + 1 = 1 := ⟨by decide +kernel, rfl⟩
theorem zd_M_fewest_1 : decode zb_M_fewest 1 = .ok (.getfield 141, 3) ∧ 1 + 3 = 4 := ⟨by decide +kernel, rfl⟩
theorem zd_M_fewest_4 : decode zb_M_fewest 4 = .ok (.istore_n 2, 1) ∧ 4 + 1 = 5 := ⟨by decide +kernel, rfl⟩
theorem zd_M_fewest_5 : decode zb_M_fewest 5 = .ok (.iconst (-1), 1) ∧ 5 + 1 = 6 := ⟨by decide +kernel, rfl⟩
theorem zd_M_fewest_6 : decode zb_M_fewest 6 = .ok (.istore_n 3, 1) ∧ 6 + 1 = 7 := ⟨by decide +kernel, rfl⟩
theorem zd_M_fewest_7 : decode zb_M_fewest 7 = .ok (.iconst 0, 1) ∧ 7 + 1 = 8 := ⟨by decide +kernel, rfl⟩
theorem zd_M_fewest_8 : decode zb_M_fewest 8 = .ok (.istore 4, 2) ∧ 8 + 2 = 10 := ⟨by decide +kernel, rfl⟩
theorem zd_M_fewest_10 : decode zb_M_fewest 10 = .ok (.iload 4, 2) ∧ 10 + 2 = 12 := ⟨by decide +kernel, rfl⟩
theorem zd_M_fewest_12 : decode zb_M_fewest 12 = .ok (.iconst 1, 1) ∧ 12 + 1 = 13 := ⟨by decide +kernel, rfl⟩
theorem zd_M_fewest_13 : decode zb_M_fewest 13 = .ok (.aload_n 0, 1) ∧ 13 + 1 = 14 := ⟨by decide +kernel, rfl⟩
theorem zd_M_fewest_14 : decode zb_M_fewest 14 = .ok (.getfield 66, 3) ∧ 14 + 3 = 17 := ⟨by decide +kernel, rfl⟩
theorem zd_M_fewest_17 : decode zb_M_fewest 17 = .ok (.aload_n 0, 1) ∧ 17 + 1 = 18 := ⟨by decide +kernel, rfl⟩
theorem zd_M_fewest_18 : decode zb_M_fewest 18 = .ok (.getfield 51, 3) ∧ 18 + 3 = 21 := ⟨by decide +kernel, rfl⟩
theorem zd_M_fewest_21 : decode zb_M_fewest 21 = .ok (.iaload, 1) ∧ 21 + 1 = 22 := ⟨by decide +kernel, rfl⟩
theorem zd_M_fewest_22 : decode zb_M_fewest 22 = .ok (.ishl, 1) ∧ 22 + 1 = 23 := ⟨by decide +kernel, rfl⟩
theorem zd_M_fewest_23 : decode zb_M_fewest 23 = .ok (.if_icmp .ge 47, 3) ∧ ((23 : Nat) : Int) + (47) = ((70 : Nat) : Int) ∧ 23 + 3 = 26 := ⟨by decide +kernel, by decide, rfl⟩
theorem zd_M_fewest_26 : decode zb_M_fewest 26 = .ok (.iload_n 3, 1) ∧ 26 + 1 = 27 := ⟨by decide +kernel, rfl⟩
theorem zd_M_fewest_27 : decode zb_M_fewest 27 = .ok (.iconst (-1), 1) ∧ 27 + 1 = 28 := ⟨by decide +kernel, rfl⟩
theorem zd_M_fewest_28 : decode zb_M_fewest 28 = .ok (.if_icmp .eq 18, 3) ∧ ((28 : Nat) : Int) + (18) = ((46 : Nat) : Int) ∧ 28 + 3 = 31 := ⟨by decide +kernel, by decide, rfl⟩
theorem zd_M_fewest_31 : decode zb_M_fewest 31 = .ok (.iload 4, 2) ∧ 31 + 2 = 33 := ⟨by decide +kernel, rfl⟩
theorem zd_M_fewest_33 : decode zb_M_fewest 33 = .ok (.invokestatic 452, 3) ∧ 33 + 3 = 36 := ⟨by decide +kernel, rfl⟩
theorem zd_M_fewest_36 : decode zb_M_fewest 36 = .ok (.iload_n 3, 1) ∧ 36 + 1 = 37 := ⟨by decide +kernel, rfl⟩
theorem zd_M_fewest_37 : decode zb_M_fewest 37 = .ok (.invokestatic 452, 3) ∧ 37 + 3 = 40 := ⟨by decide +kernel, rfl⟩
theorem zd_M_fewest_40 : decode zb_M_fewest 40 = .ok (.if_icmp .lt 6, 3) ∧ ((40 : Nat) : Int) + (6) = ((46 : Nat) : Int) ∧ 40 + 3 = 43 := ⟨by decide +kernel, by decide, rfl⟩
theorem zd_M_fewest_43 : decode zb_M_fewest 43 = .ok (.goto 21, 3) ∧ ((43 : Nat) : Int) + (21) = ((64 : Nat) : Int) ∧ 43 + 3 = 46 := ⟨by decide +kernel, by decide, rfl⟩
theorem zd_M_fewest_46 : decode zb_M_fewest 46 = .ok (.aload_n 0, 1) ∧ 46 + 1 = 47 := ⟨by decide +kernel, rfl⟩
theorem zd_M_fewest_47 : decode zb_M_fewest 47 = .ok (.iload_n 2, 1) ∧ 47 + 1 = 48 := ⟨by decide +kernel, rfl⟩
theorem zd_M_fewest_48 : decode zb_M_fewest 48 = .ok (.iload 4, 2) ∧ 48 + 2 = 50 := ⟨by decide +kernel, rfl⟩
theorem zd_M_fewest_50 : decode zb_M_fewest 50 = .ok (.ixor, 1) ∧ 50 + 1 = 51 := ⟨by decide +kernel, rfl⟩
theorem zd_M_fewest_51 : decode zb_M_fewest 51 = .ok (.putfield 141, 3) ∧ 51 + 3 = 54 := ⟨by decide +kernel, rfl⟩
theorem zd_M_fewest_54 : decode zb_M_fewest 54 = .ok (.aload_n 0, 1) ∧ 54 + 1 = 55 := ⟨by decide +kernel, rfl⟩
theorem zd_M_fewest_55 : decode zb_M_fewest 55 = .ok (.invokevirtual 476, 3) ∧ 55 + 3 = 58 := ⟨by decide +kernel, rfl⟩
theorem zd_M_fewest_58 : decode zb_M_fewest 58 = .ok (.ifCond .eq 6, 3) ∧ ((58 : Nat) : Int) + (6) = ((64 : Nat) : Int) ∧ 58 + 3 = 61 := ⟨by decide +kernel, by decide, rfl⟩
theorem zd_M_fewest_61 : decode zb_M_fewest 61 = .ok (.iload 4, 2) ∧ 61 + 2 = 63 := ⟨by decide +kernel, rfl⟩
theorem zd_M_fewest_63 : decode zb_M_fewest 63 = .ok (.istore_n 3, 1) ∧ 63 + 1 = 64 := ⟨by decide +kernel, rfl⟩
theorem zd_M_fewest_64 : decode zb_M_fewest 64 = .ok (.iinc 4 1, 3) ∧ 64 + 3 = 67 := ⟨by decide +kernel, rfl⟩
theorem zd_M_fewest_67 : decode zb_M_fewest 67 = .ok (.goto (-57), 3) ∧ ((67 : Nat) : Int) + (-57) = ((10 : Nat) : Int) ∧ 67 + 3 = 70 := ⟨by decide +kernel, by decide, rfl⟩
theorem zd_M_fewest_70 : decode zb_M_fewest 70 = .ok (.aload_n 0, 1) ∧ 70 + 1 = 71 := ⟨by decide +kernel, rfl⟩
theorem zd_M_fewest_71 : decode zb_M_fewest 71 = .ok (.iload_n 2, 1) ∧ 71 + 1 = 72 := ⟨by decide +kernel, rfl⟩
theorem zd_M_fewest_72 : decode zb_M_fewest 72 = .ok (.putfield 141, 3) ∧ 72 + 3 = 75 := ⟨by decide +kernel, rfl⟩
theorem zd_M_fewest_75 : decode zb_M_fewest 75 = .ok (.iload_n 3, 1) ∧ 75 + 1 = 76 := ⟨by decide +kernel, rfl⟩
theorem zd_M_fewest_76 : decode zb_M_fewest 76 = .ok (.iconst (-1), 1) ∧ 76 + 1 = 77 := ⟨by decide +kernel, rfl⟩
theorem zd_M_fewest_77 : decode zb_M_fewest 77 = .ok (.if_icmp .eq 7, 3) ∧ ((77 : Nat) : Int) + (7) = ((84 : Nat) : Int) ∧ 77 + 3 = 80 := ⟨by decide +kernel, by decide, rfl⟩
theorem zd_M_fewest_80 : decode zb_M_fewest 80 = .ok (.iload_n 1, 1) ∧ 80 + 1 = 81 := ⟨by decide +kernel, rfl⟩
theorem zd_M_fewest_81 : decode zb_M_fewest 81 = .ok (.ifCond .eq 7, 3) ∧ ((81 : Nat) : Int) + (7) = ((88 : Nat) : Int) ∧ 81 + 3 = 84 := ⟨by decide +kernel, by decide, rfl⟩
theorem zd_M_fewest_84 : decode zb_M_fewest 84 = .ok (.iload_n 3, 1) ∧ 84 + 1 = 85 := ⟨by decide +kernel, rfl⟩
theorem zd_M_fewest_85 : decode zb_M_fewest 85 = .ok (.goto 7, 3) ∧ ((85 : Nat) : Int) + (7) = ((92 : Nat) : Int) ∧ 85 + 3 = 88 := ⟨by decide +kernel, by decide, rfl⟩
theorem zd_M_fewest_88 : decode zb_M_fewest 88 = .ok (.iload_n 3, 1) ∧ 88 + 1 = 89 := ⟨by decide +kernel, rfl⟩
theorem zd_M_fewest_89 : decode zb_M_fewest 89 = .ok (.invokestatic 452, 3) ∧ 89 + 3 = 92 := ⟨by decide +kernel, rfl⟩
theorem zd_M_fewest_92 : decode zb_M_fewest 92 = .ok (.ireturn, 1) ∧ 92 + 1 = 93 := ⟨by decide +kernel, rfl⟩
theorem zd_M_needed_0 : decode zb_M_needed 0 = .ok (.aload_n 0, 1) ∧ 0 + 1 = 1 := ⟨by decide +kernel, rfl⟩
theorem zd_M_needed_1 : decode zb_M_needed 1 = .ok (.iload_n 1, 1) ∧ 1 + 1 = 2 := ⟨by decide +kernel, rfl⟩
theorem zd_M_needed_2 : decode zb_M_needed 2 = .ok (.iload_n 2, 1) ∧ 2 + 1 = 3 := ⟨by decide +kernel, rfl⟩
theorem zd_M_needed_3 : decode zb_M_needed 3 = .ok (.invokevirtual 420, 3) ∧ 3 + 3 = 6 := ⟨by decide +kernel, rfl⟩
theorem zd_M_needed_6 : decode zb_M_needed 6 = .ok (.ifCond .eq 16, 3) ∧ ((6 : Nat) : Int) + (16) = ((22 : Nat) : Int) ∧ 6 + 3 = 9 := ⟨by decide +kernel, by decide, rfl⟩
theorem zd_M_needed_9 : decode zb_M_needed 9 = .ok (.aload_n 0, 1) ∧ 9 + 1 = 10 := ⟨by decide +kernel, rfl⟩
theorem zd_M_needed_10 : decode zb_M_needed 10 = .ok (.bipush 12, 2) ∧ 10 + 2 = 12 := ⟨by decide +kernel, rfl⟩
theorem zd_M_needed_12 : decode zb_M_needed 12 = .ok (.iload_n 2, 1) ∧ 12 + 1 = 13 := ⟨by decide +kernel, rfl⟩
theorem zd_M_needed_13 : decode zb_M_needed 13 = .ok (.imul, 1) ∧ 13 + 1 = 14 := ⟨by decide +kernel, rfl⟩
theorem zd_M_needed_14 : decode zb_M_needed 14 = .ok (.iload_n 1, 1) ∧ 14 + 1 = 15 := ⟨by decide +kernel, rfl⟩
theorem zd_M_needed_15 : decode zb_M_needed 15 = .ok (.iadd, 1) ∧ 15 + 1 = 16 := ⟨by decide +kernel, rfl⟩
theorem zd_M_needed_16 : decode zb_M_needed 16 = .ok (.invokevirtual 424, 3) ∧ 16 + 3 = 19 := ⟨by decide +kernel, rfl⟩
theorem zd_M_needed_19 : decode zb_M_needed 19 = .ok (.ifCond .ne 5, 3) ∧ ((19 : Nat) : Int) + (5) = ((24 : Nat) : Int) ∧ 19 + 3 = 22 := ⟨by decide +kernel, by decide, rfl⟩
theorem zd_M_needed_22 : decode zb_M_needed 22 = .ok (.iconst (-1), 1) ∧ 22 + 1 = 23 := ⟨by decide +kernel, rfl⟩
theorem zd_M_needed_23 : decode zb_M_needed 23 = .ok (.ireturn, 1) ∧ 23 + 1 = 24 := ⟨by decide +kernel, rfl⟩
theorem zd_M_needed_24 : decode zb_M_needed 24 = .ok (.aload_n 0, 1) ∧ 24 + 1 = 25 := ⟨by decide +kernel, rfl⟩
theorem zd_M_needed_25 : decode zb_M_needed 25 = .ok (.invokevirtual 473, 3) ∧ 25 + 3 = 28 := ⟨by decide +kernel, rfl⟩
theorem zd_M_needed_28 : decode zb_M_needed 28 = .ok (.istore_n 3, 1) ∧ 28 + 1 = 29 := ⟨by decide +kernel, rfl⟩
theorem zd_M_needed_29 : decode zb_M_needed 29 = .ok (.aload_n 0, 1) ∧ 29 + 1 = 30 := ⟨by decide +kernel, rfl⟩
theorem zd_M_needed_30 : decode zb_M_needed 30 = .ok (.bipush 12, 2) ∧ 30 + 2 = 32 := ⟨by decide +kernel, rfl⟩
theorem zd_M_needed_32 : decode zb_M_needed 32 = .ok (.iload_n 2, 1) ∧ 32 + 1 = 33 := ⟨by decide +kernel, rfl⟩
theorem zd_M_needed_33 : decode zb_M_needed 33 = .ok (.imul, 1) ∧ 33 + 1 = 34 := ⟨by decide +kernel, rfl⟩
theorem zd_M_needed_34 : decode zb_M_needed 34 = .ok (.iload_n 1, 1) ∧ 34 + 1 = 35 := ⟨by decide +kernel, rfl⟩
theorem zd_M_needed_35 : decode zb_M_needed 35 = .ok (.iadd, 1) ∧ 35 + 1 = 36 := ⟨by decide +kernel, rfl⟩
theorem zd_M_needed_36 : decode zb_M_needed 36 = .ok (.putfield 150, 3) ∧ 36 + 3 = 39 := ⟨by decide +kernel, rfl⟩
theorem zd_M_needed_39 : decode zb_M_needed 39 = .ok (.aload_n 0, 1) ∧ 39 + 1 = 40 := ⟨by decide +kernel, rfl⟩
theorem zd_M_needed_40 : decode zb_M_needed 40 = .ok (.invokevirtual 473, 3) ∧ 40 + 3 = 43 := ⟨by decide +kernel, rfl⟩
theorem zd_M_needed_43 : decode zb_M_needed 43 = .ok (.istore 4, 2) ∧ 43 + 2 = 45 := ⟨by decide +kernel, rfl⟩
theorem zd_M_needed_45 : decode zb_M_needed 45 = .ok (.aload_n 0, 1) ∧ 45 + 1 = 46 := ⟨by decide +kernel, rfl⟩
theorem zd_M_needed_46 : decode zb_M_needed 46 = .ok (.iconst (-1), 1) ∧ 46 + 1 = 47 := ⟨by decide +kernel, rfl⟩
theorem zd_M_needed_47 : decode zb_M_needed 47 = .ok (.putfield 150, 3) ∧ 47 + 3 = 50 := ⟨by decide +kernel, rfl⟩
theorem zd_M_needed_50 : decode zb_M_needed 50 = .ok (.iload_n 3, 1) ∧ 50 + 1 = 51 := ⟨by decide +kernel, rfl⟩
theorem zd_M_needed_51 : decode zb_M_needed 51 = .ok (.iconst (-1), 1) ∧ 51 + 1 = 52 := ⟨by decide +kernel, rfl⟩
theorem zd_M_needed_52 : decode zb_M_needed 52 = .ok (.if_icmp .ne 11, 3) ∧ ((52 : Nat) : Int) + (11) = ((63 : Nat) : Int) ∧ 52 + 3 = 55 := ⟨by decide +kernel, by decide, rfl⟩
theorem zd_M_needed_55 : decode zb_M_needed 55 = .ok (.iload 4, 2) ∧ 55 + 2 = 57 := ⟨by decide +kernel, rfl⟩
theorem zd_M_needed_57 : decode zb_M_needed 57 = .ok (.iconst (-1), 1) ∧ 57 + 1 = 58 := ⟨by decide +kernel, rfl⟩
theorem zd_M_needed_58 : decode zb_M_needed 58 = .ok (.if_icmp .ne 5, 3) ∧ ((58 : Nat) : Int) + (5) = ((63 : Nat) : Int) ∧ 58 + 3 = 61 := ⟨by decide +kernel, by decide, rfl⟩
theorem zd_M_needed_61 : decode zb_M_needed 61 = .ok (.iconst 0, 1) ∧ 61 + 1 = 62 := ⟨by decide +kernel, rfl⟩
theorem zd_M_needed_62 : decode zb_M_needed 62 = .ok (.ireturn, 1) ∧ 62 + 1 = 63 := ⟨by decide +kernel, rfl⟩
theorem zd_M_needed_63 : decode zb_M_needed 63 = .ok (.iload_n 3, 1) ∧ 63 + 1 = 64 := ⟨by decide +kernel, rfl⟩
theorem zd_M_needed_64 : decode zb_M_needed 64 = .ok (.iconst (-1), 1) ∧ 64 + 1 = 65 := ⟨by decide +kernel, rfl⟩
theorem zd_M_needed_65 : decode zb_M_needed 65 = .ok (.if_icmp .eq 9, 3) ∧ ((65 : Nat) : Int) + (9) = ((74 : Nat) : Int) ∧ 65 + 3 = 68 := ⟨by decide +kernel, by decide, rfl⟩
theorem zd_M_needed_68 : decode zb_M_needed 68 = .ok (.iload 4, 2) ∧ 68 + 2 = 70 := ⟨by decide +kernel, rfl⟩
theorem zd_M_needed_70 : decode zb_M_needed 70 = .ok (.iconst (-1), 1) ∧ 70 + 1 = 71 := ⟨by decide +kernel, rfl⟩
theorem zd_M_needed_71 : decode zb_M_needed 71 = .ok (.if_icmp .ne 19, 3) ∧ ((71 : Nat) : Int) + (19) = ((90 : Nat) : Int) ∧ 71 + 3 = 74 := ⟨by decide +kernel, by decide, rfl⟩
theorem zd_M_needed_74 : decode zb_M_needed 74 = .ok (.iconst 1, 1) ∧ 74 + 1 = 75 := ⟨by decide +kernel, rfl⟩
theorem zd_M_needed_75 : decode zb_M_needed 75 = .ok (.aload_n 0, 1) ∧ 75 + 1 = 76 := ⟨by decide +kernel, rfl⟩
theorem zd_M_needed_76 : decode zb_M_needed 76 = .ok (.getfield 72, 3) ∧ 76 + 3 = 79 := ⟨by decide +kernel, rfl⟩
theorem zd_M_needed_79 : decode zb_M_needed 79 = .ok (.aload_n 0, 1) ∧ 79 + 1 = 80 := ⟨by decide +kernel, rfl⟩
theorem zd_M_needed_80 : decode zb_M_needed 80 = .ok (.getfield 51, 3) ∧ 80 + 3 = 83 := ⟨by decide +kernel, rfl⟩
theorem zd_M_needed_83 : decode zb_M_needed 83 = .ok (.iaload, 1) ∧ 83 + 1 = 84 := ⟨by decide +kernel, rfl⟩
theorem zd_M_needed_84 : decode zb_M_needed 84 = .ok (.ishl, 1) ∧ 84 + 1 = 85 := ⟨by decide +kernel, rfl⟩
theorem zd_M_needed_85 : decode zb_M_needed 85 = .ok (.iconst 1, 1) ∧ 85 + 1 = 86 := ⟨by decide +kernel, rfl⟩
theorem zd_M_needed_86 : decode zb_M_needed 86 = .ok (.isub, 1) ∧ 86 + 1 = 87 := ⟨by decide +kernel, rfl⟩
theorem zd_M_needed_87 : decode zb_M_needed 87 = .ok (.goto 7, 3) ∧ ((87 : Nat) : Int) + (7) = ((94 : Nat) : Int) ∧ 87 + 3 = 90 := ⟨by decide +kernel, by decide, rfl⟩
theorem zd_M_needed_90 : decode zb_M_needed 90 = .ok (.iload_n 3, 1) ∧ 90 + 1 = 91 := ⟨by decide +kernel, rfl⟩
theorem zd_M_needed_91 : decode zb_M_needed 91 = .ok (.iload 4, 2) ∧ 91 + 2 = 93 := ⟨by decide +kernel, rfl⟩
theorem zd_M_needed_93 : decode zb_M_needed 93 = .ok (.ixor, 1) ∧ 93 + 1 = 94 := ⟨by decide +kernel, rfl⟩
theorem zd_M_needed_94 : decode zb_M_needed 94 = .ok (.ireturn, 1) ∧ 94 + 1 = 95 := ⟨by decide +kernel, rfl⟩
theorem zd_M_isEmpty_0 : decode zb_M_isEmpty 0 = .ok (.aload_n 0, 1) ∧ 0 + 1 = 1 := ⟨by decide +kernel, rfl⟩
theorem zd_M_isEmpty_1 : decode zb_M_isEmpty 1 = .ok (.iload_n 1, 1) ∧ 1 + 1 = 2 := ⟨by decide +kernel, rfl⟩
theorem zd_M_isEmpty_2 : decode zb_M_isEmpty 2 = .ok (.iload_n 2, 1) ∧ 2 + 1 = 3 := ⟨by decide +kernel, rfl⟩
theorem zd_M_isEmpty_3 : decode zb_M_isEmpty 3 = .ok (.invokevirtual 420, 3) ∧ 3 + 3 = 6 := ⟨by decide +kernel, rfl⟩
theorem zd_M_isEmpty_6 : decode zb_M_isEmpty 6 = .ok (.ifCond .eq 20, 3) ∧ ((6 : Nat) : Int) + (20) = ((26 : Nat) : Int) ∧ 6 + 3 = 9 := ⟨by decide +kernel, by decide, rfl⟩
theorem zd_M_isEmpty_9 : decode zb_M_isEmpty 9 = .ok (.aload_n 0, 1) ∧ 9 + 1 = 10 := ⟨by decide +kernel, rfl⟩
theorem zd_M_isEmpty_10 : decode zb_M_isEmpty 10 = .ok (.bipush 12, 2) ∧ 10 + 2 = 12 := ⟨by decide +kernel, rfl⟩
theorem zd_M_isEmpty_12 : decode zb_M_isEmpty 12 = .ok (.iload_n 2, 1) ∧ 12 + 1 = 13 := ⟨by decide +kernel, rfl⟩
theorem zd_M_isEmpty_13 : decode zb_M_isEmpty 13 = .ok (.imul, 1) ∧ 13 + 1 = 14 := ⟨by decide +kernel, rfl⟩
theorem zd_M_isEmpty_14 : decode zb_M_isEmpty 14 = .ok (.iload_n 1, 1) ∧ 14 + 1 = 15 := ⟨by decide +kernel, rfl⟩
theorem zd_M_isEmpty_15 : decode zb_M_isEmpty 15 = .ok (.iadd, 1) ∧ 15 + 1 = 16 := ⟨by decide +kernel, rfl⟩
theorem zd_M_isEmpty_16 : decode zb_M_isEmpty 16 = .ok (.invokevirtual 424, 3) ∧ 16 + 3 = 19 := ⟨by decide +kernel, rfl⟩
theorem zd_M_isEmpty_19 : decode zb_M_isEmpty 19 = .ok (.ifCond .ne 7, 3) ∧ ((19 : Nat) : Int) + (7) = ((26 : Nat) : Int) ∧ 19 + 3 = 22 := ⟨by decide +kernel, by decide, rfl⟩
theorem zd_M_isEmpty_22 : decode zb_M_isEmpty 22 = .ok (.iconst 1, 1) ∧ 22 + 1 = 23 := ⟨by decide +kernel, rfl⟩
theorem zd_M_isEmpty_23 : decode zb_M_isEmpty 23 = .ok (.goto 4, 3) ∧ ((23 : Nat) : Int) + (4) = ((27 : Nat) : Int) ∧ 23 + 3 = 26 := ⟨by decide +kernel, by decide, rfl⟩
theorem zd_M_isEmpty_26 : decode zb_M_isEmpty 26 = .ok (.iconst 0, 1) ∧ 26 + 1 = 27 := ⟨by decide +kernel, rfl⟩
theorem zd_M_isEmpty_27 : decode zb_M_isEmpty 27 = .ok (.ireturn, 1) ∧ 27 + 1 = 28 := ⟨by decide +kernel, rfl⟩
theorem zd_M_shadowOf_0 : decode zb_M_shadowOf 0 = .ok (.aload_n 0, 1) ∧ 0 + 1 = 1 := ⟨by decide +kernel, rfl⟩
theorem zd_M_shadowOf_1 : decode zb_M_shadowOf 1 = .ok (.iload_n 1, 1) ∧ 1 + 1 = 2 := ⟨by decide +kernel, rfl⟩
theorem zd_M_shadowOf_2 : decode zb_M_shadowOf 2 = .ok (.putfield 153, 3) ∧ 2 + 3 = 5 := ⟨by decide +kernel, rfl⟩
theorem zd_M_shadowOf_5 : decode zb_M_shadowOf 5 = .ok (.aload_n 0, 1) ∧ 5 + 1 = 6 := ⟨by decide +kernel, rfl⟩
theorem zd_M_shadowOf_6 : decode zb_M_shadowOf 6 = .ok (.bipush 6, 2) ∧ 6 + 2 = 8 := ⟨by decide +kernel, rfl⟩
theorem zd_M_shadowOf_8 : decode zb_M_shadowOf 8 = .ok (.putfield 156, 3) ∧ 8 + 3 = 11 := ⟨by decide +kernel, rfl⟩
theorem zd_M_shadowOf_11 : decode zb_M_shadowOf 11 = .ok (.aload_n 0, 1) ∧ 11 + 1 = 12 := ⟨by decide +kernel, rfl⟩
theorem zd_M_shadowOf_12 : decode zb_M_shadowOf 12 = .ok (.iconst (-1), 1) ∧ 12 + 1 = 13 := ⟨by decide +kernel, rfl⟩
theorem zd_M_shadowOf_13 : decode zb_M_shadowOf 13 = .ok (.putfield 159, 3) ∧ 13 + 3 = 16 := ⟨by decide +kernel, rfl⟩
theorem zd_M_shadowOf_16 : decode zb_M_shadowOf 16 = .ok (.aload_n 0, 1) ∧ 16 + 1 = 17 := ⟨by decide +kernel, rfl⟩
theorem zd_M_shadowOf_17 : decode zb_M_shadowOf 17 = .ok (.invokevirtual 473, 3) ∧ 17 + 3 = 20 := ⟨by decide +kernel, rfl⟩
theorem zd_M_shadowOf_20 : decode zb_M_shadowOf 20 = .ok (.istore_n 3, 1) ∧ 20 + 1 = 21 := ⟨by decide +kernel, rfl⟩
theorem zd_M_shadowOf_21 : decode zb_M_shadowOf 21 = .ok (.aload_n 0, 1) ∧ 21 + 1 = 22 := ⟨by decide +kernel, rfl⟩
theorem zd_M_shadowOf_22 : decode zb_M_shadowOf 22 = .ok (.iconst (-1), 1) ∧ 22 + 1 = 23 := ⟨by decide +kernel, rfl⟩
theorem zd_M_shadowOf_23 : decode zb_M_shadowOf 23 = .ok (.putfield 153, 3) ∧ 23 + 3 = 26 := ⟨by decide +kernel, rfl⟩
theorem zd_M_shadowOf_26 : decode zb_M_shadowOf 26 = .ok (.iload_n 3, 1) ∧ 26 + 1 = 27 := ⟨by decide +kernel, rfl⟩
theorem zd_M_shadowOf_27 : decode zb_M_shadowOf 27 = .ok (.iconst (-1), 1) ∧ 27 + 1 = 28 := ⟨by decide +kernel, rfl⟩
theorem zd_M_shadowOf_28 : decode zb_M_shadowOf 28 = .ok (.if_icmp .eq 8, 3) ∧ ((28 : Nat) : Int) + (8) = ((36 : Nat) : Int) ∧ 28 + 3 = 31 := ⟨by decide +kernel, by decide, rfl⟩
theorem zd_M_shadowOf_31 : decode zb_M_shadowOf 31 = .ok (.iload_n 2, 1) ∧ 31 + 1 = 32 := ⟨by decide +kernel, rfl⟩
theorem zd_M_shadowOf_32 : decode zb_M_shadowOf 32 = .ok (.iconst (-1), 1) ∧ 32 + 1 = 33 := ⟨by decide +kernel, rfl⟩
theorem zd_M_shadowOf_33 : decode zb_M_shadowOf 33 = .ok (.if_icmp .ne 7, 3) ∧ ((33 : Nat) : Int) + (7) = ((40 : Nat) : Int) ∧ 33 + 3 = 36 := ⟨by decide +kernel, by decide, rfl⟩
theorem zd_M_shadowOf_36 : decode zb_M_shadowOf 36 = .ok (.iconst 0, 1) ∧ 36 + 1 = 37 := ⟨by decide +kernel, rfl⟩
theorem zd_M_shadowOf_37 : decode zb_M_shadowOf 37 = .ok (.goto 11, 3) ∧ ((37 : Nat) : Int) + (11) = ((48 : Nat) : Int) ∧ 37 + 3 = 40 := ⟨by decide +kernel, by decide, rfl⟩
theorem zd_M_shadowOf_40 : decode zb_M_shadowOf 40 = .ok (.iload_n 2, 1) ∧ 40 + 1 = 41 := ⟨by decide +kernel, rfl⟩
theorem zd_M_shadowOf_41 : decode zb_M_shadowOf 41 = .ok (.iload_n 3, 1) ∧ 41 + 1 = 42 := ⟨by decide +kernel, rfl⟩
theorem zd_M_shadowOf_42 : decode zb_M_shadowOf 42 = .ok (.iconst (-1), 1) ∧ 42 + 1 = 43 := ⟨by decide +kernel, rfl⟩
theorem zd_M_shadowOf_43 : decode zb_M_shadowOf 43 = .ok (.ixor, 1) ∧ 43 + 1 = 44 := ⟨by decide +kernel, rfl⟩
theorem zd_M_shadowOf_44 : decode zb_M_shadowOf 44 = .ok (.iand, 1) ∧ 44 + 1 = 45 := ⟨by decide +kernel, rfl⟩
theorem zd_M_shadowOf_45 : decode zb_M_shadowOf 45 = .ok (.invokestatic 452, 3) ∧ 45 + 3 = 48 := ⟨by decide +kernel, rfl⟩
theorem zd_M_shadowOf_48 : decode zb_M_shadowOf 48 = .ok (.ireturn, 1) ∧ 48 + 1 = 49 := ⟨by decide +kernel, rfl⟩
theorem zd_M_shadow_0 : decode zb_M_shadow 0 = .ok (.aload_n 0, 1) ∧ 0 + 1 = 1 := ⟨by decide +kernel, rfl⟩
theorem zd_M_shadow_1 : decode zb_M_shadow 1 = .ok (.iload_n 1, 1) ∧ 1 + 1 = 2 := ⟨by decide +kernel, rfl⟩
theorem zd_M_shadow_2 : decode zb_M_shadow 2 = .ok (.iload_n 2, 1) ∧ 2 + 1 = 3 := ⟨by decide +kernel, rfl⟩
theorem zd_M_shadow_3 : decode zb_M_shadow 3 = .ok (.invokevirtual 479, 3) ∧ 3 + 3 = 6 := ⟨by decide +kernel, rfl⟩
theorem zd_M_shadow_6 : decode zb_M_shadow 6 = .ok (.ifCond .eq 20, 3) ∧ ((6 : Nat) : Int) + (20) = ((26 : Nat) : Int) ∧ 6 + 3 = 9 := ⟨by decide +kernel, by decide, rfl⟩
theorem zd_M_shadow_9 : decode zb_M_shadow 9 = .ok (.aload_n 0, 1) ∧ 9 + 1 = 10 := ⟨by decide +kernel, rfl⟩
theorem zd_M_shadow_10 : decode zb_M_shadow 10 = .ok (.bipush 12, 2) ∧ 10 + 2 = 12 := ⟨by decide +kernel, rfl⟩
theorem zd_M_shadow_12 : decode zb_M_shadow 12 = .ok (.iload_n 2, 1) ∧ 12 + 1 = 13 := ⟨by decide +kernel, rfl⟩
theorem zd_M_shadow_13 : decode zb_M_shadow 13 = .ok (.imul, 1) ∧ 13 + 1 = 14 := ⟨by decide +kernel, rfl⟩
theorem zd_M_shadow_14 : decode zb_M_shadow 14 = .ok (.iload_n 1, 1) ∧ 14 + 1 = 15 := ⟨by decide +kernel, rfl⟩
theorem zd_M_shadow_15 : decode zb_M_shadow 15 = .ok (.iadd, 1) ∧ 15 + 1 = 16 := ⟨by decide +kernel, rfl⟩
theorem zd_M_shadow_16 : decode zb_M_shadow 16 = .ok (.aload_n 0, 1) ∧ 16 + 1 = 17 := ⟨by decide +kernel, rfl⟩
theorem zd_M_shadow_17 : decode zb_M_shadow 17 = .ok (.invokevirtual 473, 3) ∧ 17 + 3 = 20 := ⟨by decide +kernel, rfl⟩
theorem zd_M_shadow_20 : decode zb_M_shadow 20 = .ok (.invokevirtual 482, 3) ∧ 20 + 3 = 23 := ⟨by decide +kernel, rfl⟩
theorem zd_M_shadow_23 : decode zb_M_shadow 23 = .ok (.goto 4, 3) ∧ ((23 : Nat) : Int) + (4) = ((27 : Nat) : Int) ∧ 23 + 3 = 26 := ⟨by decide +kernel, by decide, rfl⟩
theorem zd_M_shadow_26 : decode zb_M_shadow 26 = .ok (.iconst (-1), 1) ∧ 26 + 1 = 27 := ⟨by decide +kernel, rfl⟩
theorem zd_M_shadow_27 : decode zb_M_shadow 27 = .ok (.ireturn, 1) ∧ 27 + 1 = 28 := ⟨by decide +kernel, rfl⟩
theorem zd_M_darkest_0 : decode zb_M_darkest 0 = .ok (.iload_n 1, 1) ∧ 0 + 1 = 1 := ⟨by decide +kernel, rfl⟩
theorem zd_M_darkest_1 : decode zb_M_darkest 1 = .ok (.iconst 0, 1) ∧ 1 + 1 = 2 := ⟨by decide +kernel, rfl⟩
theorem zd_M_darkest_2 : decode zb_M_darkest 2 = .ok (.iconst 2, 1) ∧ 2 + 1 = 3 := ⟨by decide +kernel, rfl⟩
theorem zd_M_darkest_3 : decode zb_M_darkest 3 = .ok (.invokestatic 320, 3) ∧ 3 + 3 = 6 := ⟨by decide +kernel, rfl⟩
theorem zd_M_darkest_6 : decode zb_M_darkest 6 = .ok (.ifCond .ne 5, 3) ∧ ((6 : Nat) : Int) + (5) = ((11 : Nat) : Int) ∧ 6 + 3 = 9 := ⟨by decide +kernel, by decide, rfl⟩
theorem zd_M_darkest_9 : decode zb_M_darkest 9 = .ok (.iconst (-1), 1) ∧ 9 + 1 = 10 := ⟨by decide +kernel, rfl⟩
theorem zd_M_darkest_10 : decode zb_M_darkest 10 = .ok (.ireturn, 1) ∧ 10 + 1 = 11 := ⟨by decide +kernel, rfl⟩
theorem zd_M_darkest_11 : decode zb_M_darkest 11 = .ok (.aload_n 0, 1) ∧ 11 + 1 = 12 := ⟨by decide +kernel, rfl⟩
theorem zd_M_darkest_12 : decode zb_M_darkest 12 = .ok (.invokevirtual 473, 3) ∧ 12 + 3 = 15 := ⟨by decide +kernel, rfl⟩
theorem zd_M_darkest_15 : decode zb_M_darkest 15 = .ok (.istore_n 2, 1) ∧ 15 + 1 = 16 := ⟨by decide +kernel, rfl⟩
theorem zd_M_darkest_16 : decode zb_M_darkest 16 = .ok (.iconst (-1), 1) ∧ 16 + 1 = 17 := ⟨by decide +kernel, rfl⟩
theorem zd_M_darkest_17 : decode zb_M_darkest 17 = .ok (.istore_n 3, 1) ∧ 17 + 1 = 18 := ⟨by decide +kernel, rfl⟩
theorem zd_M_darkest_18 : decode zb_M_darkest 18 = .ok (.iconst (-1), 1) ∧ 18 + 1 = 19 := ⟨by decide +kernel, rfl⟩
theorem zd_M_darkest_19 : decode zb_M_darkest 19 = .ok (.istore 4, 2) ∧ 19 + 2 = 21 := ⟨by decide +kernel, rfl⟩
theorem zd_M_darkest_21 : decode zb_M_darkest 21 = .ok (.iconst 0, 1) ∧ 21 + 1 = 22 := ⟨by decide +kernel, rfl⟩
theorem zd_M_darkest_22 : decode zb_M_darkest 22 = .ok (.istore 5, 2) ∧ 22 + 2 = 24 := ⟨by decide +kernel, rfl⟩
theorem zd_M_darkest_24 : decode zb_M_darkest 24 = .ok (.iload 5, 2) ∧ 24 + 2 = 26 := ⟨by decide +kernel, rfl⟩
theorem zd_M_darkest_26 : decode zb_M_darkest 26 = .ok (.aload_n 0, 1) ∧ 26 + 1 = 27 := ⟨by decide +kernel, rfl⟩
theorem zd_M_darkest_27 : decode zb_M_darkest 27 = .ok (.getfield 57, 3) ∧ 27 + 3 = 30 := ⟨by decide +kernel, rfl⟩
theorem zd_M_darkest_30 : decode zb_M_darkest 30 = .ok (.aload_n 0, 1) ∧ 30 + 1 = 31 := ⟨by decide +kernel, rfl⟩
theorem zd_M_darkest_31 : decode zb_M_darkest 31 = .ok (.getfield 51, 3) ∧ 31 + 3 = 34 := ⟨by decide +kernel, rfl⟩
theorem zd_M_darkest_34 : decode zb_M_darkest 34 = .ok (.iaload, 1) ∧ 34 + 1 = 35 := ⟨by decide +kernel, rfl⟩
theorem zd_M_darkest_35 : decode zb_M_darkest 35 = .ok (.if_icmp .ge 84, 3) ∧ ((35 : Nat) : Int) + (84) = ((119 : Nat) : Int) ∧ 35 + 3 = 38 := ⟨by decide +kernel, by decide, rfl⟩
theorem zd_M_darkest_38 : decode zb_M_darkest 38 = .ok (.iconst 0, 1) ∧ 38 + 1 = 39 := ⟨by decide +kernel, rfl⟩
theorem zd_M_darkest_39 : decode zb_M_darkest 39 = .ok (.istore 6, 2) ∧ 39 + 2 = 41 := ⟨by decide +kernel, rfl⟩
theorem zd_M_darkest_41 : decode zb_M_darkest 41 = .ok (.iload 6, 2) ∧ 41 + 2 = 43 := ⟨by decide +kernel, rfl⟩
theorem zd_M_darkest_43 : decode zb_M_darkest 43 = .ok (.aload_n 0, 1) ∧ 43 + 1 = 44 := ⟨by decide +kernel, rfl⟩
theorem zd_M_darkest_44 : decode zb_M_darkest 44 = .ok (.getfield 54, 3) ∧ 44 + 3 = 47 := ⟨by decide +kernel, rfl⟩
theorem zd_M_darkest_47 : decode zb_M_darkest 47 = .ok (.aload_n 0, 1) ∧ 47 + 1 = 48 := ⟨by decide +kernel, rfl⟩
theorem zd_M_darkest_48 : decode zb_M_darkest 48 = .ok (.getfield 51, 3) ∧ 48 + 3 = 51 := ⟨by decide +kernel, rfl⟩
theorem zd_M_darkest_51 : decode zb_M_darkest 51 = .ok (.iaload, 1) ∧ 51 + 1 = 52 := ⟨by decide +kernel, rfl⟩
theorem zd_M_darkest_52 : decode zb_M_darkest 52 = .ok (.if_icmp .ge 61, 3) ∧ ((52 : Nat) : Int) + (61) = ((113 : Nat) : Int) ∧ 52 + 3 = 55 := ⟨by decide +kernel, by decide, rfl⟩
theorem zd_M_darkest_55 : decode zb_M_darkest 55 = .ok (.aload_n 0, 1) ∧ 55 + 1 = 56 := ⟨by decide +kernel, rfl⟩
theorem zd_M_darkest_56 : decode zb_M_darkest 56 = .ok (.iload 6, 2) ∧ 56 + 2 = 58 := ⟨by decide +kernel, rfl⟩
theorem zd_M_darkest_58 : decode zb_M_darkest 58 = .ok (.iload 5, 2) ∧ 58 + 2 = 60 := ⟨by decide +kernel, rfl⟩
theorem zd_M_darkest_60 : decode zb_M_darkest 60 = .ok (.invokevirtual 479, 3) ∧ 60 + 3 = 63 := ⟨by decide +kernel, rfl⟩
theorem zd_M_darkest_63 : decode zb_M_darkest 63 = .ok (.ifCond .eq 19, 3) ∧ ((63 : Nat) : Int) + (19) = ((82 : Nat) : Int) ∧ 63 + 3 = 66 := ⟨by decide +kernel, by decide, rfl⟩
theorem zd_M_darkest_66 : decode zb_M_darkest 66 = .ok (.aload_n 0, 1) ∧ 66 + 1 = 67 := ⟨by decide +kernel, rfl⟩
theorem zd_M_darkest_67 : decode zb_M_darkest 67 = .ok (.bipush 12, 2) ∧ 67 + 2 = 69 := ⟨by decide +kernel, rfl⟩
theorem zd_M_darkest_69 : decode zb_M_darkest 69 = .ok (.iload 5, 2) ∧ 69 + 2 = 71 := ⟨by decide +kernel, rfl⟩
theorem zd_M_darkest_71 : decode zb_M_darkest 71 = .ok (.imul, 1) ∧ 71 + 1 = 72 := ⟨by decide +kernel, rfl⟩
theorem zd_M_darkest_72 : decode zb_M_darkest 72 = .ok (.iload 6, 2) ∧ 72 + 2 = 74 := ⟨by decide +kernel, rfl⟩
theorem zd_M_darkest_74 : decode zb_M_darkest 74 = .ok (.iadd, 1) ∧ 74 + 1 = 75 := ⟨by decide +kernel, rfl⟩
theorem zd_M_darkest_75 : decode zb_M_darkest 75 = .ok (.iload_n 2, 1) ∧ 75 + 1 = 76 := ⟨by decide +kernel, rfl⟩
theorem zd_M_darkest_76 : decode zb_M_darkest 76 = .ok (.invokevirtual 482, 3) ∧ 76 + 3 = 79 := ⟨by decide +kernel, rfl⟩
theorem zd_M_darkest_79 : decode zb_M_darkest 79 = .ok (.goto 4, 3) ∧ ((79 : Nat) : Int) + (4) = ((83 : Nat) : Int) ∧ 79 + 3 = 82 := ⟨by decide +kernel, by decide, rfl⟩
theorem zd_M_darkest_82 : decode zb_M_darkest 82 = .ok (.iconst (-1), 1) ∧ 82 + 1 = 83 := ⟨by decide +kernel, rfl⟩
theorem zd_M_darkest_83 : decode zb_M_darkest 83 = .ok (.istore 7, 2) ∧ 83 + 2 = 85 := ⟨by decide +kernel, rfl⟩
theorem zd_M_darkest_85 : decode zb_M_darkest 85 = .ok (.iload 7, 2) ∧ 85 + 2 = 87 := ⟨by decide +kernel, rfl⟩
theorem zd_M_darkest_87 : decode zb_M_darkest 87 = .ok (.iload_n 3, 1) ∧ 87 + 1 = 88 := ⟨by decide +kernel, rfl⟩
theorem zd_M_darkest_88 : decode zb_M_darkest 88 = .ok (.if_icmp .gt 6, 3) ∧ ((88 : Nat) : Int) + (6) = ((94 : Nat) : Int) ∧ 88 + 3 = 91 := ⟨by decide +kernel, by decide, rfl⟩
theorem zd_M_darkest_91 : decode zb_M_darkest 91 = .ok (.goto 16, 3) ∧ ((91 : Nat) : Int) + (16) = ((107 : Nat) : Int) ∧ 91 + 3 = 94 := ⟨by decide +kernel, by decide, rfl⟩
theorem zd_M_darkest_94 : decode zb_M_darkest 94 = .ok (.iload 7, 2) ∧ 94 + 2 = 96 := ⟨by decide +kernel, rfl⟩
theorem zd_M_darkest_96 : decode zb_M_darkest 96 = .ok (.istore_n 3, 1) ∧ 96 + 1 = 97 := ⟨by decide +kernel, rfl⟩
theorem zd_M_darkest_97 : decode zb_M_darkest 97 = .ok (.bipush 12, 2) ∧ 97 + 2 = 99 := ⟨by decide +kernel, rfl⟩
theorem zd_M_darkest_99 : decode zb_M_darkest 99 = .ok (.iload 5, 2) ∧ 99 + 2 = 101 := ⟨by decide +kernel, rfl⟩
theorem zd_M_darkest_101 : decode zb_M_darkest 101 = .ok (.imul, 1) ∧ 101 + 1 = 102 := ⟨by decide +kernel, rfl⟩
theorem zd_M_darkest_102 : decode zb_M_darkest 102 = .ok (.iload 6, 2) ∧ 102 + 2 = 104 := ⟨by decide +kernel, rfl⟩
theorem zd_M_darkest_104 : decode zb_M_darkest 104 = .ok (.iadd, 1) ∧ 104 + 1 = 105 := ⟨by decide +kernel, rfl⟩
theorem zd_M_darkest_105 : decode zb_M_darkest 105 = .ok (.istore 4, 2) ∧ 105 + 2 = 107 := ⟨by decide +kernel, rfl⟩
theorem zd_M_darkest_107 : decode zb_M_darkest 107 = .ok (.iinc 6 1, 3) ∧ 107 + 3 = 110 := ⟨by decide +kernel, rfl⟩
theorem zd_M_darkest_110 : decode zb_M_darkest 110 = .ok (.goto (-69), 3) ∧ ((110 : Nat) : Int) + (-69) = ((41 : Nat) : Int) ∧ 110 + 3 = 113 := ⟨by decide +kernel, by decide, rfl⟩
theorem zd_M_darkest_113 : decode zb_M_darkest 113 = .ok (.iinc 5 1, 3) ∧ 113 + 3 = 116 := ⟨by decide +kernel, rfl⟩
theorem zd_M_darkest_116 : decode zb_M_darkest 116 = .ok (.goto (-92), 3) ∧ ((116 : Nat) : Int) + (-92) = ((24 : Nat) : Int) ∧ 116 + 3 = 119 := ⟨by decide +kernel, by decide, rfl⟩
theorem zd_M_darkest_119 : decode zb_M_darkest 119 = .ok (.iload 4, 2) ∧ 119 + 2 = 121 := ⟨by decide +kernel, rfl⟩
theorem zd_M_darkest_121 : decode zb_M_darkest 121 = .ok (.iconst (-1), 1) ∧ 121 + 1 = 122 := ⟨by decide +kernel, rfl⟩
theorem zd_M_darkest_122 : decode zb_M_darkest 122 = .ok (.if_icmp .ne 7, 3) ∧ ((122 : Nat) : Int) + (7) = ((129 : Nat) : Int) ∧ 122 + 3 = 125 := ⟨by decide +kernel, by decide, rfl⟩
theorem zd_M_darkest_125 : decode zb_M_darkest 125 = .ok (.iconst (-1), 1) ∧ 125 + 1 = 126 := ⟨by decide +kernel, rfl⟩
theorem zd_M_darkest_126 : decode zb_M_darkest 126 = .ok (.goto 29, 3) ∧ ((126 : Nat) : Int) + (29) = ((155 : Nat) : Int) ∧ 126 + 3 = 129 := ⟨by decide +kernel, by decide, rfl⟩
theorem zd_M_darkest_129 : decode zb_M_darkest 129 = .ok (.iload_n 1, 1) ∧ 129 + 1 = 130 := ⟨by decide +kernel, rfl⟩
theorem zd_M_darkest_130 : decode zb_M_darkest 130 = .ok (.ifCond .ne 11, 3) ∧ ((130 : Nat) : Int) + (11) = ((141 : Nat) : Int) ∧ 130 + 3 = 133 := ⟨by decide +kernel, by decide, rfl⟩
theorem zd_M_darkest_133 : decode zb_M_darkest 133 = .ok (.iload 4, 2) ∧ 133 + 2 = 135 := ⟨by decide +kernel, rfl⟩
theorem zd_M_darkest_135 : decode zb_M_darkest 135 = .ok (.bipush 12, 2) ∧ 135 + 2 = 137 := ⟨by decide +kernel, rfl⟩
theorem zd_M_darkest_137 : decode zb_M_darkest 137 = .ok (.irem, 1) ∧ 137 + 1 = 138 := ⟨by decide +kernel, rfl⟩
theorem zd_M_darkest_138 : decode zb_M_darkest 138 = .ok (.goto 17, 3) ∧ ((138 : Nat) : Int) + (17) = ((155 : Nat) : Int) ∧ 138 + 3 = 141 := ⟨by decide +kernel, by decide, rfl⟩
theorem zd_M_darkest_141 : decode zb_M_darkest 141 = .ok (.iload_n 1, 1) ∧ 141 + 1 = 142 := ⟨by decide +kernel, rfl⟩
theorem zd_M_darkest_142 : decode zb_M_darkest 142 = .ok (.iconst 1, 1) ∧ 142 + 1 = 143 := ⟨by decide +kernel, rfl⟩
theorem zd_M_darkest_143 : decode zb_M_darkest 143 = .ok (.if_icmp .ne 11, 3) ∧ ((143 : Nat) : Int) + (11) = ((154 : Nat) : Int) ∧ 143 + 3 = 146 := ⟨by decide +kernel, by decide, rfl⟩
theorem zd_M_darkest_146 : decode zb_M_darkest 146 = .ok (.iload 4, 2) ∧ 146 + 2 = 148 := ⟨by decide +kernel, rfl⟩
theorem zd_M_darkest_148 : decode zb_M_darkest 148 = .ok (.bipush 12, 2) ∧ 148 + 2 = 150 := ⟨by decide +kernel, rfl⟩
theorem zd_M_darkest_150 : decode zb_M_darkest 150 = .ok (.idiv, 1) ∧ 150 + 1 = 151 := ⟨by decide +kernel, rfl⟩
theorem zd_M_darkest_151 : decode zb_M_darkest 151 = .ok (.goto 4, 3) ∧ ((151 : Nat) : Int) + (4) = ((155 : Nat) : Int) ∧ 151 + 3 = 154 := ⟨by decide +kernel, by decide, rfl⟩
theorem zd_M_darkest_154 : decode zb_M_darkest 154 = .ok (.iload_n 3, 1) ∧ 154 + 1 = 155 := ⟨by decide +kernel, rfl⟩
theorem zd_M_darkest_155 : decode zb_M_darkest 155 = .ok (.ireturn, 1) ∧ 155 + 1 = 156 := ⟨by decide +kernel, rfl⟩
theorem zd_M_more_0 : decode zb_M_more 0 = .ok (.iload_n 1, 1) ∧ 0 + 1 = 1 := ⟨by decide +kernel, rfl⟩
theorem zd_M_more_1 : decode zb_M_more 1 = .ok (.iconst 0, 1) ∧ 1 + 1 = 2 := ⟨by decide +kernel, rfl⟩
theorem zd_M_more_2 : decode zb_M_more 2 = .ok (.iconst 2, 1) ∧ 2 + 1 = 3 := ⟨by decide +kernel, rfl⟩
theorem zd_M_more_3 : decode zb_M_more 3 = .ok (.invokestatic 320, 3) ∧ 3 + 3 = 6 := ⟨by decide +kernel, rfl⟩
theorem zd_M_more_6 : decode zb_M_more 6 = .ok (.ifCond .ne 5, 3) ∧ ((6 : Nat) : Int) + (5) = ((11 : Nat) : Int) ∧ 6 + 3 = 9 := ⟨by decide +kernel, by decide, rfl⟩
theorem zd_M_more_9 : decode zb_M_more 9 = .ok (.iconst (-1), 1) ∧ 9 + 1 = 10 := ⟨by decide +kernel, rfl⟩
theorem zd_M_more_10 : decode zb_M_more 10 = .ok (.ireturn, 1) ∧ 10 + 1 = 11 := ⟨by decide +kernel, rfl⟩
theorem zd_M_more_11 : decode zb_M_more 11 = .ok (.iconst 0, 1) ∧ 11 + 1 = 12 := ⟨by decide +kernel, rfl⟩
theorem zd_M_more_12 : decode zb_M_more 12 = .ok (.istore_n 2, 1) ∧ 12 + 1 = 13 := ⟨by decide +kernel, rfl⟩
theorem zd_M_more_13 : decode zb_M_more 13 = .ok (.iload_n 2, 1) ∧ 13 + 1 = 14 := ⟨by decide +kernel, rfl⟩
theorem zd_M_more_14 : decode zb_M_more 14 = .ok (.bipush 24, 2) ∧ 14 + 2 = 16 := ⟨by decide +kernel, rfl⟩
theorem zd_M_more_16 : decode zb_M_more 16 = .ok (.aload_n 0, 1) ∧ 16 + 1 = 17 := ⟨by decide +kernel, rfl⟩
theorem zd_M_more_17 : decode zb_M_more 17 = .ok (.getfield 57, 3) ∧ 17 + 3 = 20 := ⟨by decide +kernel, rfl⟩
theorem zd_M_more_20 : decode zb_M_more 20 = .ok (.aload_n 0, 1) ∧ 20 + 1 = 21 := ⟨by decide +kernel, rfl⟩
theorem zd_M_more_21 : decode zb_M_more 21 = .ok (.getfield 51, 3) ∧ 21 + 3 = 24 := ⟨by decide +kernel, rfl⟩
theorem zd_M_more_24 : decode zb_M_more 24 = .ok (.iaload, 1) ∧ 24 + 1 = 25 := ⟨by decide +kernel, rfl⟩
theorem zd_M_more_25 : decode zb_M_more 25 = .ok (.imul, 1) ∧ 25 + 1 = 26 := ⟨by decide +kernel, rfl⟩
theorem zd_M_more_26 : decode zb_M_more 26 = .ok (.if_icmp .ge 96, 3) ∧ ((26 : Nat) : Int) + (96) = ((122 : Nat) : Int) ∧ 26 + 3 = 29 := ⟨by decide +kernel, by decide, rfl⟩
theorem zd_M_more_29 : decode zb_M_more 29 = .ok (.iload_n 2, 1) ∧ 29 + 1 = 30 := ⟨by decide +kernel, rfl⟩
theorem zd_M_more_30 : decode zb_M_more 30 = .ok (.bipush 24, 2) ∧ 30 + 2 = 32 := ⟨by decide +kernel, rfl⟩
theorem zd_M_more_32 : decode zb_M_more 32 = .ok (.idiv, 1) ∧ 32 + 1 = 33 := ⟨by decide +kernel, rfl⟩
theorem zd_M_more_33 : decode zb_M_more 33 = .ok (.istore_n 3, 1) ∧ 33 + 1 = 34 := ⟨by decide +kernel, rfl⟩
theorem zd_M_more_34 : decode zb_M_more 34 = .ok (.iload_n 2, 1) ∧ 34 + 1 = 35 := ⟨by decide +kernel, rfl⟩
theorem zd_M_more_35 : decode zb_M_more 35 = .ok (.iconst 2, 1) ∧ 35 + 1 = 36 := ⟨by decide +kernel, rfl⟩
theorem zd_M_more_36 : decode zb_M_more 36 = .ok (.idiv, 1) ∧ 36 + 1 = 37 := ⟨by decide +kernel, rfl⟩
theorem zd_M_more_37 : decode zb_M_more 37 = .ok (.bipush 12, 2) ∧ 37 + 2 = 39 := ⟨by decide +kernel, rfl⟩
theorem zd_M_more_39 : decode zb_M_more 39 = .ok (.irem, 1) ∧ 39 + 1 = 40 := ⟨by decide +kernel, rfl⟩
theorem zd_M_more_40 : decode zb_M_more 40 = .ok (.istore 4, 2) ∧ 40 + 2 = 42 := ⟨by decide +kernel, rfl⟩
theorem zd_M_more_42 : decode zb_M_more 42 = .ok (.aload_n 0, 1) ∧ 42 + 1 = 43 := ⟨by decide +kernel, rfl⟩
theorem zd_M_more_43 : decode zb_M_more 43 = .ok (.iload 4, 2) ∧ 43 + 2 = 45 := ⟨by decide +kernel, rfl⟩
theorem zd_M_more_45 : decode zb_M_more 45 = .ok (.iload_n 3, 1) ∧ 45 + 1 = 46 := ⟨by decide +kernel, rfl⟩
theorem zd_M_more_46 : decode zb_M_more 46 = .ok (.invokevirtual 479, 3) ∧ 46 + 3 = 49 := ⟨by decide +kernel, rfl⟩
theorem zd_M_more_49 : decode zb_M_more 49 = .ok (.ifCond .ne 6, 3) ∧ ((49 : Nat) : Int) + (6) = ((55 : Nat) : Int) ∧ 49 + 3 = 52 := ⟨by decide +kernel, by decide, rfl⟩
theorem zd_M_more_52 : decode zb_M_more 52 = .ok (.goto 64, 3) ∧ ((52 : Nat) : Int) + (64) = ((116 : Nat) : Int) ∧ 52 + 3 = 55 := ⟨by decide +kernel, by decide, rfl⟩
theorem zd_M_more_55 : decode zb_M_more 55 = .ok (.aload_n 0, 1) ∧ 55 + 1 = 56 := ⟨by decide +kernel, rfl⟩
theorem zd_M_more_56 : decode zb_M_more 56 = .ok (.bipush 12, 2) ∧ 56 + 2 = 58 := ⟨by decide +kernel, rfl⟩
theorem zd_M_more_58 : decode zb_M_more 58 = .ok (.iload_n 3, 1) ∧ 58 + 1 = 59 := ⟨by decide +kernel, rfl⟩
theorem zd_M_more_59 : decode zb_M_more 59 = .ok (.imul, 1) ∧ 59 + 1 = 60 := ⟨by decide +kernel, rfl⟩
theorem zd_M_more_60 : decode zb_M_more 60 = .ok (.iload 4, 2) ∧ 60 + 2 = 62 := ⟨by decide +kernel, rfl⟩
theorem zd_M_more_62 : decode zb_M_more 62 = .ok (.iadd, 1) ∧ 62 + 1 = 63 := ⟨by decide +kernel, rfl⟩
theorem zd_M_more_63 : decode zb_M_more 63 = .ok (.putfield 153, 3) ∧ 63 + 3 = 66 := ⟨by decide +kernel, rfl⟩
theorem zd_M_more_66 : decode zb_M_more 66 = .ok (.aload_n 0, 1) ∧ 66 + 1 = 67 := ⟨by decide +kernel, rfl⟩
theorem zd_M_more_67 : decode zb_M_more 67 = .ok (.iconst 2, 1) ∧ 67 + 1 = 68 := ⟨by decide +kernel, rfl⟩
theorem zd_M_more_68 : decode zb_M_more 68 = .ok (.putfield 156, 3) ∧ 68 + 3 = 71 := ⟨by decide +kernel, rfl⟩
theorem zd_M_more_71 : decode zb_M_more 71 = .ok (.aload_n 0, 1) ∧ 71 + 1 = 72 := ⟨by decide +kernel, rfl⟩
theorem zd_M_more_72 : decode zb_M_more 72 = .ok (.iload_n 2, 1) ∧ 72 + 1 = 73 := ⟨by decide +kernel, rfl⟩
theorem zd_M_more_73 : decode zb_M_more 73 = .ok (.iconst 2, 1) ∧ 73 + 1 = 74 := ⟨by decide +kernel, rfl⟩
theorem zd_M_more_74 : decode zb_M_more 74 = .ok (.irem, 1) ∧ 74 + 1 = 75 := ⟨by decide +kernel, rfl⟩
theorem zd_M_more_75 : decode zb_M_more 75 = .ok (.putfield 159, 3) ∧ 75 + 3 = 78 := ⟨by decide +kernel, rfl⟩
theorem zd_M_more_78 : decode zb_M_more 78 = .ok (.aload_n 0, 1) ∧ 78 + 1 = 79 := ⟨by decide +kernel, rfl⟩
theorem zd_M_more_79 : decode zb_M_more 79 = .ok (.invokevirtual 476, 3) ∧ 79 + 3 = 82 := ⟨by decide +kernel, rfl⟩
theorem zd_M_more_82 : decode zb_M_more 82 = .ok (.istore 5, 2) ∧ 82 + 2 = 84 := ⟨by decide +kernel, rfl⟩
theorem zd_M_more_84 : decode zb_M_more 84 = .ok (.aload_n 0, 1) ∧ 84 + 1 = 85 := ⟨by decide +kernel, rfl⟩
theorem zd_M_more_85 : decode zb_M_more 85 = .ok (.iconst (-1), 1) ∧ 85 + 1 = 86 := ⟨by decide +kernel, rfl⟩
theorem zd_M_more_86 : decode zb_M_more 86 = .ok (.putfield 153, 3) ∧ 86 + 3 = 89 := ⟨by decide +kernel, rfl⟩
theorem zd_M_more_89 : decode zb_M_more 89 = .ok (.iload 5, 2) ∧ 89 + 2 = 91 := ⟨by decide +kernel, rfl⟩
theorem zd_M_more_91 : decode zb_M_more 91 = .ok (.ifCond .eq 25, 3) ∧ ((91 : Nat) : Int) + (25) = ((116 : Nat) : Int) ∧ 91 + 3 = 94 := ⟨by decide +kernel, by decide, rfl⟩
theorem zd_M_more_94 : decode zb_M_more 94 = .ok (.iload_n 1, 1) ∧ 94 + 1 = 95 := ⟨by decide +kernel, rfl⟩
theorem zd_M_more_95 : decode zb_M_more 95 = .ok (.ifCond .ne 8, 3) ∧ ((95 : Nat) : Int) + (8) = ((103 : Nat) : Int) ∧ 95 + 3 = 98 := ⟨by decide +kernel, by decide, rfl⟩
theorem zd_M_more_98 : decode zb_M_more 98 = .ok (.iload 4, 2) ∧ 98 + 2 = 100 := ⟨by decide +kernel, rfl⟩
theorem zd_M_more_100 : decode zb_M_more 100 = .ok (.goto 15, 3) ∧ ((100 : Nat) : Int) + (15) = ((115 : Nat) : Int) ∧ 100 + 3 = 103 := ⟨by decide +kernel, by decide, rfl⟩
theorem zd_M_more_103 : decode zb_M_more 103 = .ok (.iload_n 1, 1) ∧ 103 + 1 = 104 := ⟨by decide +kernel, rfl⟩
theorem zd_M_more_104 : decode zb_M_more 104 = .ok (.iconst 1, 1) ∧ 104 + 1 = 105 := ⟨by decide +kernel, rfl⟩
theorem zd_M_more_105 : decode zb_M_more 105 = .ok (.if_icmp .ne 7, 3) ∧ ((105 : Nat) : Int) + (7) = ((112 : Nat) : Int) ∧ 105 + 3 = 108 := ⟨by decide +kernel, by decide, rfl⟩
theorem zd_M_more_108 : decode zb_M_more 108 = .ok (.iload_n 3, 1) ∧ 108 + 1 = 109 := ⟨by decide +kernel, rfl⟩
theorem zd_M_more_109 : decode zb_M_more 109 = .ok (.goto 6, 3) ∧ ((109 : Nat) : Int) + (6) = ((115 : Nat) : Int) ∧ 109 + 3 = 112 := ⟨by decide +kernel, by decide, rfl⟩
theorem zd_M_more_112 : decode zb_M_more 112 = .ok (.iload_n 2, 1) ∧ 112 + 1 = 113 := ⟨by decide +kernel, rfl⟩
theorem zd_M_more_113 : decode zb_M_more 113 = .ok (.iconst 2, 1) ∧ 113 + 1 = 114 := ⟨by decide +kernel, rfl⟩
theorem zd_M_more_114 : decode zb_M_more 114 = .ok (.irem, 1) ∧ 114 + 1 = 115 := ⟨by decide +kernel, rfl⟩
theorem zd_M_more_115 : decode zb_M_more 115 = .ok (.ireturn, 1) ∧ 115 + 1 = 116 := ⟨by decide +kernel, rfl⟩
theorem zd_M_more_116 : decode zb_M_more 116 = .ok (.iinc 2 1, 3) ∧ 116 + 3 = 119 := ⟨by decide +kernel, rfl⟩
theorem zd_M_more_119 : decode zb_M_more 119 = .ok (.goto (-106), 3) ∧ ((119 : Nat) : Int) + (-106) = ((13 : Nat) : Int) ∧ 119 + 3 = 122 := ⟨by decide +kernel, by decide, rfl⟩
theorem zd_M_more_122 : decode zb_M_more 122 = .ok (.iconst (-1), 1) ∧ 122 + 1 = 123 := ⟨by decide +kernel, rfl⟩
theorem zd_M_more_123 : decode zb_M_more 123 = .ok (.ireturn, 1) ∧ 123 + 1 = 124 := ⟨by decide +kernel, rfl⟩
theorem zd_M_solves_0 : decode zb_M_solves 0 = .ok (.aload_n 0, 1) ∧ 0 + 1 = 1 := ⟨by decide +kernel, rfl⟩
theorem zd_M_solves_1 : decode zb_M_solves 1 = .ok (.getfield 141, 3) ∧ 1 + 3 = 4 := ⟨by decide +kernel, rfl⟩
theorem zd_M_solves_4 : decode zb_M_solves 4 = .ok (.istore_n 1, 1) ∧ 4 + 1 = 5 := ⟨by decide +kernel, rfl⟩
theorem zd_M_solves_5 : decode zb_M_solves 5 = .ok (.iconst 1, 1) ∧ 5 + 1 = 6 := ⟨by decide +kernel, rfl⟩
theorem zd_M_solves_6 : decode zb_M_solves 6 = .ok (.aload_n 0, 1) ∧ 6 + 1 = 7 := ⟨by decide +kernel, rfl⟩
theorem zd_M_solves_7 : decode zb_M_solves 7 = .ok (.getfield 66, 3) ∧ 7 + 3 = 10 := ⟨by decide +kernel, rfl⟩
theorem zd_M_solves_10 : decode zb_M_solves 10 = .ok (.aload_n 0, 1) ∧ 10 + 1 = 11 := ⟨by decide +kernel, rfl⟩
theorem zd_M_solves_11 : decode zb_M_solves 11 = .ok (.getfield 51, 3) ∧ 11 + 3 = 14 := ⟨by decide +kernel, rfl⟩
theorem zd_M_solves_14 : decode zb_M_solves 14 = .ok (.iaload, 1) ∧ 14 + 1 = 15 := ⟨by decide +kernel, rfl⟩
theorem zd_M_solves_15 : decode zb_M_solves 15 = .ok (.ishl, 1) ∧ 15 + 1 = 16 := ⟨by decide +kernel, rfl⟩
theorem zd_M_solves_16 : decode zb_M_solves 16 = .ok (.iconst 1, 1) ∧ 16 + 1 = 17 := ⟨by decide +kernel, rfl⟩
theorem zd_M_solves_17 : decode zb_M_solves 17 = .ok (.isub, 1) ∧ 17 + 1 = 18 := ⟨by decide +kernel, rfl⟩
theorem zd_M_solves_18 : decode zb_M_solves 18 = .ok (.istore_n 2, 1) ∧ 18 + 1 = 19 := ⟨by decide +kernel, rfl⟩
theorem zd_M_solves_19 : decode zb_M_solves 19 = .ok (.aload_n 0, 1) ∧ 19 + 1 = 20 := ⟨by decide +kernel, rfl⟩
theorem zd_M_solves_20 : decode zb_M_solves 20 = .ok (.iconst 0, 1) ∧ 20 + 1 = 21 := ⟨by decide +kernel, rfl⟩
theorem zd_M_solves_21 : decode zb_M_solves 21 = .ok (.putfield 204, 3) ∧ 21 + 3 = 24 := ⟨by decide +kernel, rfl⟩
theorem zd_M_solves_24 : decode zb_M_solves 24 = .ok (.aload_n 0, 1) ∧ 24 + 1 = 25 := ⟨by decide +kernel, rfl⟩
theorem zd_M_solves_25 : decode zb_M_solves 25 = .ok (.iload_n 2, 1) ∧ 25 + 1 = 26 := ⟨by decide +kernel, rfl⟩
theorem zd_M_solves_26 : decode zb_M_solves 26 = .ok (.putfield 207, 3) ∧ 26 + 3 = 29 := ⟨by decide +kernel, rfl⟩
theorem zd_M_solves_29 : decode zb_M_solves 29 = .ok (.aload_n 0, 1) ∧ 29 + 1 = 30 := ⟨by decide +kernel, rfl⟩
theorem zd_M_solves_30 : decode zb_M_solves 30 = .ok (.iload_n 2, 1) ∧ 30 + 1 = 31 := ⟨by decide +kernel, rfl⟩
theorem zd_M_solves_31 : decode zb_M_solves 31 = .ok (.putfield 210, 3) ∧ 31 + 3 = 34 := ⟨by decide +kernel, rfl⟩
theorem zd_M_solves_34 : decode zb_M_solves 34 = .ok (.iconst 0, 1) ∧ 34 + 1 = 35 := ⟨by decide +kernel, rfl⟩
theorem zd_M_solves_35 : decode zb_M_solves 35 = .ok (.istore_n 3, 1) ∧ 35 + 1 = 36 := ⟨by decide +kernel, rfl⟩
theorem zd_M_solves_36 : decode zb_M_solves 36 = .ok (.iload_n 3, 1) ∧ 36 + 1 = 37 := ⟨by decide +kernel, rfl⟩
theorem zd_M_solves_37 : decode zb_M_solves 37 = .ok (.iload_n 2, 1) ∧ 37 + 1 = 38 := ⟨by decide +kernel, rfl⟩
theorem zd_M_solves_38 : decode zb_M_solves 38 = .ok (.if_icmp .gt 56, 3) ∧ ((38 : Nat) : Int) + (56) = ((94 : Nat) : Int) ∧ 38 + 3 = 41 := ⟨by decide +kernel, by decide, rfl⟩
theorem zd_M_solves_41 : decode zb_M_solves 41 = .ok (.aload_n 0, 1) ∧ 41 + 1 = 42 := ⟨by decide +kernel, rfl⟩
theorem zd_M_solves_42 : decode zb_M_solves 42 = .ok (.iload_n 3, 1) ∧ 42 + 1 = 43 := ⟨by decide +kernel, rfl⟩
theorem zd_M_solves_43 : decode zb_M_solves 43 = .ok (.putfield 141, 3) ∧ 43 + 3 = 46 := ⟨by decide +kernel, rfl⟩
theorem zd_M_solves_46 : decode zb_M_solves 46 = .ok (.aload_n 0, 1) ∧ 46 + 1 = 47 := ⟨by decide +kernel, rfl⟩
theorem zd_M_solves_47 : decode zb_M_solves 47 = .ok (.invokevirtual 476, 3) ∧ 47 + 3 = 50 := ⟨by decide +kernel, rfl⟩
theorem zd_M_solves_50 : decode zb_M_solves 50 = .ok (.ifCond .ne 6, 3) ∧ ((50 : Nat) : Int) + (6) = ((56 : Nat) : Int) ∧ 50 + 3 = 53 := ⟨by decide +kernel, by decide, rfl⟩
theorem zd_M_solves_53 : decode zb_M_solves 53 = .ok (.goto 35, 3) ∧ ((53 : Nat) : Int) + (35) = ((88 : Nat) : Int) ∧ 53 + 3 = 56 := ⟨by decide +kernel, by decide, rfl⟩
theorem zd_M_solves_56 : decode zb_M_solves 56 = .ok (.aload_n 0, 1) ∧ 56 + 1 = 57 := ⟨by decide +kernel, rfl⟩
theorem zd_M_solves_57 : decode zb_M_solves 57 = .ok (.dup, 1) ∧ 57 + 1 = 58 := ⟨by decide +kernel, rfl⟩
theorem zd_M_solves_58 : decode zb_M_solves 58 = .ok (.getfield 204, 3) ∧ 58 + 3 = 61 := ⟨by decide +kernel, rfl⟩
theorem zd_M_solves_61 : decode zb_M_solves 61 = .ok (.iconst 1, 1) ∧ 61 + 1 = 62 := ⟨by decide +kernel, rfl⟩
theorem zd_M_solves_62 : decode zb_M_solves 62 = .ok (.iadd, 1) ∧ 62 + 1 = 63 := ⟨by decide +kernel, rfl⟩
theorem zd_M_solves_63 : decode zb_M_solves 63 = .ok (.putfield 204, 3) ∧ 63 + 3 = 66 := ⟨by decide +kernel, rfl⟩
theorem zd_M_solves_66 : decode zb_M_solves 66 = .ok (.aload_n 0, 1) ∧ 66 + 1 = 67 := ⟨by decide +kernel, rfl⟩
theorem zd_M_solves_67 : decode zb_M_solves 67 = .ok (.dup, 1) ∧ 67 + 1 = 68 := ⟨by decide +kernel, rfl⟩
theorem zd_M_solves_68 : decode zb_M_solves 68 = .ok (.getfield 207, 3) ∧ 68 + 3 = 71 := ⟨by decide +kernel, rfl⟩
theorem zd_M_solves_71 : decode zb_M_solves 71 = .ok (.iload_n 3, 1) ∧ 71 + 1 = 72 := ⟨by decide +kernel, rfl⟩
theorem zd_M_solves_72 : decode zb_M_solves 72 = .ok (.iand, 1) ∧ 72 + 1 = 73 := ⟨by decide +kernel, rfl⟩
theorem zd_M_solves_73 : decode zb_M_solves 73 = .ok (.putfield 207, 3) ∧ 73 + 3 = 76 := ⟨by decide +kernel, rfl⟩
theorem zd_M_solves_76 : decode zb_M_solves 76 = .ok (.aload_n 0, 1) ∧ 76 + 1 = 77 := ⟨by decide +kernel, rfl⟩
theorem zd_M_solves_77 : decode zb_M_solves 77 = .ok (.dup, 1) ∧ 77 + 1 = 78 := ⟨by decide +kernel, rfl⟩
theorem zd_M_solves_78 : decode zb_M_solves 78 = .ok (.getfield 210, 3) ∧ 78 + 3 = 81 := ⟨by decide +kernel, rfl⟩
theorem zd_M_solves_81 : decode zb_M_solves 81 = .ok (.iload_n 3, 1) ∧ 81 + 1 = 82 := ⟨by decide +kernel, rfl⟩
theorem zd_M_solves_82 : decode zb_M_solves 82 = .ok (.iconst (-1), 1) ∧ 82 + 1 = 83 := ⟨by decide +kernel, rfl⟩
theorem zd_M_solves_83 : decode zb_M_solves 83 = .ok (.ixor, 1) ∧ 83 + 1 = 84 := ⟨by decide +kernel, rfl⟩
theorem zd_M_solves_84 : decode zb_M_solves 84 = .ok (.iand, 1) ∧ 84 + 1 = 85 := ⟨by decide +kernel, rfl⟩
theorem zd_M_solves_85 : decode zb_M_solves 85 = .ok (.putfield 210, 3) ∧ 85 + 3 = 88 := ⟨by decide +kernel, rfl⟩
theorem zd_M_solves_88 : decode zb_M_solves 88 = .ok (.iinc 3 1, 3) ∧ 88 + 3 = 91 := ⟨by decide +kernel, rfl⟩
theorem zd_M_solves_91 : decode zb_M_solves 91 = .ok (.goto (-55), 3) ∧ ((91 : Nat) : Int) + (-55) = ((36 : Nat) : Int) ∧ 91 + 3 = 94 := ⟨by decide +kernel, by decide, rfl⟩
theorem zd_M_solves_94 : decode zb_M_solves 94 = .ok (.aload_n 0, 1) ∧ 94 + 1 = 95 := ⟨by decide +kernel, rfl⟩
theorem zd_M_solves_95 : decode zb_M_solves 95 = .ok (.iload_n 1, 1) ∧ 95 + 1 = 96 := ⟨by decide +kernel, rfl⟩
theorem zd_M_solves_96 : decode zb_M_solves 96 = .ok (.putfield 141, 3) ∧ 96 + 3 = 99 := ⟨by decide +kernel, rfl⟩
theorem zd_M_solves_99 : decode zb_M_solves 99 = .ok (.return_, 1) ∧ 99 + 1 = 100 := ⟨by decide +kernel, rfl⟩
theorem zd_M_solutions_0 : decode zb_M_solutions 0 = .ok (.iload_n 1, 1) ∧ 0 + 1 = 1 := ⟨by decide +kernel, rfl⟩
theorem zd_M_solutions_1 : decode zb_M_solutions 1 = .ok (.iconst 0, 1) ∧ 1 + 1 = 2 := ⟨by decide +kernel, rfl⟩
theorem zd_M_solutions_2 : decode zb_M_solutions 2 = .ok (.iconst 2, 1) ∧ 2 + 1 = 3 := ⟨by decide +kernel, rfl⟩
theorem zd_M_solutions_3 : decode zb_M_solutions 3 = .ok (.invokestatic 320, 3) ∧ 3 + 3 = 6 := ⟨by decide +kernel, rfl⟩
theorem zd_M_solutions_6 : decode zb_M_solutions 6 = .ok (.ifCond .ne 5, 3) ∧ ((6 : Nat) : Int) + (5) = ((11 : Nat) : Int) ∧ 6 + 3 = 9 := ⟨by decide +kernel, by decide, rfl⟩
theorem zd_M_solutions_9 : decode zb_M_solutions 9 = .ok (.iconst (-1), 1) ∧ 9 + 1 = 10 := ⟨by decide +kernel, rfl⟩
theorem zd_M_solutions_10 : decode zb_M_solutions 10 = .ok (.ireturn, 1) ∧ 10 + 1 = 11 := ⟨by decide +kernel, rfl⟩
theorem zd_M_solutions_11 : decode zb_M_solutions 11 = .ok (.aload_n 0, 1) ∧ 11 + 1 = 12 := ⟨by decide +kernel, rfl⟩
theorem zd_M_solutions_12 : decode zb_M_solutions 12 = .ok (.invokevirtual 485, 3) ∧ 12 + 3 = 15 := ⟨by decide +kernel, rfl⟩
theorem zd_M_solutions_15 : decode zb_M_solutions 15 = .ok (.iload_n 1, 1) ∧ 15 + 1 = 16 := ⟨by decide +kernel, rfl⟩
theorem zd_M_solutions_16 : decode zb_M_solutions 16 = .ok (.ifCond .ne 10, 3) ∧ ((16 : Nat) : Int) + (10) = ((26 : Nat) : Int) ∧ 16 + 3 = 19 := ⟨by decide +kernel, by decide, rfl⟩
theorem zd_M_solutions_19 : decode zb_M_solutions 19 = .ok (.aload_n 0, 1) ∧ 19 + 1 = 20 := ⟨by decide +kernel, rfl⟩
theorem zd_M_solutions_20 : decode zb_M_solutions 20 = .ok (.getfield 204, 3) ∧ 20 + 3 = 23 := ⟨by decide +kernel, rfl⟩
theorem zd_M_solutions_23 : decode zb_M_solutions 23 = .ok (.goto 19, 3) ∧ ((23 : Nat) : Int) + (19) = ((42 : Nat) : Int) ∧ 23 + 3 = 26 := ⟨by decide +kernel, by decide, rfl⟩
theorem zd_M_solutions_26 : decode zb_M_solutions 26 = .ok (.iload_n 1, 1) ∧ 26 + 1 = 27 := ⟨by decide +kernel, rfl⟩
theorem zd_M_solutions_27 : decode zb_M_solutions 27 = .ok (.iconst 1, 1) ∧ 27 + 1 = 28 := ⟨by decide +kernel, rfl⟩
theorem zd_M_solutions_28 : decode zb_M_solutions 28 = .ok (.if_icmp .ne 10, 3) ∧ ((28 : Nat) : Int) + (10) = ((38 : Nat) : Int) ∧ 28 + 3 = 31 := ⟨by decide +kernel, by decide, rfl⟩
theorem zd_M_solutions_31 : decode zb_M_solutions 31 = .ok (.aload_n 0, 1) ∧ 31 + 1 = 32 := ⟨by decide +kernel, rfl⟩
theorem zd_M_solutions_32 : decode zb_M_solutions 32 = .ok (.getfield 207, 3) ∧ 32 + 3 = 35 := ⟨by decide +kernel, rfl⟩
theorem zd_M_solutions_35 : decode zb_M_solutions 35 = .ok (.goto 7, 3) ∧ ((35 : Nat) : Int) + (7) = ((42 : Nat) : Int) ∧ 35 + 3 = 38 := ⟨by decide +kernel, by decide, rfl⟩
theorem zd_M_solutions_38 : decode zb_M_solutions 38 = .ok (.aload_n 0, 1) ∧ 38 + 1 = 39 := ⟨by decide +kernel, rfl⟩
theorem zd_M_solutions_39 : decode zb_M_solutions 39 = .ok (.getfield 210, 3) ∧ 39 + 3 = 42 := ⟨by decide +kernel, rfl⟩
theorem zd_M_solutions_42 : decode zb_M_solutions 42 = .ok (.ireturn, 1) ∧ 42 + 1 = 43 := ⟨by decide +kernel, rfl⟩
theorem zd_M_near_0 : decode zb_M_near 0 = .ok (.aload_n 0, 1) ∧ 0 + 1 = 1 := ⟨by decide +kernel, rfl⟩
theorem zd_M_near_1 : decode zb_M_near 1 = .ok (.getfield 144, 3) ∧ 1 + 3 = 4 := ⟨by decide +kernel, rfl⟩
theorem zd_M_near_4 : decode zb_M_near 4 = .ok (.istore_n 1, 1) ∧ 4 + 1 = 5 := ⟨by decide +kernel, rfl⟩
theorem zd_M_near_5 : decode zb_M_near 5 = .ok (.iconst (-1), 1) ∧ 5 + 1 = 6 := ⟨by decide +kernel, rfl⟩
theorem zd_M_near_6 : decode zb_M_near 6 = .ok (.istore_n 2, 1) ∧ 6 + 1 = 7 := ⟨by decide +kernel, rfl⟩
theorem zd_M_near_7 : decode zb_M_near 7 = .ok (.iconst 0, 1) ∧ 7 + 1 = 8 := ⟨by decide +kernel, rfl⟩
theorem zd_M_near_8 : decode zb_M_near 8 = .ok (.istore_n 3, 1) ∧ 8 + 1 = 9 := ⟨by decide +kernel, rfl⟩
theorem zd_M_near_9 : decode zb_M_near 9 = .ok (.iload_n 3, 1) ∧ 9 + 1 = 10 := ⟨by decide +kernel, rfl⟩
theorem zd_M_near_10 : decode zb_M_near 10 = .ok (.aload_n 0, 1) ∧ 10 + 1 = 11 := ⟨by decide +kernel, rfl⟩
theorem zd_M_near_11 : decode zb_M_near 11 = .ok (.invokevirtual 455, 3) ∧ 11 + 3 = 14 := ⟨by decide +kernel, rfl⟩
theorem zd_M_near_14 : decode zb_M_near 14 = .ok (.if_icmp .ge 46, 3) ∧ ((14 : Nat) : Int) + (46) = ((60 : Nat) : Int) ∧ 14 + 3 = 17 := ⟨by decide +kernel, by decide, rfl⟩
theorem zd_M_near_17 : decode zb_M_near 17 = .ok (.iload_n 2, 1) ∧ 17 + 1 = 18 := ⟨by decide +kernel, rfl⟩
theorem zd_M_near_18 : decode zb_M_near 18 = .ok (.iconst (-1), 1) ∧ 18 + 1 = 19 := ⟨by decide +kernel, rfl⟩
theorem zd_M_near_19 : decode zb_M_near 19 = .ok (.if_icmp .eq 21, 3) ∧ ((19 : Nat) : Int) + (21) = ((40 : Nat) : Int) ∧ 19 + 3 = 22 := ⟨by decide +kernel, by decide, rfl⟩
theorem zd_M_near_22 : decode zb_M_near 22 = .ok (.iload_n 3, 1) ∧ 22 + 1 = 23 := ⟨by decide +kernel, rfl⟩
theorem zd_M_near_23 : decode zb_M_near 23 = .ok (.iload_n 1, 1) ∧ 23 + 1 = 24 := ⟨by decide +kernel, rfl⟩
theorem zd_M_near_24 : decode zb_M_near 24 = .ok (.ixor, 1) ∧ 24 + 1 = 25 := ⟨by decide +kernel, rfl⟩
theorem zd_M_near_25 : decode zb_M_near 25 = .ok (.invokestatic 452, 3) ∧ 25 + 3 = 28 := ⟨by decide +kernel, rfl⟩
theorem zd_M_near_28 : decode zb_M_near 28 = .ok (.iload_n 2, 1) ∧ 28 + 1 = 29 := ⟨by decide +kernel, rfl⟩
theorem zd_M_near_29 : decode zb_M_near 29 = .ok (.iload_n 1, 1) ∧ 29 + 1 = 30 := ⟨by decide +kernel, rfl⟩
theorem zd_M_near_30 : decode zb_M_near 30 = .ok (.ixor, 1) ∧ 30 + 1 = 31 := ⟨by decide +kernel, rfl⟩
theorem zd_M_near_31 : decode zb_M_near 31 = .ok (.invokestatic 452, 3) ∧ 31 + 3 = 34 := ⟨by decide +kernel, rfl⟩
theorem zd_M_near_34 : decode zb_M_near 34 = .ok (.if_icmp .lt 6, 3) ∧ ((34 : Nat) : Int) + (6) = ((40 : Nat) : Int) ∧ 34 + 3 = 37 := ⟨by decide +kernel, by decide, rfl⟩
theorem zd_M_near_37 : decode zb_M_near 37 = .ok (.goto 17, 3) ∧ ((37 : Nat) : Int) + (17) = ((54 : Nat) : Int) ∧ 37 + 3 = 40 := ⟨by decide +kernel, by decide, rfl⟩
theorem zd_M_near_40 : decode zb_M_near 40 = .ok (.aload_n 0, 1) ∧ 40 + 1 = 41 := ⟨by decide +kernel, rfl⟩
theorem zd_M_near_41 : decode zb_M_near 41 = .ok (.iload_n 3, 1) ∧ 41 + 1 = 42 := ⟨by decide +kernel, rfl⟩
theorem zd_M_near_42 : decode zb_M_near 42 = .ok (.putfield 144, 3) ∧ 42 + 3 = 45 := ⟨by decide +kernel, rfl⟩
theorem zd_M_near_45 : decode zb_M_near 45 = .ok (.aload_n 0, 1) ∧ 45 + 1 = 46 := ⟨by decide +kernel, rfl⟩
theorem zd_M_near_46 : decode zb_M_near 46 = .ok (.invokevirtual 476, 3) ∧ 46 + 3 = 49 := ⟨by decide +kernel, rfl⟩
theorem zd_M_near_49 : decode zb_M_near 49 = .ok (.ifCond .eq 5, 3) ∧ ((49 : Nat) : Int) + (5) = ((54 : Nat) : Int) ∧ 49 + 3 = 52 := ⟨by decide +kernel, by decide, rfl⟩
theorem zd_M_near_52 : decode zb_M_near 52 = .ok (.iload_n 3, 1) ∧ 52 + 1 = 53 := ⟨by decide +kernel, rfl⟩
theorem zd_M_near_53 : decode zb_M_near 53 = .ok (.istore_n 2, 1) ∧ 53 + 1 = 54 := ⟨by decide +kernel, rfl⟩
theorem zd_M_near_54 : decode zb_M_near 54 = .ok (.iinc 3 1, 3) ∧ 54 + 3 = 57 := ⟨by decide +kernel, rfl⟩
theorem zd_M_near_57 : decode zb_M_near 57 = .ok (.goto (-48), 3) ∧ ((57 : Nat) : Int) + (-48) = ((9 : Nat) : Int) ∧ 57 + 3 = 60 := ⟨by decide +kernel, by decide, rfl⟩
theorem zd_M_near_60 : decode zb_M_near 60 = .ok (.aload_n 0, 1) ∧ 60 + 1 = 61 := ⟨by decide +kernel, rfl⟩
theorem zd_M_near_61 : decode zb_M_near 61 = .ok (.iload_n 1, 1) ∧ 61 + 1 = 62 := ⟨by decide +kernel, rfl⟩
theorem zd_M_near_62 : decode zb_M_near 62 = .ok (.putfield 144, 3) ∧ 62 + 3 = 65 := ⟨by decide +kernel, rfl⟩
theorem zd_M_near_65 : decode zb_M_near 65 = .ok (.iload_n 2, 1) ∧ 65 + 1 = 66 := ⟨by decide +kernel, rfl⟩
theorem zd_M_near_66 : decode zb_M_near 66 = .ok (.ireturn, 1) ∧ 66 + 1 = 67 := ⟨by decide +kernel, rfl⟩
theorem zd_M_tint_0 : decode zb_M_tint 0 = .ok (.aload_n 0, 1) ∧ 0 + 1 = 1 := ⟨by decide +kernel, rfl⟩
theorem zd_M_tint_1 : decode zb_M_tint 1 = .ok (.iload_n 1, 1) ∧ 1 + 1 = 2 := ⟨by decide +kernel, rfl⟩
theorem zd_M_tint_2 : decode zb_M_tint 2 = .ok (.iload_n 2, 1) ∧ 2 + 1 = 3 := ⟨by decide +kernel, rfl⟩
theorem zd_M_tint_3 : decode zb_M_tint 3 = .ok (.invokevirtual 420, 3) ∧ 3 + 3 = 6 := ⟨by decide +kernel, rfl⟩
theorem zd_M_tint_6 : decode zb_M_tint 6 = .ok (.ifCond .eq 17, 3) ∧ ((6 : Nat) : Int) + (17) = ((23 : Nat) : Int) ∧ 6 + 3 = 9 := ⟨by decide +kernel, by decide, rfl⟩
theorem zd_M_tint_9 : decode zb_M_tint 9 = .ok (.aload_n 0, 1) ∧ 9 + 1 = 10 := ⟨by decide +kernel, rfl⟩
theorem zd_M_tint_10 : decode zb_M_tint 10 = .ok (.bipush 12, 2) ∧ 10 + 2 = 12 := ⟨by decide +kernel, rfl⟩
theorem zd_M_tint_12 : decode zb_M_tint 12 = .ok (.iload_n 2, 1) ∧ 12 + 1 = 13 := ⟨by decide +kernel, rfl⟩
theorem zd_M_tint_13 : decode zb_M_tint 13 = .ok (.imul, 1) ∧ 13 + 1 = 14 := ⟨by decide +kernel, rfl⟩
theorem zd_M_tint_14 : decode zb_M_tint 14 = .ok (.iload_n 1, 1) ∧ 14 + 1 = 15 := ⟨by decide +kernel, rfl⟩
theorem zd_M_tint_15 : decode zb_M_tint 15 = .ok (.iadd, 1) ∧ 15 + 1 = 16 := ⟨by decide +kernel, rfl⟩
theorem zd_M_tint_16 : decode zb_M_tint 16 = .ok (.invokevirtual 424, 3) ∧ 16 + 3 = 19 := ⟨by decide +kernel, rfl⟩
theorem zd_M_tint_19 : decode zb_M_tint 19 = .ok (.iconst 4, 1) ∧ 19 + 1 = 20 := ⟨by decide +kernel, rfl⟩
theorem zd_M_tint_20 : decode zb_M_tint 20 = .ok (.if_icmp .eq 5, 3) ∧ ((20 : Nat) : Int) + (5) = ((25 : Nat) : Int) ∧ 20 + 3 = 23 := ⟨by decide +kernel, by decide, rfl⟩
theorem zd_M_tint_23 : decode zb_M_tint 23 = .ok (.iconst (-1), 1) ∧ 23 + 1 = 24 := ⟨by decide +kernel, rfl⟩
theorem zd_M_tint_24 : decode zb_M_tint 24 = .ok (.ireturn, 1) ∧ 24 + 1 = 25 := ⟨by decide +kernel, rfl⟩
theorem zd_M_tint_25 : decode zb_M_tint 25 = .ok (.iconst (-1), 1) ∧ 25 + 1 = 26 := ⟨by decide +kernel, rfl⟩
theorem zd_M_tint_26 : decode zb_M_tint 26 = .ok (.istore_n 3, 1) ∧ 26 + 1 = 27 := ⟨by decide +kernel, rfl⟩
theorem zd_M_tint_27 : decode zb_M_tint 27 = .ok (.aload_n 0, 1) ∧ 27 + 1 = 28 := ⟨by decide +kernel, rfl⟩
theorem zd_M_tint_28 : decode zb_M_tint 28 = .ok (.bipush 12, 2) ∧ 28 + 2 = 30 := ⟨by decide +kernel, rfl⟩
theorem zd_M_tint_30 : decode zb_M_tint 30 = .ok (.iload_n 2, 1) ∧ 30 + 1 = 31 := ⟨by decide +kernel, rfl⟩
theorem zd_M_tint_31 : decode zb_M_tint 31 = .ok (.imul, 1) ∧ 31 + 1 = 32 := ⟨by decide +kernel, rfl⟩
theorem zd_M_tint_32 : decode zb_M_tint 32 = .ok (.iload_n 1, 1) ∧ 32 + 1 = 33 := ⟨by decide +kernel, rfl⟩
theorem zd_M_tint_33 : decode zb_M_tint 33 = .ok (.iadd, 1) ∧ 33 + 1 = 34 := ⟨by decide +kernel, rfl⟩
theorem zd_M_tint_34 : decode zb_M_tint 34 = .ok (.putfield 168, 3) ∧ 34 + 3 = 37 := ⟨by decide +kernel, rfl⟩
theorem zd_M_tint_37 : decode zb_M_tint 37 = .ok (.iconst 0, 1) ∧ 37 + 1 = 38 := ⟨by decide +kernel, rfl⟩
theorem zd_M_tint_38 : decode zb_M_tint 38 = .ok (.istore 4, 2) ∧ 38 + 2 = 40 := ⟨by decide +kernel, rfl⟩
theorem zd_M_tint_40 : decode zb_M_tint 40 = .ok (.iload 4, 2) ∧ 40 + 2 = 42 := ⟨by decide +kernel, rfl⟩
theorem zd_M_tint_42 : decode zb_M_tint 42 = .ok (.bipush 8, 2) ∧ 42 + 2 = 44 := ⟨by decide +kernel, rfl⟩
theorem zd_M_tint_44 : decode zb_M_tint 44 = .ok (.if_icmp .ge 30, 3) ∧ ((44 : Nat) : Int) + (30) = ((74 : Nat) : Int) ∧ 44 + 3 = 47 := ⟨by decide +kernel, by decide, rfl⟩
theorem zd_M_tint_47 : decode zb_M_tint 47 = .ok (.iload_n 3, 1) ∧ 47 + 1 = 48 := ⟨by decide +kernel, rfl⟩
theorem zd_M_tint_48 : decode zb_M_tint 48 = .ok (.iconst (-1), 1) ∧ 48 + 1 = 49 := ⟨by decide +kernel, rfl⟩
theorem zd_M_tint_49 : decode zb_M_tint 49 = .ok (.if_icmp .ne 25, 3) ∧ ((49 : Nat) : Int) + (25) = ((74 : Nat) : Int) ∧ 49 + 3 = 52 := ⟨by decide +kernel, by decide, rfl⟩
theorem zd_M_tint_52 : decode zb_M_tint 52 = .ok (.aload_n 0, 1) ∧ 52 + 1 = 53 := ⟨by decide +kernel, rfl⟩
theorem zd_M_tint_53 : decode zb_M_tint 53 = .ok (.iload 4, 2) ∧ 53 + 2 = 55 := ⟨by decide +kernel, rfl⟩
theorem zd_M_tint_55 : decode zb_M_tint 55 = .ok (.putfield 171, 3) ∧ 55 + 3 = 58 := ⟨by decide +kernel, rfl⟩
theorem zd_M_tint_58 : decode zb_M_tint 58 = .ok (.aload_n 0, 1) ∧ 58 + 1 = 59 := ⟨by decide +kernel, rfl⟩
theorem zd_M_tint_59 : decode zb_M_tint 59 = .ok (.invokevirtual 476, 3) ∧ 59 + 3 = 62 := ⟨by decide +kernel, rfl⟩
theorem zd_M_tint_62 : decode zb_M_tint 62 = .ok (.ifCond .eq 6, 3) ∧ ((62 : Nat) : Int) + (6) = ((68 : Nat) : Int) ∧ 62 + 3 = 65 := ⟨by decide +kernel, by decide, rfl⟩
theorem zd_M_tint_65 : decode zb_M_tint 65 = .ok (.iload 4, 2) ∧ 65 + 2 = 67 := ⟨by decide +kernel, rfl⟩
theorem zd_M_tint_67 : decode zb_M_tint 67 = .ok (.istore_n 3, 1) ∧ 67 + 1 = 68 := ⟨by decide +kernel, rfl⟩
theorem zd_M_tint_68 : decode zb_M_tint 68 = .ok (.iinc 4 1, 3) ∧ 68 + 3 = 71 := ⟨by decide +kernel, rfl⟩
theorem zd_M_tint_71 : decode zb_M_tint 71 = .ok (.goto (-31), 3) ∧ ((71 : Nat) : Int) + (-31) = ((40 : Nat) : Int) ∧ 71 + 3 = 74 := ⟨by decide +kernel, by decide, rfl⟩
theorem zd_M_tint_74 : decode zb_M_tint 74 = .ok (.aload_n 0, 1) ∧ 74 + 1 = 75 := ⟨by decide +kernel, rfl⟩
theorem zd_M_tint_75 : decode zb_M_tint 75 = .ok (.iconst (-1), 1) ∧ 75 + 1 = 76 := ⟨by decide +kernel, rfl⟩
theorem zd_M_tint_76 : decode zb_M_tint 76 = .ok (.putfield 168, 3) ∧ 76 + 3 = 79 := ⟨by decide +kernel, rfl⟩
theorem zd_M_tint_79 : decode zb_M_tint 79 = .ok (.iload_n 3, 1) ∧ 79 + 1 = 80 := ⟨by decide +kernel, rfl⟩
theorem zd_M_tint_80 : decode zb_M_tint 80 = .ok (.ireturn, 1) ∧ 80 + 1 = 81 := ⟨by decide +kernel, rfl⟩
theorem zd_M_swapped_0 : decode zb_M_swapped 0 = .ok (.aload_n 0, 1) ∧ 0 + 1 = 1 := ⟨by decide +kernel, rfl⟩
theorem zd_M_swapped_1 : decode zb_M_swapped 1 = .ok (.iload_n 1, 1) ∧ 1 + 1 = 2 := ⟨by decide +kernel, rfl⟩
theorem zd_M_swapped_2 : decode zb_M_swapped 2 = .ok (.iload_n 2, 1) ∧ 2 + 1 = 3 := ⟨by decide +kernel, rfl⟩
theorem zd_M_swapped_3 : decode zb_M_swapped 3 = .ok (.invokevirtual 420, 3) ∧ 3 + 3 = 6 := ⟨by decide +kernel, rfl⟩
theorem zd_M_swapped_6 : decode zb_M_swapped 6 = .ok (.ifCond .eq 24, 3) ∧ ((6 : Nat) : Int) + (24) = ((30 : Nat) : Int) ∧ 6 + 3 = 9 := ⟨by decide +kernel, by decide, rfl⟩
theorem zd_M_swapped_9 : decode zb_M_swapped 9 = .ok (.aload_n 0, 1) ∧ 9 + 1 = 10 := ⟨by decide +kernel, rfl⟩
theorem zd_M_swapped_10 : decode zb_M_swapped 10 = .ok (.iload_n 3, 1) ∧ 10 + 1 = 11 := ⟨by decide +kernel, rfl⟩
theorem zd_M_swapped_11 : decode zb_M_swapped 11 = .ok (.iload 4, 2) ∧ 11 + 2 = 13 := ⟨by decide +kernel, rfl⟩
theorem zd_M_swapped_13 : decode zb_M_swapped 13 = .ok (.invokevirtual 420, 3) ∧ 13 + 3 = 16 := ⟨by decide +kernel, rfl⟩
theorem zd_M_swapped_16 : decode zb_M_swapped 16 = .ok (.ifCond .eq 14, 3) ∧ ((16 : Nat) : Int) + (14) = ((30 : Nat) : Int) ∧ 16 + 3 = 19 := ⟨by decide +kernel, by decide, rfl⟩
theorem zd_M_swapped_19 : decode zb_M_swapped 19 = .ok (.iload_n 1, 1) ∧ 19 + 1 = 20 := ⟨by decide +kernel, rfl⟩
theorem zd_M_swapped_20 : decode zb_M_swapped 20 = .ok (.iload_n 3, 1) ∧ 20 + 1 = 21 := ⟨by decide +kernel, rfl⟩
theorem zd_M_swapped_21 : decode zb_M_swapped 21 = .ok (.if_icmp .ne 11, 3) ∧ ((21 : Nat) : Int) + (11) = ((32 : Nat) : Int) ∧ 21 + 3 = 24 := ⟨by decide +kernel, by decide, rfl⟩
theorem zd_M_swapped_24 : decode zb_M_swapped 24 = .ok (.iload_n 2, 1) ∧ 24 + 1 = 25 := ⟨by decide +kernel, rfl⟩
theorem zd_M_swapped_25 : decode zb_M_swapped 25 = .ok (.iload 4, 2) ∧ 25 + 2 = 27 := ⟨by decide +kernel, rfl⟩
theorem zd_M_swapped_27 : decode zb_M_swapped 27 = .ok (.if_icmp .ne 5, 3) ∧ ((27 : Nat) : Int) + (5) = ((32 : Nat) : Int) ∧ 27 + 3 = 30 := ⟨by decide +kernel, by decide, rfl⟩
theorem zd_M_swapped_30 : decode zb_M_swapped 30 = .ok (.iconst (-1), 1) ∧ 30 + 1 = 31 := ⟨by decide +kernel, rfl⟩
theorem zd_M_swapped_31 : decode zb_M_swapped 31 = .ok (.ireturn, 1) ∧ 31 + 1 = 32 := ⟨by decide +kernel, rfl⟩
theorem zd_M_swapped_32 : decode zb_M_swapped 32 = .ok (.aload_n 0, 1) ∧ 32 + 1 = 33 := ⟨by decide +kernel, rfl⟩
theorem zd_M_swapped_33 : decode zb_M_swapped 33 = .ok (.bipush 12, 2) ∧ 33 + 2 = 35 := ⟨by decide +kernel, rfl⟩
theorem zd_M_swapped_35 : decode zb_M_swapped 35 = .ok (.iload_n 2, 1) ∧ 35 + 1 = 36 := ⟨by decide +kernel, rfl⟩
theorem zd_M_swapped_36 : decode zb_M_swapped 36 = .ok (.imul, 1) ∧ 36 + 1 = 37 := ⟨by decide +kernel, rfl⟩
theorem zd_M_swapped_37 : decode zb_M_swapped 37 = .ok (.iload_n 1, 1) ∧ 37 + 1 = 38 := ⟨by decide +kernel, rfl⟩
theorem zd_M_swapped_38 : decode zb_M_swapped 38 = .ok (.iadd, 1) ∧ 38 + 1 = 39 := ⟨by decide +kernel, rfl⟩
theorem zd_M_swapped_39 : decode zb_M_swapped 39 = .ok (.putfield 162, 3) ∧ 39 + 3 = 42 := ⟨by decide +kernel, rfl⟩
theorem zd_M_swapped_42 : decode zb_M_swapped 42 = .ok (.aload_n 0, 1) ∧ 42 + 1 = 43 := ⟨by decide +kernel, rfl⟩
theorem zd_M_swapped_43 : decode zb_M_swapped 43 = .ok (.bipush 12, 2) ∧ 43 + 2 = 45 := ⟨by decide +kernel, rfl⟩
theorem zd_M_swapped_45 : decode zb_M_swapped 45 = .ok (.iload 4, 2) ∧ 45 + 2 = 47 := ⟨by decide +kernel, rfl⟩
theorem zd_M_swapped_47 : decode zb_M_swapped 47 = .ok (.imul, 1) ∧ 47 + 1 = 48 := ⟨by decide +kernel, rfl⟩
theorem zd_M_swapped_48 : decode zb_M_swapped 48 = .ok (.iload_n 3, 1) ∧ 48 + 1 = 49 := ⟨by decide +kernel, rfl⟩
theorem zd_M_swapped_49 : decode zb_M_swapped 49 = .ok (.iadd, 1) ∧ 49 + 1 = 50 := ⟨by decide +kernel, rfl⟩
theorem zd_M_swapped_50 : decode zb_M_swapped 50 = .ok (.putfield 165, 3) ∧ 50 + 3 = 53 := ⟨by decide +kernel, rfl⟩
theorem zd_M_swapped_53 : decode zb_M_swapped 53 = .ok (.aload_n 0, 1) ∧ 53 + 1 = 54 := ⟨by decide +kernel, rfl⟩
theorem zd_M_swapped_54 : decode zb_M_swapped 54 = .ok (.invokevirtual 476, 3) ∧ 54 + 3 = 57 := ⟨by decide +kernel, rfl⟩
theorem zd_M_swapped_57 : decode zb_M_swapped 57 = .ok (.istore 5, 2) ∧ 57 + 2 = 59 := ⟨by decide +kernel, rfl⟩
theorem zd_M_swapped_59 : decode zb_M_swapped 59 = .ok (.aload_n 0, 1) ∧ 59 + 1 = 60 := ⟨by decide +kernel, rfl⟩
theorem zd_M_swapped_60 : decode zb_M_swapped 60 = .ok (.iconst (-1), 1) ∧ 60 + 1 = 61 := ⟨by decide +kernel, rfl⟩
theorem zd_M_swapped_61 : decode zb_M_swapped 61 = .ok (.putfield 162, 3) ∧ 61 + 3 = 64 := ⟨by decide +kernel, rfl⟩
theorem zd_M_swapped_64 : decode zb_M_swapped 64 = .ok (.aload_n 0, 1) ∧ 64 + 1 = 65 := ⟨by decide +kernel, rfl⟩
theorem zd_M_swapped_65 : decode zb_M_swapped 65 = .ok (.iconst (-1), 1) ∧ 65 + 1 = 66 := ⟨by decide +kernel, rfl⟩
theorem zd_M_swapped_66 : decode zb_M_swapped 66 = .ok (.putfield 165, 3) ∧ 66 + 3 = 69 := ⟨by decide +kernel, rfl⟩
theorem zd_M_swapped_69 : decode zb_M_swapped 69 = .ok (.iload 5, 2) ∧ 69 + 2 = 71 := ⟨by decide +kernel, rfl⟩
theorem zd_M_swapped_71 : decode zb_M_swapped 71 = .ok (.ifCond .eq 7, 3) ∧ ((71 : Nat) : Int) + (7) = ((78 : Nat) : Int) ∧ 71 + 3 = 74 := ⟨by decide +kernel, by decide, rfl⟩
theorem zd_M_swapped_74 : decode zb_M_swapped 74 = .ok (.iconst 1, 1) ∧ 74 + 1 = 75 := ⟨by decide +kernel, rfl⟩
theorem zd_M_swapped_75 : decode zb_M_swapped 75 = .ok (.goto 4, 3) ∧ ((75 : Nat) : Int) + (4) = ((79 : Nat) : Int) ∧ 75 + 3 = 78 := ⟨by decide +kernel, by decide, rfl⟩
theorem zd_M_swapped_78 : decode zb_M_swapped 78 = .ok (.iconst 0, 1) ∧ 78 + 1 = 79 := ⟨by decide +kernel, rfl⟩
theorem zd_M_swapped_79 : decode zb_M_swapped 79 = .ok (.ireturn, 1) ∧ 79 + 1 = 80 := ⟨by decide +kernel, rfl⟩
theorem zd_M_isLamp_0 : decode zb_M_isLamp 0 = .ok (.iload_n 1, 1) ∧ 0 + 1 = 1 := ⟨by decide +kernel, rfl⟩
theorem zd_M_isLamp_1 : decode zb_M_isLamp 1 = .ok (.iconst 0, 1) ∧ 1 + 1 = 2 := ⟨by decide +kernel, rfl⟩
theorem zd_M_isLamp_2 : decode zb_M_isLamp 2 = .ok (.aload_n 0, 1) ∧ 2 + 1 = 3 := ⟨by decide +kernel, rfl⟩
theorem zd_M_isLamp_3 : decode zb_M_isLamp 3 = .ok (.getfield 63, 3) ∧ 3 + 3 = 6 := ⟨by decide +kernel, rfl⟩
theorem zd_M_isLamp_6 : decode zb_M_isLamp 6 = .ok (.aload_n 0, 1) ∧ 6 + 1 = 7 := ⟨by decide +kernel, rfl⟩
theorem zd_M_isLamp_7 : decode zb_M_isLamp 7 = .ok (.getfield 51, 3) ∧ 7 + 3 = 10 := ⟨by decide +kernel, rfl⟩
theorem zd_M_isLamp_10 : decode zb_M_isLamp 10 = .ok (.iaload, 1) ∧ 10 + 1 = 11 := ⟨by decide +kernel, rfl⟩
theorem zd_M_isLamp_11 : decode zb_M_isLamp 11 = .ok (.iconst 1, 1) ∧ 11 + 1 = 12 := ⟨by decide +kernel, rfl⟩
theorem zd_M_isLamp_12 : decode zb_M_isLamp 12 = .ok (.isub, 1) ∧ 12 + 1 = 13 := ⟨by decide +kernel, rfl⟩
theorem zd_M_isLamp_13 : decode zb_M_isLamp 13 = .ok (.invokestatic 320, 3) ∧ 13 + 3 = 16 := ⟨by decide +kernel, rfl⟩
theorem zd_M_isLamp_16 : decode zb_M_isLamp 16 = .ok (.ireturn, 1) ∧ 16 + 1 = 17 := ⟨by decide +kernel, rfl⟩
theorem zd_M_reach_0 : decode zb_M_reach 0 = .ok (.aload_n 0, 1) ∧ 0 + 1 = 1 := ⟨by decide +kernel, rfl⟩
theorem zd_M_reach_1 : decode zb_M_reach 1 = .ok (.iload_n 1, 1) ∧ 1 + 1 = 2 := ⟨by decide +kernel, rfl⟩
theorem zd_M_reach_2 : decode zb_M_reach 2 = .ok (.invokevirtual 488, 3) ∧ 2 + 3 = 5 := ⟨by decide +kernel, rfl⟩
theorem zd_M_reach_5 : decode zb_M_reach 5 = .ok (.ifCond .eq 26, 3) ∧ ((5 : Nat) : Int) + (26) = ((31 : Nat) : Int) ∧ 5 + 3 = 8 := ⟨by decide +kernel, by decide, rfl⟩
theorem zd_M_reach_8 : decode zb_M_reach 8 = .ok (.aload_n 0, 1) ∧ 8 + 1 = 9 := ⟨by decide +kernel, rfl⟩
theorem zd_M_reach_9 : decode zb_M_reach 9 = .ok (.iload_n 2, 1) ∧ 9 + 1 = 10 := ⟨by decide +kernel, rfl⟩
theorem zd_M_reach_10 : decode zb_M_reach 10 = .ok (.invokevirtual 409, 3) ∧ 10 + 3 = 13 := ⟨by decide +kernel, rfl⟩
theorem zd_M_reach_13 : decode zb_M_reach 13 = .ok (.ifCond .eq 18, 3) ∧ ((13 : Nat) : Int) + (18) = ((31 : Nat) : Int) ∧ 13 + 3 = 16 := ⟨by decide +kernel, by decide, rfl⟩
theorem zd_M_reach_16 : decode zb_M_reach 16 = .ok (.iload_n 3, 1) ∧ 16 + 1 = 17 := ⟨by decide +kernel, rfl⟩
theorem zd_M_reach_17 : decode zb_M_reach 17 = .ok (.iconst 1, 1) ∧ 17 + 1 = 18 := ⟨by decide +kernel, rfl⟩
theorem zd_M_reach_18 : decode zb_M_reach 18 = .ok (.if_icmp .eq 15, 3) ∧ ((18 : Nat) : Int) + (15) = ((33 : Nat) : Int) ∧ 18 + 3 = 21 := ⟨by decide +kernel, by decide, rfl⟩
theorem zd_M_reach_21 : decode zb_M_reach 21 = .ok (.iload_n 3, 1) ∧ 21 + 1 = 22 := ⟨by decide +kernel, rfl⟩
theorem zd_M_reach_22 : decode zb_M_reach 22 = .ok (.iconst 2, 1) ∧ 22 + 1 = 23 := ⟨by decide +kernel, rfl⟩
theorem zd_M_reach_23 : decode zb_M_reach 23 = .ok (.if_icmp .eq 10, 3) ∧ ((23 : Nat) : Int) + (10) = ((33 : Nat) : Int) ∧ 23 + 3 = 26 := ⟨by decide +kernel, by decide, rfl⟩
theorem zd_M_reach_26 : decode zb_M_reach 26 = .ok (.iload_n 3, 1) ∧ 26 + 1 = 27 := ⟨by decide +kernel, rfl⟩
theorem zd_M_reach_27 : decode zb_M_reach 27 = .ok (.iconst 4, 1) ∧ 27 + 1 = 28 := ⟨by decide +kernel, rfl⟩
theorem zd_M_reach_28 : decode zb_M_reach 28 = .ok (.if_icmp .eq 5, 3) ∧ ((28 : Nat) : Int) + (5) = ((33 : Nat) : Int) ∧ 28 + 3 = 31 := ⟨by decide +kernel, by decide, rfl⟩
theorem zd_M_reach_31 : decode zb_M_reach 31 = .ok (.iconst (-1), 1) ∧ 31 + 1 = 32 := ⟨by decide +kernel, rfl⟩
theorem zd_M_reach_32 : decode zb_M_reach 32 = .ok (.ireturn, 1) ∧ 32 + 1 = 33 := ⟨by decide +kernel, rfl⟩
theorem zd_M_reach_33 : decode zb_M_reach 33 = .ok (.iconst 0, 1) ∧ 33 + 1 = 34 := ⟨by decide +kernel, rfl⟩
theorem zd_M_reach_34 : decode zb_M_reach 34 = .ok (.istore 4, 2) ∧ 34 + 2 = 36 := ⟨by decide +kernel, rfl⟩
theorem zd_M_reach_36 : decode zb_M_reach 36 = .ok (.iload 4, 2) ∧ 36 + 2 = 38 := ⟨by decide +kernel, rfl⟩
theorem zd_M_reach_38 : decode zb_M_reach 38 = .ok (.sipush 576, 3) ∧ 38 + 3 = 41 := ⟨by decide +kernel, rfl⟩
theorem zd_M_reach_41 : decode zb_M_reach 41 = .ok (.if_icmp .ge 25, 3) ∧ ((41 : Nat) : Int) + (25) = ((66 : Nat) : Int) ∧ 41 + 3 = 44 := ⟨by decide +kernel, by decide, rfl⟩
theorem zd_M_reach_44 : decode zb_M_reach 44 = .ok (.aload_n 0, 1) ∧ 44 + 1 = 45 := ⟨by decide +kernel, rfl⟩
theorem zd_M_reach_45 : decode zb_M_reach 45 = .ok (.getfield 174, 3) ∧ 45 + 3 = 48 := ⟨by decide +kernel, rfl⟩
theorem zd_M_reach_48 : decode zb_M_reach 48 = .ok (.iload 4, 2) ∧ 48 + 2 = 50 := ⟨by decide +kernel, rfl⟩
theorem zd_M_reach_50 : decode zb_M_reach 50 = .ok (.iconst 0, 1) ∧ 50 + 1 = 51 := ⟨by decide +kernel, rfl⟩
theorem zd_M_reach_51 : decode zb_M_reach 51 = .ok (.iastore, 1) ∧ 51 + 1 = 52 := ⟨by decide +kernel, rfl⟩
theorem zd_M_reach_52 : decode zb_M_reach 52 = .ok (.aload_n 0, 1) ∧ 52 + 1 = 53 := ⟨by decide +kernel, rfl⟩
theorem zd_M_reach_53 : decode zb_M_reach 53 = .ok (.getfield 213, 3) ∧ 53 + 3 = 56 := ⟨by decide +kernel, rfl⟩
theorem zd_M_reach_56 : decode zb_M_reach 56 = .ok (.iload 4, 2) ∧ 56 + 2 = 58 := ⟨by decide +kernel, rfl⟩
theorem zd_M_reach_58 : decode zb_M_reach 58 = .ok (.iconst (-1), 1) ∧ 58 + 1 = 59 := ⟨by decide +kernel, rfl⟩
theorem zd_M_reach_59 : decode zb_M_reach 59 = .ok (.iastore, 1) ∧ 59 + 1 = 60 := ⟨by decide +kernel, rfl⟩
theorem zd_M_reach_60 : decode zb_M_reach 60 = .ok (.iinc 4 1, 3) ∧ 60 + 3 = 63 := ⟨by decide +kernel, rfl⟩
theorem zd_M_reach_63 : decode zb_M_reach 63 = .ok (.goto (-27), 3) ∧ ((63 : Nat) : Int) + (-27) = ((36 : Nat) : Int) ∧ 63 + 3 = 66 := ⟨by decide +kernel, by decide, rfl⟩
theorem zd_M_reach_66 : decode zb_M_reach 66 = .ok (.aload_n 0, 1) ∧ 66 + 1 = 67 := ⟨by decide +kernel, rfl⟩
theorem zd_M_reach_67 : decode zb_M_reach 67 = .ok (.iconst 0, 1) ∧ 67 + 1 = 68 := ⟨by decide +kernel, rfl⟩
theorem zd_M_reach_68 : decode zb_M_reach 68 = .ok (.putfield 180, 3) ∧ 68 + 3 = 71 := ⟨by decide +kernel, rfl⟩
theorem zd_M_reach_71 : decode zb_M_reach 71 = .ok (.iconst 0, 1) ∧ 71 + 1 = 72 := ⟨by decide +kernel, rfl⟩
theorem zd_M_reach_72 : decode zb_M_reach 72 = .ok (.istore 4, 2) ∧ 72 + 2 = 74 := ⟨by decide +kernel, rfl⟩
theorem zd_M_reach_74 : decode zb_M_reach 74 = .ok (.iload 4, 2) ∧ 74 + 2 = 76 := ⟨by decide +kernel, rfl⟩
theorem zd_M_reach_76 : decode zb_M_reach 76 = .ok (.sipush 144, 3) ∧ 76 + 3 = 79 := ⟨by decide +kernel, rfl⟩
theorem zd_M_reach_79 : decode zb_M_reach 79 = .ok (.if_icmp .ge 59, 3) ∧ ((79 : Nat) : Int) + (59) = ((138 : Nat) : Int) ∧ 79 + 3 = 82 := ⟨by decide +kernel, by decide, rfl⟩
theorem zd_M_reach_82 : decode zb_M_reach 82 = .ok (.aload_n 0, 1) ∧ 82 + 1 = 83 := ⟨by decide +kernel, rfl⟩
theorem zd_M_reach_83 : decode zb_M_reach 83 = .ok (.iload 4, 2) ∧ 83 + 2 = 85 := ⟨by decide +kernel, rfl⟩
theorem zd_M_reach_85 : decode zb_M_reach 85 = .ok (.invokevirtual 424, 3) ∧ 85 + 3 = 88 := ⟨by decide +kernel, rfl⟩
theorem zd_M_reach_88 : decode zb_M_reach 88 = .ok (.iconst 1, 1) ∧ 88 + 1 = 89 := ⟨by decide +kernel, rfl⟩
theorem zd_M_reach_89 : decode zb_M_reach 89 = .ok (.if_icmp .ne 43, 3) ∧ ((89 : Nat) : Int) + (43) = ((132 : Nat) : Int) ∧ 89 + 3 = 92 := ⟨by decide +kernel, by decide, rfl⟩
theorem zd_M_reach_92 : decode zb_M_reach 92 = .ok (.aload_n 0, 1) ∧ 92 + 1 = 93 := ⟨by decide +kernel, rfl⟩
theorem zd_M_reach_93 : decode zb_M_reach 93 = .ok (.iload 4, 2) ∧ 93 + 2 = 95 := ⟨by decide +kernel, rfl⟩
theorem zd_M_reach_95 : decode zb_M_reach 95 = .ok (.invokevirtual 417, 3) ∧ 95 + 3 = 98 := ⟨by decide +kernel, rfl⟩
theorem zd_M_reach_98 : decode zb_M_reach 98 = .ok (.iload_n 1, 1) ∧ 98 + 1 = 99 := ⟨by decide +kernel, rfl⟩
theorem zd_M_reach_99 : decode zb_M_reach 99 = .ok (.if_icmp .ne 33, 3) ∧ ((99 : Nat) : Int) + (33) = ((132 : Nat) : Int) ∧ 99 + 3 = 102 := ⟨by decide +kernel, by decide, rfl⟩
theorem zd_M_reach_102 : decode zb_M_reach 102 = .ok (.aload_n 0, 1) ∧ 102 + 1 = 103 := ⟨by decide +kernel, rfl⟩
theorem zd_M_reach_103 : decode zb_M_reach 103 = .ok (.iload 4, 2) ∧ 103 + 2 = 105 := ⟨by decide +kernel, rfl⟩
theorem zd_M_reach_105 : decode zb_M_reach 105 = .ok (.aload_n 0, 1) ∧ 105 + 1 = 106 := ⟨by decide +kernel, rfl⟩
theorem zd_M_reach_106 : decode zb_M_reach 106 = .ok (.getfield 84, 3) ∧ 106 + 3 = 109 := ⟨by decide +kernel, rfl⟩
theorem zd_M_reach_109 : decode zb_M_reach 109 = .ok (.aload_n 0, 1) ∧ 109 + 1 = 110 := ⟨by decide +kernel, rfl⟩
theorem zd_M_reach_110 : decode zb_M_reach 110 = .ok (.iload 4, 2) ∧ 110 + 2 = 112 := ⟨by decide +kernel, rfl⟩
theorem zd_M_reach_112 : decode zb_M_reach 112 = .ok (.invokevirtual 414, 3) ∧ 112 + 3 = 115 := ⟨by decide +kernel, rfl⟩
theorem zd_M_reach_115 : decode zb_M_reach 115 = .ok (.iaload, 1) ∧ 115 + 1 = 116 := ⟨by decide +kernel, rfl⟩
theorem zd_M_reach_116 : decode zb_M_reach 116 = .ok (.aload_n 0, 1) ∧ 116 + 1 = 117 := ⟨by decide +kernel, rfl⟩
theorem zd_M_reach_117 : decode zb_M_reach 117 = .ok (.getfield 81, 3) ∧ 117 + 3 = 120 := ⟨by decide +kernel, rfl⟩
theorem zd_M_reach_120 : decode zb_M_reach 120 = .ok (.aload_n 0, 1) ∧ 120 + 1 = 121 := ⟨by decide +kernel, rfl⟩
theorem zd_M_reach_121 : decode zb_M_reach 121 = .ok (.iload 4, 2) ∧ 121 + 2 = 123 := ⟨by decide +kernel, rfl⟩
theorem zd_M_reach_123 : decode zb_M_reach 123 = .ok (.invokevirtual 414, 3) ∧ 123 + 3 = 126 := ⟨by decide +kernel, rfl⟩
theorem zd_M_reach_126 : decode zb_M_reach 126 = .ok (.iaload, 1) ∧ 126 + 1 = 127 := ⟨by decide +kernel, rfl⟩
theorem zd_M_reach_127 : decode zb_M_reach 127 = .ok (.iload_n 3, 1) ∧ 127 + 1 = 128 := ⟨by decide +kernel, rfl⟩
theorem zd_M_reach_128 : decode zb_M_reach 128 = .ok (.iand, 1) ∧ 128 + 1 = 129 := ⟨by decide +kernel, rfl⟩
theorem zd_M_reach_129 : decode zb_M_reach 129 = .ok (.invokevirtual 430, 3) ∧ 129 + 3 = 132 := ⟨by decide +kernel, rfl⟩
theorem zd_M_reach_132 : decode zb_M_reach 132 = .ok (.iinc 4 1, 3) ∧ 132 + 3 = 135 := ⟨by decide +kernel, rfl⟩
theorem zd_M_reach_135 : decode zb_M_reach 135 = .ok (.goto (-61), 3) ∧ ((135 : Nat) : Int) + (-61) = ((74 : Nat) : Int) ∧ 135 + 3 = 138 := ⟨by decide +kernel, by decide, rfl⟩
theorem zd_M_reach_138 : decode zb_M_reach 138 = .ok (.iconst 0, 1) ∧ 138 + 1 = 139 := ⟨by decide +kernel, rfl⟩
theorem zd_M_reach_139 : decode zb_M_reach 139 = .ok (.istore 4, 2) ∧ 139 + 2 = 141 := ⟨by decide +kernel, rfl⟩
theorem zd_M_reach_141 : decode zb_M_reach 141 = .ok (.iconst 1, 1) ∧ 141 + 1 = 142 := ⟨by decide +kernel, rfl⟩
theorem zd_M_reach_142 : decode zb_M_reach 142 = .ok (.istore 5, 2) ∧ 142 + 2 = 144 := ⟨by decide +kernel, rfl⟩
theorem zd_M_reach_144 : decode zb_M_reach 144 = .ok (.iload 4, 2) ∧ 144 + 2 = 146 := ⟨by decide +kernel, rfl⟩
theorem zd_M_reach_146 : decode zb_M_reach 146 = .ok (.aload_n 0, 1) ∧ 146 + 1 = 147 := ⟨by decide +kernel, rfl⟩
theorem zd_M_reach_147 : decode zb_M_reach 147 = .ok (.getfield 180, 3) ∧ 147 + 3 = 150 := ⟨by decide +kernel, rfl⟩
theorem zd_M_reach_150 : decode zb_M_reach 150 = .ok (.if_icmp .ge 77, 3) ∧ ((150 : Nat) : Int) + (77) = ((227 : Nat) : Int) ∧ 150 + 3 = 153 := ⟨by decide +kernel, by decide, rfl⟩
theorem zd_M_reach_153 : decode zb_M_reach 153 = .ok (.aload_n 0, 1) ∧ 153 + 1 = 154 := ⟨by decide +kernel, rfl⟩
theorem zd_M_reach_154 : decode zb_M_reach 154 = .ok (.getfield 180, 3) ∧ 154 + 3 = 157 := ⟨by decide +kernel, rfl⟩
theorem zd_M_reach_157 : decode zb_M_reach 157 = .ok (.istore 6, 2) ∧ 157 + 2 = 159 := ⟨by decide +kernel, rfl⟩
theorem zd_M_reach_159 : decode zb_M_reach 159 = .ok (.iload 4, 2) ∧ 159 + 2 = 161 := ⟨by decide +kernel, rfl⟩
theorem zd_M_reach_161 : decode zb_M_reach 161 = .ok (.istore 7, 2) ∧ 161 + 2 = 163 := ⟨by decide +kernel, rfl⟩
theorem zd_M_reach_163 : decode zb_M_reach 163 = .ok (.iload 7, 2) ∧ 163 + 2 = 165 := ⟨by decide +kernel, rfl⟩
theorem zd_M_reach_165 : decode zb_M_reach 165 = .ok (.iload 6, 2) ∧ 165 + 2 = 167 := ⟨by decide +kernel, rfl⟩
theorem zd_M_reach_167 : decode zb_M_reach 167 = .ok (.if_icmp .ge 50, 3) ∧ ((167 : Nat) : Int) + (50) = ((217 : Nat) : Int) ∧ 167 + 3 = 170 := ⟨by decide +kernel, by decide, rfl⟩
theorem zd_M_reach_170 : decode zb_M_reach 170 = .ok (.aload_n 0, 1) ∧ 170 + 1 = 171 := ⟨by decide +kernel, rfl⟩
theorem zd_M_reach_171 : decode zb_M_reach 171 = .ok (.getfield 213, 3) ∧ 171 + 3 = 174 := ⟨by decide +kernel, rfl⟩
theorem zd_M_reach_174 : decode zb_M_reach 174 = .ok (.aload_n 0, 1) ∧ 174 + 1 = 175 := ⟨by decide +kernel, rfl⟩
theorem zd_M_reach_175 : decode zb_M_reach 175 = .ok (.getfield 177, 3) ∧ 175 + 3 = 178 := ⟨by decide +kernel, rfl⟩
theorem zd_M_reach_178 : decode zb_M_reach 178 = .ok (.iload 7, 2) ∧ 178 + 2 = 180 := ⟨by decide +kernel, rfl⟩
theorem zd_M_reach_180 : decode zb_M_reach 180 = .ok (.iaload, 1) ∧ 180 + 1 = 181 := ⟨by decide +kernel, rfl⟩
theorem zd_M_reach_181 : decode zb_M_reach 181 = .ok (.iload 5, 2) ∧ 181 + 2 = 183 := ⟨by decide +kernel, rfl⟩
theorem zd_M_reach_183 : decode zb_M_reach 183 = .ok (.iastore, 1) ∧ 183 + 1 = 184 := ⟨by decide +kernel, rfl⟩
theorem zd_M_reach_184 : decode zb_M_reach 184 = .ok (.aload_n 0, 1) ∧ 184 + 1 = 185 := ⟨by decide +kernel, rfl⟩
theorem zd_M_reach_185 : decode zb_M_reach 185 = .ok (.aload_n 0, 1) ∧ 185 + 1 = 186 := ⟨by decide +kernel, rfl⟩
theorem zd_M_reach_186 : decode zb_M_reach 186 = .ok (.getfield 177, 3) ∧ 186 + 3 = 189 := ⟨by decide +kernel, rfl⟩
theorem zd_M_reach_189 : decode zb_M_reach 189 = .ok (.iload 7, 2) ∧ 189 + 2 = 191 := ⟨by decide +kernel, rfl⟩
theorem zd_M_reach_191 : decode zb_M_reach 191 = .ok (.iaload, 1) ∧ 191 + 1 = 192 := ⟨by decide +kernel, rfl⟩
theorem zd_M_reach_192 : decode zb_M_reach 192 = .ok (.iconst 4, 1) ∧ 192 + 1 = 193 := ⟨by decide +kernel, rfl⟩
theorem zd_M_reach_193 : decode zb_M_reach 193 = .ok (.idiv, 1) ∧ 193 + 1 = 194 := ⟨by decide +kernel, rfl⟩
theorem zd_M_reach_194 : decode zb_M_reach 194 = .ok (.aload_n 0, 1) ∧ 194 + 1 = 195 := ⟨by decide +kernel, rfl⟩
theorem zd_M_reach_195 : decode zb_M_reach 195 = .ok (.getfield 177, 3) ∧ 195 + 3 = 198 := ⟨by decide +kernel, rfl⟩
theorem zd_M_reach_198 : decode zb_M_reach 198 = .ok (.iload 7, 2) ∧ 198 + 2 = 200 := ⟨by decide +kernel, rfl⟩
theorem zd_M_reach_200 : decode zb_M_reach 200 = .ok (.iaload, 1) ∧ 200 + 1 = 201 := ⟨by decide +kernel, rfl⟩
theorem zd_M_reach_201 : decode zb_M_reach 201 = .ok (.iconst 4, 1) ∧ 201 + 1 = 202 := ⟨by decide +kernel, rfl⟩
theorem zd_M_reach_202 : decode zb_M_reach 202 = .ok (.irem, 1) ∧ 202 + 1 = 203 := ⟨by decide +kernel, rfl⟩
theorem zd_M_reach_203 : decode zb_M_reach 203 = .ok (.iload_n 3, 1) ∧ 203 + 1 = 204 := ⟨by decide +kernel, rfl⟩
theorem zd_M_reach_204 : decode zb_M_reach 204 = .ok (.aload_n 0, 1) ∧ 204 + 1 = 205 := ⟨by decide +kernel, rfl⟩
theorem zd_M_reach_205 : decode zb_M_reach 205 = .ok (.getfield 144, 3) ∧ 205 + 3 = 208 := ⟨by decide +kernel, rfl⟩
theorem zd_M_reach_208 : decode zb_M_reach 208 = .ok (.invokevirtual 437, 3) ∧ 208 + 3 = 211 := ⟨by decide +kernel, rfl⟩
theorem zd_M_reach_211 : decode zb_M_reach 211 = .ok (.iinc 7 1, 3) ∧ 211 + 3 = 214 := ⟨by decide +kernel, rfl⟩
theorem zd_M_reach_214 : decode zb_M_reach 214 = .ok (.goto (-51), 3) ∧ ((214 : Nat) : Int) + (-51) = ((163 : Nat) : Int) ∧ 214 + 3 = 217 := ⟨by decide +kernel, by decide, rfl⟩
theorem zd_M_reach_217 : decode zb_M_reach 217 = .ok (.iload 6, 2) ∧ 217 + 2 = 219 := ⟨by decide +kernel, rfl⟩
theorem zd_M_reach_219 : decode zb_M_reach 219 = .ok (.istore 4, 2) ∧ 219 + 2 = 221 := ⟨by decide +kernel, rfl⟩
theorem zd_M_reach_221 : decode zb_M_reach 221 = .ok (.iinc 5 1, 3) ∧ 221 + 3 = 224 := ⟨by decide +kernel, rfl⟩
theorem zd_M_reach_224 : decode zb_M_reach 224 = .ok (.goto (-80), 3) ∧ ((224 : Nat) : Int) + (-80) = ((144 : Nat) : Int) ∧ 224 + 3 = 227 := ⟨by decide +kernel, by decide, rfl⟩
theorem zd_M_reach_227 : decode zb_M_reach 227 = .ok (.iconst (-1), 1) ∧ 227 + 1 = 228 := ⟨by decide +kernel, rfl⟩
theorem zd_M_reach_228 : decode zb_M_reach 228 = .ok (.istore 6, 2) ∧ 228 + 2 = 230 := ⟨by decide +kernel, rfl⟩
theorem zd_M_reach_230 : decode zb_M_reach 230 = .ok (.aload_n 0, 1) ∧ 230 + 1 = 231 := ⟨by decide +kernel, rfl⟩
theorem zd_M_reach_231 : decode zb_M_reach 231 = .ok (.getfield 91, 3) ∧ 231 + 3 = 234 := ⟨by decide +kernel, rfl⟩
theorem zd_M_reach_234 : decode zb_M_reach 234 = .ok (.bipush 8, 2) ∧ 234 + 2 = 236 := ⟨by decide +kernel, rfl⟩
theorem zd_M_reach_236 : decode zb_M_reach 236 = .ok (.aload_n 0, 1) ∧ 236 + 1 = 237 := ⟨by decide +kernel, rfl⟩
theorem zd_M_reach_237 : decode zb_M_reach 237 = .ok (.getfield 51, 3) ∧ 237 + 3 = 240 := ⟨by decide +kernel, rfl⟩
theorem zd_M_reach_240 : decode zb_M_reach 240 = .ok (.imul, 1) ∧ 240 + 1 = 241 := ⟨by decide +kernel, rfl⟩
theorem zd_M_reach_241 : decode zb_M_reach 241 = .ok (.iload_n 2, 1) ∧ 241 + 1 = 242 := ⟨by decide +kernel, rfl⟩
theorem zd_M_reach_242 : decode zb_M_reach 242 = .ok (.iadd, 1) ∧ 242 + 1 = 243 := ⟨by decide +kernel, rfl⟩
theorem zd_M_reach_243 : decode zb_M_reach 243 = .ok (.iaload, 1) ∧ 243 + 1 = 244 := ⟨by decide +kernel, rfl⟩
theorem zd_M_reach_244 : decode zb_M_reach 244 = .ok (.istore 7, 2) ∧ 244 + 2 = 246 := ⟨by decide +kernel, rfl⟩
theorem zd_M_reach_246 : decode zb_M_reach 246 = .ok (.iconst 0, 1) ∧ 246 + 1 = 247 := ⟨by decide +kernel, rfl⟩
theorem zd_M_reach_247 : decode zb_M_reach 247 = .ok (.istore 8, 2) ∧ 247 + 2 = 249 := ⟨by decide +kernel, rfl⟩
theorem zd_M_reach_249 : decode zb_M_reach 249 = .ok (.iload 8, 2) ∧ 249 + 2 = 251 := ⟨by decide +kernel, rfl⟩
theorem zd_M_reach_251 : decode zb_M_reach 251 = .ok (.iconst 4, 1) ∧ 251 + 1 = 252 := ⟨by decide +kernel, rfl⟩
theorem zd_M_reach_252 : decode zb_M_reach 252 = .ok (.if_icmp .ge 46, 3) ∧ ((252 : Nat) : Int) + (46) = ((298 : Nat) : Int) ∧ 252 + 3 = 255 := ⟨by decide +kernel, by decide, rfl⟩
theorem zd_M_reach_255 : decode zb_M_reach 255 = .ok (.aload_n 0, 1) ∧ 255 + 1 = 256 := ⟨by decide +kernel, rfl⟩
theorem zd_M_reach_256 : decode zb_M_reach 256 = .ok (.getfield 213, 3) ∧ 256 + 3 = 259 := ⟨by decide +kernel, rfl⟩
theorem zd_M_reach_259 : decode zb_M_reach 259 = .ok (.iconst 4, 1) ∧ 259 + 1 = 260 := ⟨by decide +kernel, rfl⟩
theorem zd_M_reach_260 : decode zb_M_reach 260 = .ok (.iload 7, 2) ∧ 260 + 2 = 262 := ⟨by decide +kernel, rfl⟩
theorem zd_M_reach_262 : decode zb_M_reach 262 = .ok (.imul, 1) ∧ 262 + 1 = 263 := ⟨by decide +kernel, rfl⟩
theorem zd_M_reach_263 : decode zb_M_reach 263 = .ok (.iload 8, 2) ∧ 263 + 2 = 265 := ⟨by decide +kernel, rfl⟩
theorem zd_M_reach_265 : decode zb_M_reach 265 = .ok (.iadd, 1) ∧ 265 + 1 = 266 := ⟨by decide +kernel, rfl⟩
theorem zd_M_reach_266 : decode zb_M_reach 266 = .ok (.iaload, 1) ∧ 266 + 1 = 267 := ⟨by decide +kernel, rfl⟩
theorem zd_M_reach_267 : decode zb_M_reach 267 = .ok (.istore 9, 2) ∧ 267 + 2 = 269 := ⟨by decide +kernel, rfl⟩
theorem zd_M_reach_269 : decode zb_M_reach 269 = .ok (.iload 9, 2) ∧ 269 + 2 = 271 := ⟨by decide +kernel, rfl⟩
theorem zd_M_reach_271 : decode zb_M_reach 271 = .ok (.iconst (-1), 1) ∧ 271 + 1 = 272 := ⟨by decide +kernel, rfl⟩
theorem zd_M_reach_272 : decode zb_M_reach 272 = .ok (.if_icmp .eq 20, 3) ∧ ((272 : Nat) : Int) + (20) = ((292 : Nat) : Int) ∧ 272 + 3 = 275 := ⟨by decide +kernel, by decide, rfl⟩
theorem zd_M_reach_275 : decode zb_M_reach 275 = .ok (.iload 6, 2) ∧ 275 + 2 = 277 := ⟨by decide +kernel, rfl⟩
theorem zd_M_reach_277 : decode zb_M_reach 277 = .ok (.iconst (-1), 1) ∧ 277 + 1 = 278 := ⟨by decide +kernel, rfl⟩
theorem zd_M_reach_278 : decode zb_M_reach 278 = .ok (.if_icmp .eq 10, 3) ∧ ((278 : Nat) : Int) + (10) = ((288 : Nat) : Int) ∧ 278 + 3 = 281 := ⟨by decide +kernel, by decide, rfl⟩
theorem zd_M_reach_281 : decode zb_M_reach 281 = .ok (.iload 9, 2) ∧ 281 + 2 = 283 := ⟨by decide +kernel, rfl⟩
theorem zd_M_reach_283 : decode zb_M_reach 283 = .ok (.iload 6, 2) ∧ 283 + 2 = 285 := ⟨by decide +kernel, rfl⟩
theorem zd_M_reach_285 : decode zb_M_reach 285 = .ok (.if_icmp .ge 7, 3) ∧ ((285 : Nat) : Int) + (7) = ((292 : Nat) : Int) ∧ 285 + 3 = 288 := ⟨by decide +kernel, by decide, rfl⟩
theorem zd_M_reach_288 : decode zb_M_reach 288 = .ok (.iload 9, 2) ∧ 288 + 2 = 290 := ⟨by decide +kernel, rfl⟩
theorem zd_M_reach_290 : decode zb_M_reach 290 = .ok (.istore 6, 2) ∧ 290 + 2 = 292 := ⟨by decide +kernel, rfl⟩
theorem zd_M_reach_292 : decode zb_M_reach 292 = .ok (.iinc 8 1, 3) ∧ 292 + 3 = 295 := ⟨by decide +kernel, rfl⟩
theorem zd_M_reach_295 : decode zb_M_reach 295 = .ok (.goto (-46), 3) ∧ ((295 : Nat) : Int) + (-46) = ((249 : Nat) : Int) ∧ 295 + 3 = 298 := ⟨by decide +kernel, by decide, rfl⟩
theorem zd_M_reach_298 : decode zb_M_reach 298 = .ok (.iload 6, 2) ∧ 298 + 2 = 300 := ⟨by decide +kernel, rfl⟩
theorem zd_M_reach_300 : decode zb_M_reach 300 = .ok (.ireturn, 1) ∧ 300 + 1 = 301 := ⟨by decide +kernel, rfl⟩
theorem zd_M_behind_0 : decode zb_M_behind 0 = .ok (.aload_n 0, 1) ∧ 0 + 1 = 1 := ⟨by decide +kernel, rfl⟩
theorem zd_M_behind_1 : decode zb_M_behind 1 = .ok (.iload_n 1, 1) ∧ 1 + 1 = 2 := ⟨by decide +kernel, rfl⟩
theorem zd_M_behind_2 : decode zb_M_behind 2 = .ok (.invokevirtual 409, 3) ∧ 2 + 3 = 5 := ⟨by decide +kernel, rfl⟩
theorem zd_M_behind_5 : decode zb_M_behind 5 = .ok (.ifCond .ne 5, 3) ∧ ((5 : Nat) : Int) + (5) = ((10 : Nat) : Int) ∧ 5 + 3 = 8 := ⟨by decide +kernel, by decide, rfl⟩
theorem zd_M_behind_8 : decode zb_M_behind 8 = .ok (.iconst (-1), 1) ∧ 8 + 1 = 9 := ⟨by decide +kernel, rfl⟩
theorem zd_M_behind_9 : decode zb_M_behind 9 = .ok (.ireturn, 1) ∧ 9 + 1 = 10 := ⟨by decide +kernel, rfl⟩
theorem zd_M_behind_10 : decode zb_M_behind 10 = .ok (.iconst 0, 1) ∧ 10 + 1 = 11 := ⟨by decide +kernel, rfl⟩
theorem zd_M_behind_11 : decode zb_M_behind 11 = .ok (.istore_n 2, 1) ∧ 11 + 1 = 12 := ⟨by decide +kernel, rfl⟩
theorem zd_M_behind_12 : decode zb_M_behind 12 = .ok (.iconst 0, 1) ∧ 12 + 1 = 13 := ⟨by decide +kernel, rfl⟩
theorem zd_M_behind_13 : decode zb_M_behind 13 = .ok (.istore_n 3, 1) ∧ 13 + 1 = 14 := ⟨by decide +kernel, rfl⟩
theorem zd_M_behind_14 : decode zb_M_behind 14 = .ok (.iload_n 3, 1) ∧ 14 + 1 = 15 := ⟨by decide +kernel, rfl⟩
theorem zd_M_behind_15 : decode zb_M_behind 15 = .ok (.aload_n 0, 1) ∧ 15 + 1 = 16 := ⟨by decide +kernel, rfl⟩
theorem zd_M_behind_16 : decode zb_M_behind 16 = .ok (.getfield 63, 3) ∧ 16 + 3 = 19 := ⟨by decide +kernel, rfl⟩
theorem zd_M_behind_19 : decode zb_M_behind 19 = .ok (.aload_n 0, 1) ∧ 19 + 1 = 20 := ⟨by decide +kernel, rfl⟩
theorem zd_M_behind_20 : decode zb_M_behind 20 = .ok (.getfield 51, 3) ∧ 20 + 3 = 23 := ⟨by decide +kernel, rfl⟩
theorem zd_M_behind_23 : decode zb_M_behind 23 = .ok (.iaload, 1) ∧ 23 + 1 = 24 := ⟨by decide +kernel, rfl⟩
theorem zd_M_behind_24 : decode zb_M_behind 24 = .ok (.if_icmp .ge 40, 3) ∧ ((24 : Nat) : Int) + (40) = ((64 : Nat) : Int) ∧ 24 + 3 = 27 := ⟨by decide +kernel, by decide, rfl⟩
theorem zd_M_behind_27 : decode zb_M_behind 27 = .ok (.aload_n 0, 1) ∧ 27 + 1 = 28 := ⟨by decide +kernel, rfl⟩
theorem zd_M_behind_28 : decode zb_M_behind 28 = .ok (.iload_n 3, 1) ∧ 28 + 1 = 29 := ⟨by decide +kernel, rfl⟩
theorem zd_M_behind_29 : decode zb_M_behind 29 = .ok (.putfield 183, 3) ∧ 29 + 3 = 32 := ⟨by decide +kernel, rfl⟩
theorem zd_M_behind_32 : decode zb_M_behind 32 = .ok (.aload_n 0, 1) ∧ 32 + 1 = 33 := ⟨by decide +kernel, rfl⟩
theorem zd_M_behind_33 : decode zb_M_behind 33 = .ok (.aload_n 0, 1) ∧ 33 + 1 = 34 := ⟨by decide +kernel, rfl⟩
theorem zd_M_behind_34 : decode zb_M_behind 34 = .ok (.getfield 144, 3) ∧ 34 + 3 = 37 := ⟨by decide +kernel, rfl⟩
theorem zd_M_behind_37 : decode zb_M_behind 37 = .ok (.invokevirtual 458, 3) ∧ 37 + 3 = 40 := ⟨by decide +kernel, rfl⟩
theorem zd_M_behind_40 : decode zb_M_behind 40 = .ok (.iload_n 2, 1) ∧ 40 + 1 = 41 := ⟨by decide +kernel, rfl⟩
theorem zd_M_behind_41 : decode zb_M_behind 41 = .ok (.aload_n 0, 1) ∧ 41 + 1 = 42 := ⟨by decide +kernel, rfl⟩
theorem zd_M_behind_42 : decode zb_M_behind 42 = .ok (.iload_n 1, 1) ∧ 42 + 1 = 43 := ⟨by decide +kernel, rfl⟩
theorem zd_M_behind_43 : decode zb_M_behind 43 = .ok (.invokevirtual 443, 3) ∧ 43 + 3 = 46 := ⟨by decide +kernel, rfl⟩
theorem zd_M_behind_46 : decode zb_M_behind 46 = .ok (.ifCond .eq 9, 3) ∧ ((46 : Nat) : Int) + (9) = ((55 : Nat) : Int) ∧ 46 + 3 = 49 := ⟨by decide +kernel, by decide, rfl⟩
theorem zd_M_behind_49 : decode zb_M_behind 49 = .ok (.iconst 1, 1) ∧ 49 + 1 = 50 := ⟨by decide +kernel, rfl⟩
theorem zd_M_behind_50 : decode zb_M_behind 50 = .ok (.iload_n 3, 1) ∧ 50 + 1 = 51 := ⟨by decide +kernel, rfl⟩
theorem zd_M_behind_51 : decode zb_M_behind 51 = .ok (.ishl, 1) ∧ 51 + 1 = 52 := ⟨by decide +kernel, rfl⟩
theorem zd_M_behind_52 : decode zb_M_behind 52 = .ok (.goto 4, 3) ∧ ((52 : Nat) : Int) + (4) = ((56 : Nat) : Int) ∧ 52 + 3 = 55 := ⟨by decide +kernel, by decide, rfl⟩
theorem zd_M_behind_55 : decode zb_M_behind 55 = .ok (.iconst 0, 1) ∧ 55 + 1 = 56 := ⟨by decide +kernel, rfl⟩
theorem zd_M_behind_56 : decode zb_M_behind 56 = .ok (.ior, 1) ∧ 56 + 1 = 57 := ⟨by decide +kernel, rfl⟩
theorem zd_M_behind_57 : decode zb_M_behind 57 = .ok (.istore_n 2, 1) ∧ 57 + 1 = 58 := ⟨by decide +kernel, rfl⟩
theorem zd_M_behind_58 : decode zb_M_behind 58 = .ok (.iinc 3 1, 3) ∧ 58 + 3 = 61 := ⟨by decide +kernel, rfl⟩
theorem zd_M_behind_61 : decode zb_M_behind 61 = .ok (.goto (-47), 3) ∧ ((61 : Nat) : Int) + (-47) = ((14 : Nat) : Int) ∧ 61 + 3 = 64 := ⟨by decide +kernel, by decide, rfl⟩
theorem zd_M_behind_64 : decode zb_M_behind 64 = .ok (.aload_n 0, 1) ∧ 64 + 1 = 65 := ⟨by decide +kernel, rfl⟩
theorem zd_M_behind_65 : decode zb_M_behind 65 = .ok (.iconst (-1), 1) ∧ 65 + 1 = 66 := ⟨by decide +kernel, rfl⟩
theorem zd_M_behind_66 : decode zb_M_behind 66 = .ok (.putfield 183, 3) ∧ 66 + 3 = 69 := ⟨by decide +kernel, rfl⟩
theorem zd_M_behind_69 : decode zb_M_behind 69 = .ok (.iload_n 2, 1) ∧ 69 + 1 = 70 := ⟨by decide +kernel, rfl⟩
theorem zd_M_behind_70 : decode zb_M_behind 70 = .ok (.ireturn, 1) ∧ 70 + 1 = 71 := ⟨by decide +kernel, rfl⟩
theorem zd_M_isRing_0 : decode zb_M_isRing 0 = .ok (.iconst 0, 1) ∧ 0 + 1 = 1 := ⟨by decide +kernel, rfl⟩
theorem zd_M_isRing_1 : decode zb_M_isRing 1 = .ok (.istore_n 3, 1) ∧ 1 + 1 = 2 := ⟨by decide +kernel, rfl⟩
theorem zd_M_isRing_2 : decode zb_M_isRing 2 = .ok (.iload_n 3, 1) ∧ 2 + 1 = 3 := ⟨by decide +kernel, rfl⟩
theorem zd_M_isRing_3 : decode zb_M_isRing 3 = .ok (.sipush 576, 3) ∧ 3 + 3 = 6 := ⟨by decide +kernel, rfl⟩
theorem zd_M_isRing_6 : decode zb_M_isRing 6 = .ok (.if_icmp .ge 16, 3) ∧ ((6 : Nat) : Int) + (16) = ((22 : Nat) : Int) ∧ 6 + 3 = 9 := ⟨by decide +kernel, by decide, rfl⟩
theorem zd_M_isRing_9 : decode zb_M_isRing 9 = .ok (.aload_n 0, 1) ∧ 9 + 1 = 10 := ⟨by decide +kernel, rfl⟩
theorem zd_M_isRing_10 : decode zb_M_isRing 10 = .ok (.getfield 174, 3) ∧ 10 + 3 = 13 := ⟨by decide +kernel, rfl⟩
theorem zd_M_isRing_13 : decode zb_M_isRing 13 = .ok (.iload_n 3, 1) ∧ 13 + 1 = 14 := ⟨by decide +kernel, rfl⟩
theorem zd_M_isRing_14 : decode zb_M_isRing 14 = .ok (.iconst 0, 1) ∧ 14 + 1 = 15 := ⟨by decide +kernel, rfl⟩
theorem zd_M_isRing_15 : decode zb_M_isRing 15 = .ok (.iastore, 1) ∧ 15 + 1 = 16 := ⟨by decide +kernel, rfl⟩
theorem zd_M_isRing_16 : decode zb_M_isRing 16 = .ok (.iinc 3 1, 3) ∧ 16 + 3 = 19 := ⟨by decide +kernel, rfl⟩
theorem zd_M_isRing_19 : decode zb_M_isRing 19 = .ok (.goto (-17), 3) ∧ ((19 : Nat) : Int) + (-17) = ((2 : Nat) : Int) ∧ 19 + 3 = 22 := ⟨by decide +kernel, by decide, rfl⟩
theorem zd_M_isRing_22 : decode zb_M_isRing 22 = .ok (.aload_n 0, 1) ∧ 22 + 1 = 23 := ⟨by decide +kernel, rfl⟩
theorem zd_M_isRing_23 : decode zb_M_isRing 23 = .ok (.iconst 0, 1) ∧ 23 + 1 = 24 := ⟨by decide +kernel, rfl⟩
theorem zd_M_isRing_24 : decode zb_M_isRing 24 = .ok (.putfield 180, 3) ∧ 24 + 3 = 27 := ⟨by decide +kernel, rfl⟩
theorem zd_M_isRing_27 : decode zb_M_isRing 27 = .ok (.aload_n 0, 1) ∧ 27 + 1 = 28 := ⟨by decide +kernel, rfl⟩
theorem zd_M_isRing_28 : decode zb_M_isRing 28 = .ok (.iload_n 1, 1) ∧ 28 + 1 = 29 := ⟨by decide +kernel, rfl⟩
theorem zd_M_isRing_29 : decode zb_M_isRing 29 = .ok (.iconst 4, 1) ∧ 29 + 1 = 30 := ⟨by decide +kernel, rfl⟩
theorem zd_M_isRing_30 : decode zb_M_isRing 30 = .ok (.idiv, 1) ∧ 30 + 1 = 31 := ⟨by decide +kernel, rfl⟩
theorem zd_M_isRing_31 : decode zb_M_isRing 31 = .ok (.iload_n 1, 1) ∧ 31 + 1 = 32 := ⟨by decide +kernel, rfl⟩
theorem zd_M_isRing_32 : decode zb_M_isRing 32 = .ok (.iconst 4, 1) ∧ 32 + 1 = 33 := ⟨by decide +kernel, rfl⟩
theorem zd_M_isRing_33 : decode zb_M_isRing 33 = .ok (.irem, 1) ∧ 33 + 1 = 34 := ⟨by decide +kernel, rfl⟩
theorem zd_M_isRing_34 : decode zb_M_isRing 34 = .ok (.iload_n 2, 1) ∧ 34 + 1 = 35 := ⟨by decide +kernel, rfl⟩
theorem zd_M_isRing_35 : decode zb_M_isRing 35 = .ok (.aload_n 0, 1) ∧ 35 + 1 = 36 := ⟨by decide +kernel, rfl⟩
theorem zd_M_isRing_36 : decode zb_M_isRing 36 = .ok (.getfield 144, 3) ∧ 36 + 3 = 39 := ⟨by decide +kernel, rfl⟩
theorem zd_M_isRing_39 : decode zb_M_isRing 39 = .ok (.invokevirtual 437, 3) ∧ 39 + 3 = 42 := ⟨by decide +kernel, rfl⟩
theorem zd_M_isRing_42 : decode zb_M_isRing 42 = .ok (.aload_n 0, 1) ∧ 42 + 1 = 43 := ⟨by decide +kernel, rfl⟩
theorem zd_M_isRing_43 : decode zb_M_isRing 43 = .ok (.getfield 180, 3) ∧ 43 + 3 = 46 := ⟨by decide +kernel, rfl⟩
theorem zd_M_isRing_46 : decode zb_M_isRing 46 = .ok (.ifCond .le 50, 3) ∧ ((46 : Nat) : Int) + (50) = ((96 : Nat) : Int) ∧ 46 + 3 = 49 := ⟨by decide +kernel, by decide, rfl⟩
theorem zd_M_isRing_49 : decode zb_M_isRing 49 = .ok (.aload_n 0, 1) ∧ 49 + 1 = 50 := ⟨by decide +kernel, rfl⟩
theorem zd_M_isRing_50 : decode zb_M_isRing 50 = .ok (.getfield 174, 3) ∧ 50 + 3 = 53 := ⟨by decide +kernel, rfl⟩
theorem zd_M_isRing_53 : decode zb_M_isRing 53 = .ok (.iload_n 1, 1) ∧ 53 + 1 = 54 := ⟨by decide +kernel, rfl⟩
theorem zd_M_isRing_54 : decode zb_M_isRing 54 = .ok (.iaload, 1) ∧ 54 + 1 = 55 := ⟨by decide +kernel, rfl⟩
theorem zd_M_isRing_55 : decode zb_M_isRing 55 = .ok (.ifCond .ne 41, 3) ∧ ((55 : Nat) : Int) + (41) = ((96 : Nat) : Int) ∧ 55 + 3 = 58 := ⟨by decide +kernel, by decide, rfl⟩
theorem zd_M_isRing_58 : decode zb_M_isRing 58 = .ok (.aload_n 0, 1) ∧ 58 + 1 = 59 := ⟨by decide +kernel, rfl⟩
theorem zd_M_isRing_59 : decode zb_M_isRing 59 = .ok (.dup, 1) ∧ 59 + 1 = 60 := ⟨by decide +kernel, rfl⟩
theorem zd_M_isRing_60 : decode zb_M_isRing 60 = .ok (.getfield 180, 3) ∧ 60 + 3 = 63 := ⟨by decide +kernel, rfl⟩
theorem zd_M_isRing_63 : decode zb_M_isRing 63 = .ok (.iconst 1, 1) ∧ 63 + 1 = 64 := ⟨by decide +kernel, rfl⟩
theorem zd_M_isRing_64 : decode zb_M_isRing 64 = .ok (.isub, 1) ∧ 64 + 1 = 65 := ⟨by decide +kernel, rfl⟩
theorem zd_M_isRing_65 : decode zb_M_isRing 65 = .ok (.putfield 180, 3) ∧ 65 + 3 = 68 := ⟨by decide +kernel, rfl⟩
theorem zd_M_isRing_68 : decode zb_M_isRing 68 = .ok (.aload_n 0, 1) ∧ 68 + 1 = 69 := ⟨by decide +kernel, rfl⟩
theorem zd_M_isRing_69 : decode zb_M_isRing 69 = .ok (.getfield 177, 3) ∧ 69 + 3 = 72 := ⟨by decide +kernel, rfl⟩
theorem zd_M_isRing_72 : decode zb_M_isRing 72 = .ok (.aload_n 0, 1) ∧ 72 + 1 = 73 := ⟨by decide +kernel, rfl⟩
theorem zd_M_isRing_73 : decode zb_M_isRing 73 = .ok (.getfield 180, 3) ∧ 73 + 3 = 76 := ⟨by decide +kernel, rfl⟩
theorem zd_M_isRing_76 : decode zb_M_isRing 76 = .ok (.iaload, 1) ∧ 76 + 1 = 77 := ⟨by decide +kernel, rfl⟩
theorem zd_M_isRing_77 : decode zb_M_isRing 77 = .ok (.istore_n 3, 1) ∧ 77 + 1 = 78 := ⟨by decide +kernel, rfl⟩
theorem zd_M_isRing_78 : decode zb_M_isRing 78 = .ok (.aload_n 0, 1) ∧ 78 + 1 = 79 := ⟨by decide +kernel, rfl⟩
theorem zd_M_isRing_79 : decode zb_M_isRing 79 = .ok (.iload_n 3, 1) ∧ 79 + 1 = 80 := ⟨by decide +kernel, rfl⟩
theorem zd_M_isRing_80 : decode zb_M_isRing 80 = .ok (.iconst 4, 1) ∧ 80 + 1 = 81 := ⟨by decide +kernel, rfl⟩
theorem zd_M_isRing_81 : decode zb_M_isRing 81 = .ok (.idiv, 1) ∧ 81 + 1 = 82 := ⟨by decide +kernel, rfl⟩
theorem zd_M_isRing_82 : decode zb_M_isRing 82 = .ok (.iload_n 3, 1) ∧ 82 + 1 = 83 := ⟨by decide +kernel, rfl⟩
theorem zd_M_isRing_83 : decode zb_M_isRing 83 = .ok (.iconst 4, 1) ∧ 83 + 1 = 84 := ⟨by decide +kernel, rfl⟩
theorem zd_M_isRing_84 : decode zb_M_isRing 84 = .ok (.irem, 1) ∧ 84 + 1 = 85 := ⟨by decide +kernel, rfl⟩
theorem zd_M_isRing_85 : decode zb_M_isRing 85 = .ok (.iload_n 2, 1) ∧ 85 + 1 = 86 := ⟨by decide +kernel, rfl⟩
theorem zd_M_isRing_86 : decode zb_M_isRing 86 = .ok (.aload_n 0, 1) ∧ 86 + 1 = 87 := ⟨by decide +kernel, rfl⟩
theorem zd_M_isRing_87 : decode zb_M_isRing 87 = .ok (.getfield 144, 3) ∧ 87 + 3 = 90 := ⟨by decide +kernel, rfl⟩
theorem zd_M_isRing_90 : decode zb_M_isRing 90 = .ok (.invokevirtual 437, 3) ∧ 90 + 3 = 93 := ⟨by decide +kernel, rfl⟩
theorem zd_M_isRing_93 : decode zb_M_isRing 93 = .ok (.goto (-51), 3) ∧ ((93 : Nat) : Int) + (-51) = ((42 : Nat) : Int) ∧ 93 + 3 = 96 := ⟨by decide +kernel, by decide, rfl⟩
theorem zd_M_isRing_96 : decode zb_M_isRing 96 = .ok (.aload_n 0, 1) ∧ 96 + 1 = 97 := ⟨by decide +kernel, rfl⟩
theorem zd_M_isRing_97 : decode zb_M_isRing 97 = .ok (.getfield 174, 3) ∧ 97 + 3 = 100 := ⟨by decide +kernel, rfl⟩
theorem zd_M_isRing_100 : decode zb_M_isRing 100 = .ok (.iload_n 1, 1) ∧ 100 + 1 = 101 := ⟨by decide +kernel, rfl⟩
theorem zd_M_isRing_101 : decode zb_M_isRing 101 = .ok (.iaload, 1) ∧ 101 + 1 = 102 := ⟨by decide +kernel, rfl⟩
theorem zd_M_isRing_102 : decode zb_M_isRing 102 = .ok (.ifCond .eq 7, 3) ∧ ((102 : Nat) : Int) + (7) = ((109 : Nat) : Int) ∧ 102 + 3 = 105 := ⟨by decide +kernel, by decide, rfl⟩
theorem zd_M_isRing_105 : decode zb_M_isRing 105 = .ok (.iconst 1, 1) ∧ 105 + 1 = 106 := ⟨by decide +kernel, rfl⟩
theorem zd_M_isRing_106 : decode zb_M_isRing 106 = .ok (.goto 4, 3) ∧ ((106 : Nat) : Int) + (4) = ((110 : Nat) : Int) ∧ 106 + 3 = 109 := ⟨by decide +kernel, by decide, rfl⟩
theorem zd_M_isRing_109 : decode zb_M_isRing 109 = .ok (.iconst 0, 1) ∧ 109 + 1 = 110 := ⟨by decide +kernel, rfl⟩
theorem zd_M_isRing_110 : decode zb_M_isRing 110 = .ok (.ireturn, 1) ∧ 110 + 1 = 111 := ⟨by decide +kernel, rfl⟩
theorem zd_M_rings_0 : decode zb_M_rings 0 = .ok (.iload_n 1, 1) ∧ 0 + 1 = 1 := ⟨by decide +kernel, rfl⟩
theorem zd_M_rings_1 : decode zb_M_rings 1 = .ok (.iconst 1, 1) ∧ 1 + 1 = 2 := ⟨by decide +kernel, rfl⟩
theorem zd_M_rings_2 : decode zb_M_rings 2 = .ok (.if_icmp .eq 15, 3) ∧ ((2 : Nat) : Int) + (15) = ((17 : Nat) : Int) ∧ 2 + 3 = 5 := ⟨by decide +kernel, by decide, rfl⟩
theorem zd_M_rings_5 : decode zb_M_rings 5 = .ok (.iload_n 1, 1) ∧ 5 + 1 = 6 := ⟨by decide +kernel, rfl⟩
theorem zd_M_rings_6 : decode zb_M_rings 6 = .ok (.iconst 2, 1) ∧ 6 + 1 = 7 := ⟨by decide +kernel, rfl⟩
theorem zd_M_rings_7 : decode zb_M_rings 7 = .ok (.if_icmp .eq 10, 3) ∧ ((7 : Nat) : Int) + (10) = ((17 : Nat) : Int) ∧ 7 + 3 = 10 := ⟨by decide +kernel, by decide, rfl⟩
theorem zd_M_rings_10 : decode zb_M_rings 10 = .ok (.iload_n 1, 1) ∧ 10 + 1 = 11 := ⟨by decide +kernel, rfl⟩
theorem zd_M_rings_11 : decode zb_M_rings 11 = .ok (.iconst 4, 1) ∧ 11 + 1 = 12 := ⟨by decide +kernel, rfl⟩
theorem zd_M_rings_12 : decode zb_M_rings 12 = .ok (.if_icmp .eq 5, 3) ∧ ((12 : Nat) : Int) + (5) = ((17 : Nat) : Int) ∧ 12 + 3 = 15 := ⟨by decide +kernel, by decide, rfl⟩
theorem zd_M_rings_15 : decode zb_M_rings 15 = .ok (.iconst (-1), 1) ∧ 15 + 1 = 16 := ⟨by decide +kernel, rfl⟩
theorem zd_M_rings_16 : decode zb_M_rings 16 = .ok (.ireturn, 1) ∧ 16 + 1 = 17 := ⟨by decide +kernel, rfl⟩
theorem zd_M_rings_17 : decode zb_M_rings 17 = .ok (.aload_n 0, 1) ∧ 17 + 1 = 18 := ⟨by decide +kernel, rfl⟩
theorem zd_M_rings_18 : decode zb_M_rings 18 = .ok (.aload_n 0, 1) ∧ 18 + 1 = 19 := ⟨by decide +kernel, rfl⟩
theorem zd_M_rings_19 : decode zb_M_rings 19 = .ok (.getfield 144, 3) ∧ 19 + 3 = 22 := ⟨by decide +kernel, rfl⟩
theorem zd_M_rings_22 : decode zb_M_rings 22 = .ok (.invokevirtual 458, 3) ∧ 22 + 3 = 25 := ⟨by decide +kernel, rfl⟩
theorem zd_M_rings_25 : decode zb_M_rings 25 = .ok (.iconst 0, 1) ∧ 25 + 1 = 26 := ⟨by decide +kernel, rfl⟩
theorem zd_M_rings_26 : decode zb_M_rings 26 = .ok (.istore_n 2, 1) ∧ 26 + 1 = 27 := ⟨by decide +kernel, rfl⟩
theorem zd_M_rings_27 : decode zb_M_rings 27 = .ok (.iload_n 2, 1) ∧ 27 + 1 = 28 := ⟨by decide +kernel, rfl⟩
theorem zd_M_rings_28 : decode zb_M_rings 28 = .ok (.sipush 576, 3) ∧ 28 + 3 = 31 := ⟨by decide +kernel, rfl⟩
theorem zd_M_rings_31 : decode zb_M_rings 31 = .ok (.if_icmp .ge 31, 3) ∧ ((31 : Nat) : Int) + (31) = ((62 : Nat) : Int) ∧ 31 + 3 = 34 := ⟨by decide +kernel, by decide, rfl⟩
theorem zd_M_rings_34 : decode zb_M_rings 34 = .ok (.aload_n 0, 1) ∧ 34 + 1 = 35 := ⟨by decide +kernel, rfl⟩
theorem zd_M_rings_35 : decode zb_M_rings 35 = .ok (.getfield 216, 3) ∧ 35 + 3 = 38 := ⟨by decide +kernel, rfl⟩
theorem zd_M_rings_38 : decode zb_M_rings 38 = .ok (.iload_n 2, 1) ∧ 38 + 1 = 39 := ⟨by decide +kernel, rfl⟩
theorem zd_M_rings_39 : decode zb_M_rings 39 = .ok (.aload_n 0, 1) ∧ 39 + 1 = 40 := ⟨by decide +kernel, rfl⟩
theorem zd_M_rings_40 : decode zb_M_rings 40 = .ok (.getfield 174, 3) ∧ 40 + 3 = 43 := ⟨by decide +kernel, rfl⟩
theorem zd_M_rings_43 : decode zb_M_rings 43 = .ok (.iload_n 2, 1) ∧ 43 + 1 = 44 := ⟨by decide +kernel, rfl⟩
theorem zd_M_rings_44 : decode zb_M_rings 44 = .ok (.iaload, 1) ∧ 44 + 1 = 45 := ⟨by decide +kernel, rfl⟩
theorem zd_M_rings_45 : decode zb_M_rings 45 = .ok (.iload_n 1, 1) ∧ 45 + 1 = 46 := ⟨by decide +kernel, rfl⟩
theorem zd_M_rings_46 : decode zb_M_rings 46 = .ok (.iand, 1) ∧ 46 + 1 = 47 := ⟨by decide +kernel, rfl⟩
theorem zd_M_rings_47 : decode zb_M_rings 47 = .ok (.ifCond .eq 7, 3) ∧ ((47 : Nat) : Int) + (7) = ((54 : Nat) : Int) ∧ 47 + 3 = 50 := ⟨by decide +kernel, by decide, rfl⟩
theorem zd_M_rings_50 : decode zb_M_rings 50 = .ok (.iconst 1, 1) ∧ 50 + 1 = 51 := ⟨by decide +kernel, rfl⟩
theorem zd_M_rings_51 : decode zb_M_rings 51 = .ok (.goto 4, 3) ∧ ((51 : Nat) : Int) + (4) = ((55 : Nat) : Int) ∧ 51 + 3 = 54 := ⟨by decide +kernel, by decide, rfl⟩
theorem zd_M_rings_54 : decode zb_M_rings 54 = .ok (.iconst 0, 1) ∧ 54 + 1 = 55 := ⟨by decide +kernel, rfl⟩
theorem zd_M_rings_55 : decode zb_M_rings 55 = .ok (.bastore, 1) ∧ 55 + 1 = 56 := ⟨by decide +kernel, rfl⟩
theorem zd_M_rings_56 : decode zb_M_rings 56 = .ok (.iinc 2 1, 3) ∧ 56 + 3 = 59 := ⟨by decide +kernel, rfl⟩
theorem zd_M_rings_59 : decode zb_M_rings 59 = .ok (.goto (-32), 3) ∧ ((59 : Nat) : Int) + (-32) = ((27 : Nat) : Int) ∧ 59 + 3 = 62 := ⟨by decide +kernel, by decide, rfl⟩
theorem zd_M_rings_62 : decode zb_M_rings 62 = .ok (.iconst 0, 1) ∧ 62 + 1 = 63 := ⟨by decide +kernel, rfl⟩
theorem zd_M_rings_63 : decode zb_M_rings 63 = .ok (.istore_n 2, 1) ∧ 63 + 1 = 64 := ⟨by decide +kernel, rfl⟩
theorem zd_M_rings_64 : decode zb_M_rings 64 = .ok (.iconst 0, 1) ∧ 64 + 1 = 65 := ⟨by decide +kernel, rfl⟩
theorem zd_M_rings_65 : decode zb_M_rings 65 = .ok (.istore_n 3, 1) ∧ 65 + 1 = 66 := ⟨by decide +kernel, rfl⟩
theorem zd_M_rings_66 : decode zb_M_rings 66 = .ok (.iload_n 3, 1) ∧ 66 + 1 = 67 := ⟨by decide +kernel, rfl⟩
theorem zd_M_rings_67 : decode zb_M_rings 67 = .ok (.sipush 144, 3) ∧ 67 + 3 = 70 := ⟨by decide +kernel, rfl⟩
theorem zd_M_rings_70 : decode zb_M_rings 70 = .ok (.if_icmp .ge 80, 3) ∧ ((70 : Nat) : Int) + (80) = ((150 : Nat) : Int) ∧ 70 + 3 = 73 := ⟨by decide +kernel, by decide, rfl⟩
theorem zd_M_rings_73 : decode zb_M_rings 73 = .ok (.iconst 0, 1) ∧ 73 + 1 = 74 := ⟨by decide +kernel, rfl⟩
theorem zd_M_rings_74 : decode zb_M_rings 74 = .ok (.istore 4, 2) ∧ 74 + 2 = 76 := ⟨by decide +kernel, rfl⟩
theorem zd_M_rings_76 : decode zb_M_rings 76 = .ok (.iconst 0, 1) ∧ 76 + 1 = 77 := ⟨by decide +kernel, rfl⟩
theorem zd_M_rings_77 : decode zb_M_rings 77 = .ok (.istore 5, 2) ∧ 77 + 2 = 79 := ⟨by decide +kernel, rfl⟩
theorem zd_M_rings_79 : decode zb_M_rings 79 = .ok (.iload 5, 2) ∧ 79 + 2 = 81 := ⟨by decide +kernel, rfl⟩
theorem zd_M_rings_81 : decode zb_M_rings 81 = .ok (.iconst 4, 1) ∧ 81 + 1 = 82 := ⟨by decide +kernel, rfl⟩
theorem zd_M_rings_82 : decode zb_M_rings 82 = .ok (.if_icmp .ge 49, 3) ∧ ((82 : Nat) : Int) + (49) = ((131 : Nat) : Int) ∧ 82 + 3 = 85 := ⟨by decide +kernel, by decide, rfl⟩
theorem zd_M_rings_85 : decode zb_M_rings 85 = .ok (.iload 4, 2) ∧ 85 + 2 = 87 := ⟨by decide +kernel, rfl⟩
theorem zd_M_rings_87 : decode zb_M_rings 87 = .ok (.ifCond .ne 31, 3) ∧ ((87 : Nat) : Int) + (31) = ((118 : Nat) : Int) ∧ 87 + 3 = 90 := ⟨by decide +kernel, by decide, rfl⟩
theorem zd_M_rings_90 : decode zb_M_rings 90 = .ok (.aload_n 0, 1) ∧ 90 + 1 = 91 := ⟨by decide +kernel, rfl⟩
theorem zd_M_rings_91 : decode zb_M_rings 91 = .ok (.getfield 216, 3) ∧ 91 + 3 = 94 := ⟨by decide +kernel, rfl⟩
theorem zd_M_rings_94 : decode zb_M_rings 94 = .ok (.iconst 4, 1) ∧ 94 + 1 = 95 := ⟨by decide +kernel, rfl⟩
theorem zd_M_rings_95 : decode zb_M_rings 95 = .ok (.iload_n 3, 1) ∧ 95 + 1 = 96 := ⟨by decide +kernel, rfl⟩
theorem zd_M_rings_96 : decode zb_M_rings 96 = .ok (.imul, 1) ∧ 96 + 1 = 97 := ⟨by decide +kernel, rfl⟩
theorem zd_M_rings_97 : decode zb_M_rings 97 = .ok (.iload 5, 2) ∧ 97 + 2 = 99 := ⟨by decide +kernel, rfl⟩
theorem zd_M_rings_99 : decode zb_M_rings 99 = .ok (.iadd, 1) ∧ 99 + 1 = 100 := ⟨by decide +kernel, rfl⟩
theorem zd_M_rings_100 : decode zb_M_rings 100 = .ok (.baload, 1) ∧ 100 + 1 = 101 := ⟨by decide +kernel, rfl⟩
theorem zd_M_rings_101 : decode zb_M_rings 101 = .ok (.ifCond .eq 21, 3) ∧ ((101 : Nat) : Int) + (21) = ((122 : Nat) : Int) ∧ 101 + 3 = 104 := ⟨by decide +kernel, by decide, rfl⟩
theorem zd_M_rings_104 : decode zb_M_rings 104 = .ok (.aload_n 0, 1) ∧ 104 + 1 = 105 := ⟨by decide +kernel, rfl⟩
theorem zd_M_rings_105 : decode zb_M_rings 105 = .ok (.iconst 4, 1) ∧ 105 + 1 = 106 := ⟨by decide +kernel, rfl⟩
theorem zd_M_rings_106 : decode zb_M_rings 106 = .ok (.iload_n 3, 1) ∧ 106 + 1 = 107 := ⟨by decide +kernel, rfl⟩
theorem zd_M_rings_107 : decode zb_M_rings 107 = .ok (.imul, 1) ∧ 107 + 1 = 108 := ⟨by decide +kernel, rfl⟩
theorem zd_M_rings_108 : decode zb_M_rings 108 = .ok (.iload 5, 2) ∧ 108 + 2 = 110 := ⟨by decide +kernel, rfl⟩
theorem zd_M_rings_110 : decode zb_M_rings 110 = .ok (.iadd, 1) ∧ 110 + 1 = 111 := ⟨by decide +kernel, rfl⟩
theorem zd_M_rings_111 : decode zb_M_rings 111 = .ok (.iload_n 1, 1) ∧ 111 + 1 = 112 := ⟨by decide +kernel, rfl⟩
theorem zd_M_rings_112 : decode zb_M_rings 112 = .ok (.invokevirtual 491, 3) ∧ 112 + 3 = 115 := ⟨by decide +kernel, rfl⟩
theorem zd_M_rings_115 : decode zb_M_rings 115 = .ok (.ifCond .eq 7, 3) ∧ ((115 : Nat) : Int) + (7) = ((122 : Nat) : Int) ∧ 115 + 3 = 118 := ⟨by decide +kernel, by decide, rfl⟩
theorem zd_M_rings_118 : decode zb_M_rings 118 = .ok (.iconst 1, 1) ∧ 118 + 1 = 119 := ⟨by decide +kernel, rfl⟩
theorem zd_M_rings_119 : decode zb_M_rings 119 = .ok (.goto 4, 3) ∧ ((119 : Nat) : Int) + (4) = ((123 : Nat) : Int) ∧ 119 + 3 = 122 := ⟨by decide +kernel, by decide, rfl⟩
theorem zd_M_rings_122 : decode zb_M_rings 122 = .ok (.iconst 0, 1) ∧ 122 + 1 = 123 := ⟨by decide +kernel, rfl⟩
theorem zd_M_rings_123 : decode zb_M_rings 123 = .ok (.istore 4, 2) ∧ 123 + 2 = 125 := ⟨by decide +kernel, rfl⟩
theorem zd_M_rings_125 : decode zb_M_rings 125 = .ok (.iinc 5 1, 3) ∧ 125 + 3 = 128 := ⟨by decide +kernel, rfl⟩
theorem zd_M_rings_128 : decode zb_M_rings 128 = .ok (.goto (-49), 3) ∧ ((128 : Nat) : Int) + (-49) = ((79 : Nat) : Int) ∧ 128 + 3 = 131 := ⟨by decide +kernel, by decide, rfl⟩
theorem zd_M_rings_131 : decode zb_M_rings 131 = .ok (.iload_n 2, 1) ∧ 131 + 1 = 132 := ⟨by decide +kernel, rfl⟩
theorem zd_M_rings_132 : decode zb_M_rings 132 = .ok (.iload 4, 2) ∧ 132 + 2 = 134 := ⟨by decide +kernel, rfl⟩
theorem zd_M_rings_134 : decode zb_M_rings 134 = .ok (.ifCond .eq 7, 3) ∧ ((134 : Nat) : Int) + (7) = ((141 : Nat) : Int) ∧ 134 + 3 = 137 := ⟨by decide +kernel, by decide, rfl⟩
theorem zd_M_rings_137 : decode zb_M_rings 137 = .ok (.iconst 1, 1) ∧ 137 + 1 = 138 := ⟨by decide +kernel, rfl⟩
theorem zd_M_rings_138 : decode zb_M_rings 138 = .ok (.goto 4, 3) ∧ ((138 : Nat) : Int) + (4) = ((142 : Nat) : Int) ∧ 138 + 3 = 141 := ⟨by decide +kernel, by decide, rfl⟩
theorem zd_M_rings_141 : decode zb_M_rings 141 = .ok (.iconst 0, 1) ∧ 141 + 1 = 142 := ⟨by decide +kernel, rfl⟩
theorem zd_M_rings_142 : decode zb_M_rings 142 = .ok (.iadd, 1) ∧ 142 + 1 = 143 := ⟨by decide +kernel, rfl⟩
theorem zd_M_rings_143 : decode zb_M_rings 143 = .ok (.istore_n 2, 1) ∧ 143 + 1 = 144 := ⟨by decide +kernel, rfl⟩
theorem zd_M_rings_144 : decode zb_M_rings 144 = .ok (.iinc 3 1, 3) ∧ 144 + 3 = 147 := ⟨by decide +kernel, rfl⟩
theorem zd_M_rings_147 : decode zb_M_rings 147 = .ok (.goto (-81), 3) ∧ ((147 : Nat) : Int) + (-81) = ((66 : Nat) : Int) ∧ 147 + 3 = 150 := ⟨by decide +kernel, by decide, rfl⟩
theorem zd_M_rings_150 : decode zb_M_rings 150 = .ok (.iload_n 2, 1) ∧ 150 + 1 = 151 := ⟨by decide +kernel, rfl⟩
theorem zd_M_rings_151 : decode zb_M_rings 151 = .ok (.ireturn, 1) ∧ 151 + 1 = 152 := ⟨by decide +kernel, rfl⟩
theorem zd_M_steady_0 : decode zb_M_steady 0 = .ok (.aload_n 0, 1) ∧ 0 + 1 = 1 := ⟨by decide +kernel, rfl⟩
theorem zd_M_steady_1 : decode zb_M_steady 1 = .ok (.aload_n 0, 1) ∧ 1 + 1 = 2 := ⟨by decide +kernel, rfl⟩
theorem zd_M_steady_2 : decode zb_M_steady 2 = .ok (.getfield 144, 3) ∧ 2 + 3 = 5 := ⟨by decide +kernel, rfl⟩
theorem zd_M_steady_5 : decode zb_M_steady 5 = .ok (.invokevirtual 467, 3) ∧ 5 + 3 = 8 := ⟨by decide +kernel, rfl⟩
theorem zd_M_steady_8 : decode zb_M_steady 8 = .ok (.iload_n 1, 1) ∧ 8 + 1 = 9 := ⟨by decide +kernel, rfl⟩
theorem zd_M_steady_9 : decode zb_M_steady 9 = .ok (.ifCond .eq 19, 3) ∧ ((9 : Nat) : Int) + (19) = ((28 : Nat) : Int) ∧ 9 + 3 = 12 := ⟨by decide +kernel, by decide, rfl⟩
theorem zd_M_steady_12 : decode zb_M_steady 12 = .ok (.iconst 1, 1) ∧ 12 + 1 = 13 := ⟨by decide +kernel, rfl⟩
theorem zd_M_steady_13 : decode zb_M_steady 13 = .ok (.aload_n 0, 1) ∧ 13 + 1 = 14 := ⟨by decide +kernel, rfl⟩
theorem zd_M_steady_14 : decode zb_M_steady 14 = .ok (.getfield 72, 3) ∧ 14 + 3 = 17 := ⟨by decide +kernel, rfl⟩
theorem zd_M_steady_17 : decode zb_M_steady 17 = .ok (.aload_n 0, 1) ∧ 17 + 1 = 18 := ⟨by decide +kernel, rfl⟩
theorem zd_M_steady_18 : decode zb_M_steady 18 = .ok (.getfield 51, 3) ∧ 18 + 3 = 21 := ⟨by decide +kernel, rfl⟩
theorem zd_M_steady_21 : decode zb_M_steady 21 = .ok (.iaload, 1) ∧ 21 + 1 = 22 := ⟨by decide +kernel, rfl⟩
theorem zd_M_steady_22 : decode zb_M_steady 22 = .ok (.ishl, 1) ∧ 22 + 1 = 23 := ⟨by decide +kernel, rfl⟩
theorem zd_M_steady_23 : decode zb_M_steady 23 = .ok (.iconst 1, 1) ∧ 23 + 1 = 24 := ⟨by decide +kernel, rfl⟩
theorem zd_M_steady_24 : decode zb_M_steady 24 = .ok (.isub, 1) ∧ 24 + 1 = 25 := ⟨by decide +kernel, rfl⟩
theorem zd_M_steady_25 : decode zb_M_steady 25 = .ok (.goto 4, 3) ∧ ((25 : Nat) : Int) + (4) = ((29 : Nat) : Int) ∧ 25 + 3 = 28 := ⟨by decide +kernel, by decide, rfl⟩
theorem zd_M_steady_28 : decode zb_M_steady 28 = .ok (.iconst 0, 1) ∧ 28 + 1 = 29 := ⟨by decide +kernel, rfl⟩
theorem zd_M_steady_29 : decode zb_M_steady 29 = .ok (.istore_n 2, 1) ∧ 29 + 1 = 30 := ⟨by decide +kernel, rfl⟩
theorem zd_M_steady_30 : decode zb_M_steady 30 = .ok (.aload_n 0, 1) ∧ 30 + 1 = 31 := ⟨by decide +kernel, rfl⟩
theorem zd_M_steady_31 : decode zb_M_steady 31 = .ok (.getfield 198, 3) ∧ 31 + 3 = 34 := ⟨by decide +kernel, rfl⟩
theorem zd_M_steady_34 : decode zb_M_steady 34 = .ok (.istore_n 3, 1) ∧ 34 + 1 = 35 := ⟨by decide +kernel, rfl⟩
theorem zd_M_steady_35 : decode zb_M_steady 35 = .ok (.iconst 0, 1) ∧ 35 + 1 = 36 := ⟨by decide +kernel, rfl⟩
theorem zd_M_steady_36 : decode zb_M_steady 36 = .ok (.istore 4, 2) ∧ 36 + 2 = 38 := ⟨by decide +kernel, rfl⟩
theorem zd_M_steady_38 : decode zb_M_steady 38 = .ok (.iload 4, 2) ∧ 38 + 2 = 40 := ⟨by decide +kernel, rfl⟩
theorem zd_M_steady_40 : decode zb_M_steady 40 = .ok (.aload_n 0, 1) ∧ 40 + 1 = 41 := ⟨by decide +kernel, rfl⟩
theorem zd_M_steady_41 : decode zb_M_steady 41 = .ok (.getfield 195, 3) ∧ 41 + 3 = 44 := ⟨by decide +kernel, rfl⟩
theorem zd_M_steady_44 : decode zb_M_steady 44 = .ok (.if_icmp .ge 40, 3) ∧ ((44 : Nat) : Int) + (40) = ((84 : Nat) : Int) ∧ 44 + 3 = 47 := ⟨by decide +kernel, by decide, rfl⟩
theorem zd_M_steady_47 : decode zb_M_steady 47 = .ok (.aload_n 0, 1) ∧ 47 + 1 = 48 := ⟨by decide +kernel, rfl⟩
theorem zd_M_steady_48 : decode zb_M_steady 48 = .ok (.iload_n 3, 1) ∧ 48 + 1 = 49 := ⟨by decide +kernel, rfl⟩
theorem zd_M_steady_49 : decode zb_M_steady 49 = .ok (.invokevirtual 458, 3) ∧ 49 + 3 = 52 := ⟨by decide +kernel, rfl⟩
theorem zd_M_steady_52 : decode zb_M_steady 52 = .ok (.iload_n 1, 1) ∧ 52 + 1 = 53 := ⟨by decide +kernel, rfl⟩
theorem zd_M_steady_53 : decode zb_M_steady 53 = .ok (.ifCond .eq 12, 3) ∧ ((53 : Nat) : Int) + (12) = ((65 : Nat) : Int) ∧ 53 + 3 = 56 := ⟨by decide +kernel, by decide, rfl⟩
theorem zd_M_steady_56 : decode zb_M_steady 56 = .ok (.iload_n 2, 1) ∧ 56 + 1 = 57 := ⟨by decide +kernel, rfl⟩
theorem zd_M_steady_57 : decode zb_M_steady 57 = .ok (.aload_n 0, 1) ∧ 57 + 1 = 58 := ⟨by decide +kernel, rfl⟩
theorem zd_M_steady_58 : decode zb_M_steady 58 = .ok (.invokevirtual 470, 3) ∧ 58 + 3 = 61 := ⟨by decide +kernel, rfl⟩
theorem zd_M_steady_61 : decode zb_M_steady 61 = .ok (.iand, 1) ∧ 61 + 1 = 62 := ⟨by decide +kernel, rfl⟩
theorem zd_M_steady_62 : decode zb_M_steady 62 = .ok (.goto 9, 3) ∧ ((62 : Nat) : Int) + (9) = ((71 : Nat) : Int) ∧ 62 + 3 = 65 := ⟨by decide +kernel, by decide, rfl⟩
theorem zd_M_steady_65 : decode zb_M_steady 65 = .ok (.iload_n 2, 1) ∧ 65 + 1 = 66 := ⟨by decide +kernel, rfl⟩
theorem zd_M_steady_66 : decode zb_M_steady 66 = .ok (.aload_n 0, 1) ∧ 66 + 1 = 67 := ⟨by decide +kernel, rfl⟩
theorem zd_M_steady_67 : decode zb_M_steady 67 = .ok (.invokevirtual 470, 3) ∧ 67 + 3 = 70 := ⟨by decide +kernel, rfl⟩
theorem zd_M_steady_70 : decode zb_M_steady 70 = .ok (.ior, 1) ∧ 70 + 1 = 71 := ⟨by decide +kernel, rfl⟩
theorem zd_M_steady_71 : decode zb_M_steady 71 = .ok (.istore_n 2, 1) ∧ 71 + 1 = 72 := ⟨by decide +kernel, rfl⟩
theorem zd_M_steady_72 : decode zb_M_steady 72 = .ok (.aload_n 0, 1) ∧ 72 + 1 = 73 := ⟨by decide +kernel, rfl⟩
theorem zd_M_steady_73 : decode zb_M_steady 73 = .ok (.iload_n 3, 1) ∧ 73 + 1 = 74 := ⟨by decide +kernel, rfl⟩
theorem zd_M_steady_74 : decode zb_M_steady 74 = .ok (.invokevirtual 464, 3) ∧ 74 + 3 = 77 := ⟨by decide +kernel, rfl⟩
theorem zd_M_steady_77 : decode zb_M_steady 77 = .ok (.istore_n 3, 1) ∧ 77 + 1 = 78 := ⟨by decide +kernel, rfl⟩
theorem zd_M_steady_78 : decode zb_M_steady 78 = .ok (.iinc 4 1, 3) ∧ 78 + 3 = 81 := ⟨by decide +kernel, rfl⟩
theorem zd_M_steady_81 : decode zb_M_steady 81 = .ok (.goto (-43), 3) ∧ ((81 : Nat) : Int) + (-43) = ((38 : Nat) : Int) ∧ 81 + 3 = 84 := ⟨by decide +kernel, by decide, rfl⟩
theorem zd_M_steady_84 : decode zb_M_steady 84 = .ok (.iload_n 2, 1) ∧ 84 + 1 = 85 := ⟨by decide +kernel, rfl⟩
theorem zd_M_steady_85 : decode zb_M_steady 85 = .ok (.ireturn, 1) ∧ 85 + 1 = 86 := ⟨by decide +kernel, rfl⟩
theorem zd_M_slow_0 : decode zb_M_slow 0 = .ok (.iload_n 1, 1) ∧ 0 + 1 = 1 := ⟨by decide +kernel, rfl⟩
theorem zd_M_slow_1 : decode zb_M_slow 1 = .ok (.ifCond .eq 10, 3) ∧ ((1 : Nat) : Int) + (10) = ((11 : Nat) : Int) ∧ 1 + 3 = 4 := ⟨by decide +kernel, by decide, rfl⟩
theorem zd_M_slow_4 : decode zb_M_slow 4 = .ok (.iload_n 1, 1) ∧ 4 + 1 = 5 := ⟨by decide +kernel, rfl⟩
theorem zd_M_slow_5 : decode zb_M_slow 5 = .ok (.iconst 1, 1) ∧ 5 + 1 = 6 := ⟨by decide +kernel, rfl⟩
theorem zd_M_slow_6 : decode zb_M_slow 6 = .ok (.if_icmp .eq 5, 3) ∧ ((6 : Nat) : Int) + (5) = ((11 : Nat) : Int) ∧ 6 + 3 = 9 := ⟨by decide +kernel, by decide, rfl⟩
theorem zd_M_slow_9 : decode zb_M_slow 9 = .ok (.iconst (-1), 1) ∧ 9 + 1 = 10 := ⟨by decide +kernel, rfl⟩
theorem zd_M_slow_10 : decode zb_M_slow 10 = .ok (.ireturn, 1) ∧ 10 + 1 = 11 := ⟨by decide +kernel, rfl⟩
theorem zd_M_slow_11 : decode zb_M_slow 11 = .ok (.iconst (-1), 1) ∧ 11 + 1 = 12 := ⟨by decide +kernel, rfl⟩
theorem zd_M_slow_12 : decode zb_M_slow 12 = .ok (.istore_n 2, 1) ∧ 12 + 1 = 13 := ⟨by decide +kernel, rfl⟩
theorem zd_M_slow_13 : decode zb_M_slow 13 = .ok (.iconst 0, 1) ∧ 13 + 1 = 14 := ⟨by decide +kernel, rfl⟩
theorem zd_M_slow_14 : decode zb_M_slow 14 = .ok (.istore_n 3, 1) ∧ 14 + 1 = 15 := ⟨by decide +kernel, rfl⟩
theorem zd_M_slow_15 : decode zb_M_slow 15 = .ok (.iconst 0, 1) ∧ 15 + 1 = 16 := ⟨by decide +kernel, rfl⟩
theorem zd_M_slow_16 : decode zb_M_slow 16 = .ok (.istore 4, 2) ∧ 16 + 2 = 18 := ⟨by decide +kernel, rfl⟩
theorem zd_M_slow_18 : decode zb_M_slow 18 = .ok (.iload 4, 2) ∧ 18 + 2 = 20 := ⟨by decide +kernel, rfl⟩
theorem zd_M_slow_20 : decode zb_M_slow 20 = .ok (.aload_n 0, 1) ∧ 20 + 1 = 21 := ⟨by decide +kernel, rfl⟩
theorem zd_M_slow_21 : decode zb_M_slow 21 = .ok (.invokevirtual 455, 3) ∧ 21 + 3 = 24 := ⟨by decide +kernel, rfl⟩
theorem zd_M_slow_24 : decode zb_M_slow 24 = .ok (.if_icmp .ge 34, 3) ∧ ((24 : Nat) : Int) + (34) = ((58 : Nat) : Int) ∧ 24 + 3 = 27 := ⟨by decide +kernel, by decide, rfl⟩
theorem zd_M_slow_27 : decode zb_M_slow 27 = .ok (.aload_n 0, 1) ∧ 27 + 1 = 28 := ⟨by decide +kernel, rfl⟩
theorem zd_M_slow_28 : decode zb_M_slow 28 = .ok (.iload 4, 2) ∧ 28 + 2 = 30 := ⟨by decide +kernel, rfl⟩
theorem zd_M_slow_30 : decode zb_M_slow 30 = .ok (.invokevirtual 467, 3) ∧ 30 + 3 = 33 := ⟨by decide +kernel, rfl⟩
theorem zd_M_slow_33 : decode zb_M_slow 33 = .ok (.aload_n 0, 1) ∧ 33 + 1 = 34 := ⟨by decide +kernel, rfl⟩
theorem zd_M_slow_34 : decode zb_M_slow 34 = .ok (.getfield 192, 3) ∧ 34 + 3 = 37 := ⟨by decide +kernel, rfl⟩
theorem zd_M_slow_37 : decode zb_M_slow 37 = .ok (.iload_n 2, 1) ∧ 37 + 1 = 38 := ⟨by decide +kernel, rfl⟩
theorem zd_M_slow_38 : decode zb_M_slow 38 = .ok (.if_icmp .gt 6, 3) ∧ ((38 : Nat) : Int) + (6) = ((44 : Nat) : Int) ∧ 38 + 3 = 41 := ⟨by decide +kernel, by decide, rfl⟩
theorem zd_M_slow_41 : decode zb_M_slow 41 = .ok (.goto 11, 3) ∧ ((41 : Nat) : Int) + (11) = ((52 : Nat) : Int) ∧ 41 + 3 = 44 := ⟨by decide +kernel, by decide, rfl⟩
theorem zd_M_slow_44 : decode zb_M_slow 44 = .ok (.aload_n 0, 1) ∧ 44 + 1 = 45 := ⟨by decide +kernel, rfl⟩
theorem zd_M_slow_45 : decode zb_M_slow 45 = .ok (.getfield 192, 3) ∧ 45 + 3 = 48 := ⟨by decide +kernel, rfl⟩
theorem zd_M_slow_48 : decode zb_M_slow 48 = .ok (.istore_n 2, 1) ∧ 48 + 1 = 49 := ⟨by decide +kernel, rfl⟩
theorem zd_M_slow_49 : decode zb_M_slow 49 = .ok (.iload 4, 2) ∧ 49 + 2 = 51 := ⟨by decide +kernel, rfl⟩
theorem zd_M_slow_51 : decode zb_M_slow 51 = .ok (.istore_n 3, 1) ∧ 51 + 1 = 52 := ⟨by decide +kernel, rfl⟩
theorem zd_M_slow_52 : decode zb_M_slow 52 = .ok (.iinc 4 1, 3) ∧ 52 + 3 = 55 := ⟨by decide +kernel, rfl⟩
theorem zd_M_slow_55 : decode zb_M_slow 55 = .ok (.goto (-37), 3) ∧ ((55 : Nat) : Int) + (-37) = ((18 : Nat) : Int) ∧ 55 + 3 = 58 := ⟨by decide +kernel, by decide, rfl⟩
theorem zd_M_slow_58 : decode zb_M_slow 58 = .ok (.iload_n 1, 1) ∧ 58 + 1 = 59 := ⟨by decide +kernel, rfl⟩
theorem zd_M_slow_59 : decode zb_M_slow 59 = .ok (.ifCond .ne 7, 3) ∧ ((59 : Nat) : Int) + (7) = ((66 : Nat) : Int) ∧ 59 + 3 = 62 := ⟨by decide +kernel, by decide, rfl⟩
theorem zd_M_slow_62 : decode zb_M_slow 62 = .ok (.iload_n 3, 1) ∧ 62 + 1 = 63 := ⟨by decide +kernel, rfl⟩
theorem zd_M_slow_63 : decode zb_M_slow 63 = .ok (.goto 4, 3) ∧ ((63 : Nat) : Int) + (4) = ((67 : Nat) : Int) ∧ 63 + 3 = 66 := ⟨by decide +kernel, by decide, rfl⟩
theorem zd_M_slow_66 : decode zb_M_slow 66 = .ok (.iload_n 2, 1) ∧ 66 + 1 = 67 := ⟨by decide +kernel, rfl⟩
theorem zd_M_slow_67 : decode zb_M_slow 67 = .ok (.ireturn, 1) ∧ 67 + 1 = 68 := ⟨by decide +kernel, rfl⟩
theorem zd_M_remembers_0 : decode zb_M_remembers 0 = .ok (.aload_n 0, 1) ∧ 0 + 1 = 1 := ⟨by decide +kernel, rfl⟩
theorem zd_M_remembers_1 : decode zb_M_remembers 1 = .ok (.getfield 219, 3) ∧ 1 + 3 = 4 := ⟨by decide +kernel, rfl⟩
theorem zd_M_remembers_4 : decode zb_M_remembers 4 = .ok (.bipush 16, 2) ∧ 4 + 2 = 6 := ⟨by decide +kernel, rfl⟩
theorem zd_M_remembers_6 : decode zb_M_remembers 6 = .ok (.if_icmp .ne 55, 3) ∧ ((6 : Nat) : Int) + (55) = ((61 : Nat) : Int) ∧ 6 + 3 = 9 := ⟨by decide +kernel, by decide, rfl⟩
theorem zd_M_remembers_9 : decode zb_M_remembers 9 = .ok (.iconst 0, 1) ∧ 9 + 1 = 10 := ⟨by decide +kernel, rfl⟩
theorem zd_M_remembers_10 : decode zb_M_remembers 10 = .ok (.istore_n 3, 1) ∧ 10 + 1 = 11 := ⟨by decide +kernel, rfl⟩
theorem zd_M_remembers_11 : decode zb_M_remembers 11 = .ok (.iload_n 3, 1) ∧ 11 + 1 = 12 := ⟨by decide +kernel, rfl⟩
theorem zd_M_remembers_12 : decode zb_M_remembers 12 = .ok (.bipush 15, 2) ∧ 12 + 2 = 14 := ⟨by decide +kernel, rfl⟩
theorem zd_M_remembers_14 : decode zb_M_remembers 14 = .ok (.if_icmp .ge 37, 3) ∧ ((14 : Nat) : Int) + (37) = ((51 : Nat) : Int) ∧ 14 + 3 = 17 := ⟨by decide +kernel, by decide, rfl⟩
theorem zd_M_remembers_17 : decode zb_M_remembers 17 = .ok (.aload_n 0, 1) ∧ 17 + 1 = 18 := ⟨by decide +kernel, rfl⟩
theorem zd_M_remembers_18 : decode zb_M_remembers 18 = .ok (.getfield 222, 3) ∧ 18 + 3 = 21 := ⟨by decide +kernel, rfl⟩
theorem zd_M_remembers_21 : decode zb_M_remembers 21 = .ok (.iload_n 3, 1) ∧ 21 + 1 = 22 := ⟨by decide +kernel, rfl⟩
theorem zd_M_remembers_22 : decode zb_M_remembers 22 = .ok (.aload_n 0, 1) ∧ 22 + 1 = 23 := ⟨by decide +kernel, rfl⟩
theorem zd_M_remembers_23 : decode zb_M_remembers 23 = .ok (.getfield 222, 3) ∧ 23 + 3 = 26 := ⟨by decide +kernel, rfl⟩
theorem zd_M_remembers_26 : decode zb_M_remembers 26 = .ok (.iload_n 3, 1) ∧ 26 + 1 = 27 := ⟨by decide +kernel, rfl⟩
theorem zd_M_remembers_27 : decode zb_M_remembers 27 = .ok (.iconst 1, 1) ∧ 27 + 1 = 28 := ⟨by decide +kernel, rfl⟩
theorem zd_M_remembers_28 : decode zb_M_remembers 28 = .ok (.iadd, 1) ∧ 28 + 1 = 29 := ⟨by decide +kernel, rfl⟩
theorem zd_M_remembers_29 : decode zb_M_remembers 29 = .ok (.iaload, 1) ∧ 29 + 1 = 30 := ⟨by decide +kernel, rfl⟩
theorem zd_M_remembers_30 : decode zb_M_remembers 30 = .ok (.iastore, 1) ∧ 30 + 1 = 31 := ⟨by decide +kernel, rfl⟩
theorem zd_M_remembers_31 : decode zb_M_remembers 31 = .ok (.aload_n 0, 1) ∧ 31 + 1 = 32 := ⟨by decide +kernel, rfl⟩
theorem zd_M_remembers_32 : decode zb_M_remembers 32 = .ok (.getfield 225, 3) ∧ 32 + 3 = 35 := ⟨by decide +kernel, rfl⟩
theorem zd_M_remembers_35 : decode zb_M_remembers 35 = .ok (.iload_n 3, 1) ∧ 35 + 1 = 36 := ⟨by decide +kernel, rfl⟩
theorem zd_M_remembers_36 : decode zb_M_remembers 36 = .ok (.aload_n 0, 1) ∧ 36 + 1 = 37 := ⟨by decide +kernel, rfl⟩
theorem zd_M_remembers_37 : decode zb_M_remembers 37 = .ok (.getfield 225, 3) ∧ 37 + 3 = 40 := ⟨by decide +kernel, rfl⟩
theorem zd_M_remembers_40 : decode zb_M_remembers 40 = .ok (.iload_n 3, 1) ∧ 40 + 1 = 41 := ⟨by decide +kernel, rfl⟩
theorem zd_M_remembers_41 : decode zb_M_remembers 41 = .ok (.iconst 1, 1) ∧ 41 + 1 = 42 := ⟨by decide +kernel, rfl⟩
theorem zd_M_remembers_42 : decode zb_M_remembers 42 = .ok (.iadd, 1) ∧ 42 + 1 = 43 := ⟨by decide +kernel, rfl⟩
theorem zd_M_remembers_43 : decode zb_M_remembers 43 = .ok (.iaload, 1) ∧ 43 + 1 = 44 := ⟨by decide +kernel, rfl⟩
theorem zd_M_remembers_44 : decode zb_M_remembers 44 = .ok (.iastore, 1) ∧ 44 + 1 = 45 := ⟨by decide +kernel, rfl⟩
theorem zd_M_remembers_45 : decode zb_M_remembers 45 = .ok (.iinc 3 1, 3) ∧ 45 + 3 = 48 := ⟨by decide +kernel, rfl⟩
theorem zd_M_remembers_48 : decode zb_M_remembers 48 = .ok (.goto (-37), 3) ∧ ((48 : Nat) : Int) + (-37) = ((11 : Nat) : Int) ∧ 48 + 3 = 51 := ⟨by decide +kernel, by decide, rfl⟩
theorem zd_M_remembers_51 : decode zb_M_remembers 51 = .ok (.aload_n 0, 1) ∧ 51 + 1 = 52 := ⟨by decide +kernel, rfl⟩
theorem zd_M_remembers_52 : decode zb_M_remembers 52 = .ok (.dup, 1) ∧ 52 + 1 = 53 := ⟨by decide +kernel, rfl⟩
theorem zd_M_remembers_53 : decode zb_M_remembers 53 = .ok (.getfield 219, 3) ∧ 53 + 3 = 56 := ⟨by decide +kernel, rfl⟩
theorem zd_M_remembers_56 : decode zb_M_remembers 56 = .ok (.iconst 1, 1) ∧ 56 + 1 = 57 := ⟨by decide +kernel, rfl⟩
theorem zd_M_remembers_57 : decode zb_M_remembers 57 = .ok (.isub, 1) ∧ 57 + 1 = 58 := ⟨by decide +kernel, rfl⟩
theorem zd_M_remembers_58 : decode zb_M_remembers 58 = .ok (.putfield 219, 3) ∧ 58 + 3 = 61 := ⟨by decide +kernel, rfl⟩
theorem zd_M_remembers_61 : decode zb_M_remembers 61 = .ok (.aload_n 0, 1) ∧ 61 + 1 = 62 := ⟨by decide +kernel, rfl⟩
theorem zd_M_remembers_62 : decode zb_M_remembers 62 = .ok (.getfield 222, 3) ∧ 62 + 3 = 65 := ⟨by decide +kernel, rfl⟩
theorem zd_M_remembers_65 : decode zb_M_remembers 65 = .ok (.aload_n 0, 1) ∧ 65 + 1 = 66 := ⟨by decide +kernel, rfl⟩
theorem zd_M_remembers_66 : decode zb_M_remembers 66 = .ok (.getfield 219, 3) ∧ 66 + 3 = 69 := ⟨by decide +kernel, rfl⟩
theorem zd_M_remembers_69 : decode zb_M_remembers 69 = .ok (.iload_n 1, 1) ∧ 69 + 1 = 70 := ⟨by decide +kernel, rfl⟩
theorem zd_M_remembers_70 : decode zb_M_remembers 70 = .ok (.iastore, 1) ∧ 70 + 1 = 71 := ⟨by decide +kernel, rfl⟩
theorem zd_M_remembers_71 : decode zb_M_remembers 71 = .ok (.aload_n 0, 1) ∧ 71 + 1 = 72 := ⟨by decide +kernel, rfl⟩
theorem zd_M_remembers_72 : decode zb_M_remembers 72 = .ok (.getfield 225, 3) ∧ 72 + 3 = 75 := ⟨by decide +kernel, rfl⟩
theorem zd_M_remembers_75 : decode zb_M_remembers 75 = .ok (.aload_n 0, 1) ∧ 75 + 1 = 76 := ⟨by decide +kernel, rfl⟩
theorem zd_M_remembers_76 : decode zb_M_remembers 76 = .ok (.getfield 219, 3) ∧ 76 + 3 = 79 := ⟨by decide +kernel, rfl⟩
theorem zd_M_remembers_79 : decode zb_M_remembers 79 = .ok (.iload_n 2, 1) ∧ 79 + 1 = 80 := ⟨by decide +kernel, rfl⟩
theorem zd_M_remembers_80 : decode zb_M_remembers 80 = .ok (.iastore, 1) ∧ 80 + 1 = 81 := ⟨by decide +kernel, rfl⟩
theorem zd_M_remembers_81 : decode zb_M_remembers 81 = .ok (.aload_n 0, 1) ∧ 81 + 1 = 82 := ⟨by decide +kernel, rfl⟩
theorem zd_M_remembers_82 : decode zb_M_remembers 82 = .ok (.dup, 1) ∧ 82 + 1 = 83 := ⟨by decide +kernel, rfl⟩
theorem zd_M_remembers_83 : decode zb_M_remembers 83 = .ok (.getfield 219, 3) ∧ 83 + 3 = 86 := ⟨by decide +kernel, rfl⟩
theorem zd_M_remembers_86 : decode zb_M_remembers 86 = .ok (.iconst 1, 1) ∧ 86 + 1 = 87 := ⟨by decide +kernel, rfl⟩
theorem zd_M_remembers_87 : decode zb_M_remembers 87 = .ok (.iadd, 1) ∧ 87 + 1 = 88 := ⟨by decide +kernel, rfl⟩
theorem zd_M_remembers_88 : decode zb_M_remembers 88 = .ok (.putfield 219, 3) ∧ 88 + 3 = 91 := ⟨by decide +kernel, rfl⟩
theorem zd_M_remembers_91 : decode zb_M_remembers 91 = .ok (.return_, 1) ∧ 91 + 1 = 92 := ⟨by decide +kernel, rfl⟩
theorem zd_M_back_0 : decode zb_M_back 0 = .ok (.aload_n 0, 1) ∧ 0 + 1 = 1 := ⟨by decide +kernel, rfl⟩
theorem zd_M_back_1 : decode zb_M_back 1 = .ok (.getfield 219, 3) ∧ 1 + 3 = 4 := ⟨by decide +kernel, rfl⟩
theorem zd_M_back_4 : decode zb_M_back 4 = .ok (.ifCond .ne 5, 3) ∧ ((4 : Nat) : Int) + (5) = ((9 : Nat) : Int) ∧ 4 + 3 = 7 := ⟨by decide +kernel, by decide, rfl⟩
theorem zd_M_back_7 : decode zb_M_back 7 = .ok (.iconst (-1), 1) ∧ 7 + 1 = 8 := ⟨by decide +kernel, rfl⟩
theorem zd_M_back_8 : decode zb_M_back 8 = .ok (.ireturn, 1) ∧ 8 + 1 = 9 := ⟨by decide +kernel, rfl⟩
theorem zd_M_back_9 : decode zb_M_back 9 = .ok (.aload_n 0, 1) ∧ 9 + 1 = 10 := ⟨by decide +kernel, rfl⟩
theorem zd_M_back_10 : decode zb_M_back 10 = .ok (.dup, 1) ∧ 10 + 1 = 11 := ⟨by decide +kernel, rfl⟩
theorem zd_M_back_11 : decode zb_M_back 11 = .ok (.getfield 219, 3) ∧ 11 + 3 = 14 := ⟨by decide +kernel, rfl⟩
theorem zd_M_back_14 : decode zb_M_back 14 = .ok (.iconst 1, 1) ∧ 14 + 1 = 15 := ⟨by decide +kernel, rfl⟩
theorem zd_M_back_15 : decode zb_M_back 15 = .ok (.isub, 1) ∧ 15 + 1 = 16 := ⟨by decide +kernel, rfl⟩
theorem zd_M_back_16 : decode zb_M_back 16 = .ok (.putfield 219, 3) ∧ 16 + 3 = 19 := ⟨by decide +kernel, rfl⟩
theorem zd_M_back_19 : decode zb_M_back 19 = .ok (.aload_n 0, 1) ∧ 19 + 1 = 20 := ⟨by decide +kernel, rfl⟩
theorem zd_M_back_20 : decode zb_M_back 20 = .ok (.aload_n 0, 1) ∧ 20 + 1 = 21 := ⟨by decide +kernel, rfl⟩
theorem zd_M_back_21 : decode zb_M_back 21 = .ok (.getfield 222, 3) ∧ 21 + 3 = 24 := ⟨by decide +kernel, rfl⟩
theorem zd_M_back_24 : decode zb_M_back 24 = .ok (.aload_n 0, 1) ∧ 24 + 1 = 25 := ⟨by decide +kernel, rfl⟩
theorem zd_M_back_25 : decode zb_M_back 25 = .ok (.getfield 219, 3) ∧ 25 + 3 = 28 := ⟨by decide +kernel, rfl⟩
theorem zd_M_back_28 : decode zb_M_back 28 = .ok (.iaload, 1) ∧ 28 + 1 = 29 := ⟨by decide +kernel, rfl⟩
theorem zd_M_back_29 : decode zb_M_back 29 = .ok (.putfield 141, 3) ∧ 29 + 3 = 32 := ⟨by decide +kernel, rfl⟩
theorem zd_M_back_32 : decode zb_M_back 32 = .ok (.aload_n 0, 1) ∧ 32 + 1 = 33 := ⟨by decide +kernel, rfl⟩
theorem zd_M_back_33 : decode zb_M_back 33 = .ok (.aload_n 0, 1) ∧ 33 + 1 = 34 := ⟨by decide +kernel, rfl⟩
theorem zd_M_back_34 : decode zb_M_back 34 = .ok (.getfield 225, 3) ∧ 34 + 3 = 37 := ⟨by decide +kernel, rfl⟩
theorem zd_M_back_37 : decode zb_M_back 37 = .ok (.aload_n 0, 1) ∧ 37 + 1 = 38 := ⟨by decide +kernel, rfl⟩
theorem zd_M_back_38 : decode zb_M_back 38 = .ok (.getfield 219, 3) ∧ 38 + 3 = 41 := ⟨by decide +kernel, rfl⟩
theorem zd_M_back_41 : decode zb_M_back 41 = .ok (.iaload, 1) ∧ 41 + 1 = 42 := ⟨by decide +kernel, rfl⟩
theorem zd_M_back_42 : decode zb_M_back 42 = .ok (.putfield 144, 3) ∧ 42 + 3 = 45 := ⟨by decide +kernel, rfl⟩
theorem zd_M_back_45 : decode zb_M_back 45 = .ok (.aload_n 0, 1) ∧ 45 + 1 = 46 := ⟨by decide +kernel, rfl⟩
theorem zd_M_back_46 : decode zb_M_back 46 = .ok (.getfield 219, 3) ∧ 46 + 3 = 49 := ⟨by decide +kernel, rfl⟩
theorem zd_M_back_49 : decode zb_M_back 49 = .ok (.ireturn, 1) ∧ 49 + 1 = 50 := ⟨by decide +kernel, rfl⟩
theorem zd_M_writes_0 : decode zb_M_writes 0 = .ok (.aload_n 0, 1) ∧ 0 + 1 = 1 := ⟨by decide +kernel, rfl⟩
theorem zd_M_writes_1 : decode zb_M_writes 1 = .ok (.getfield 228, 3) ∧ 1 + 3 = 4 := ⟨by decide +kernel, rfl⟩
theorem zd_M_writes_4 : decode zb_M_writes 4 = .ok (.aload_n 0, 1) ∧ 4 + 1 = 5 := ⟨by decide +kernel, rfl⟩
theorem zd_M_writes_5 : decode zb_M_writes 5 = .ok (.getfield 231, 3) ∧ 5 + 3 = 8 := ⟨by decide +kernel, rfl⟩
theorem zd_M_writes_8 : decode zb_M_writes 8 = .ok (.iload_n 1, 1) ∧ 8 + 1 = 9 := ⟨by decide +kernel, rfl⟩
theorem zd_M_writes_9 : decode zb_M_writes 9 = .ok (.iastore, 1) ∧ 9 + 1 = 10 := ⟨by decide +kernel, rfl⟩
theorem zd_M_writes_10 : decode zb_M_writes 10 = .ok (.aload_n 0, 1) ∧ 10 + 1 = 11 := ⟨by decide +kernel, rfl⟩
theorem zd_M_writes_11 : decode zb_M_writes 11 = .ok (.dup, 1) ∧ 11 + 1 = 12 := ⟨by decide +kernel, rfl⟩
theorem zd_M_writes_12 : decode zb_M_writes 12 = .ok (.getfield 231, 3) ∧ 12 + 3 = 15 := ⟨by decide +kernel, rfl⟩
theorem zd_M_writes_15 : decode zb_M_writes 15 = .ok (.iconst 1, 1) ∧ 15 + 1 = 16 := ⟨by decide +kernel, rfl⟩
theorem zd_M_writes_16 : decode zb_M_writes 16 = .ok (.iadd, 1) ∧ 16 + 1 = 17 := ⟨by decide +kernel, rfl⟩
theorem zd_M_writes_17 : decode zb_M_writes 17 = .ok (.putfield 231, 3) ∧ 17 + 3 = 20 := ⟨by decide +kernel, rfl⟩
theorem zd_M_writes_20 : decode zb_M_writes 20 = .ok (.return_, 1) ∧ 20 + 1 = 21 := ⟨by decide +kernel, rfl⟩
theorem zd_M_image_0 : decode zb_M_image 0 = .ok (.aload_n 0, 1) ∧ 0 + 1 = 1 := ⟨by decide +kernel, rfl⟩
theorem zd_M_image_1 : decode zb_M_image 1 = .ok (.iconst 0, 1) ∧ 1 + 1 = 2 := ⟨by decide +kernel, rfl⟩
theorem zd_M_image_2 : decode zb_M_image 2 = .ok (.putfield 231, 3) ∧ 2 + 3 = 5 := ⟨by decide +kernel, rfl⟩
theorem zd_M_image_5 : decode zb_M_image 5 = .ok (.aload_n 0, 1) ∧ 5 + 1 = 6 := ⟨by decide +kernel, rfl⟩
theorem zd_M_image_6 : decode zb_M_image 6 = .ok (.aload_n 0, 1) ∧ 6 + 1 = 7 := ⟨by decide +kernel, rfl⟩
theorem zd_M_image_7 : decode zb_M_image 7 = .ok (.getfield 66, 3) ∧ 7 + 3 = 10 := ⟨by decide +kernel, rfl⟩
theorem zd_M_image_10 : decode zb_M_image 10 = .ok (.aload_n 0, 1) ∧ 10 + 1 = 11 := ⟨by decide +kernel, rfl⟩
theorem zd_M_image_11 : decode zb_M_image 11 = .ok (.getfield 51, 3) ∧ 11 + 3 = 14 := ⟨by decide +kernel, rfl⟩
theorem zd_M_image_14 : decode zb_M_image 14 = .ok (.iaload, 1) ∧ 14 + 1 = 15 := ⟨by decide +kernel, rfl⟩
theorem zd_M_image_15 : decode zb_M_image 15 = .ok (.invokevirtual 494, 3) ∧ 15 + 3 = 18 := ⟨by decide +kernel, rfl⟩
theorem zd_M_image_18 : decode zb_M_image 18 = .ok (.aload_n 0, 1) ∧ 18 + 1 = 19 := ⟨by decide +kernel, rfl⟩
theorem zd_M_image_19 : decode zb_M_image 19 = .ok (.aload_n 0, 1) ∧ 19 + 1 = 20 := ⟨by decide +kernel, rfl⟩
theorem zd_M_image_20 : decode zb_M_image 20 = .ok (.getfield 69, 3) ∧ 20 + 3 = 23 := ⟨by decide +kernel, rfl⟩
theorem zd_M_image_23 : decode zb_M_image 23 = .ok (.aload_n 0, 1) ∧ 23 + 1 = 24 := ⟨by decide +kernel, rfl⟩
theorem zd_M_image_24 : decode zb_M_image 24 = .ok (.getfield 51, 3) ∧ 24 + 3 = 27 := ⟨by decide +kernel, rfl⟩
theorem zd_M_image_27 : decode zb_M_image 27 = .ok (.iaload, 1) ∧ 27 + 1 = 28 := ⟨by decide +kernel, rfl⟩
theorem zd_M_image_28 : decode zb_M_image 28 = .ok (.invokevirtual 494, 3) ∧ 28 + 3 = 31 := ⟨by decide +kernel, rfl⟩
theorem zd_M_image_31 : decode zb_M_image 31 = .ok (.aload_n 0, 1) ∧ 31 + 1 = 32 := ⟨by decide +kernel, rfl⟩
theorem zd_M_image_32 : decode zb_M_image 32 = .ok (.aload_n 0, 1) ∧ 32 + 1 = 33 := ⟨by decide +kernel, rfl⟩
theorem zd_M_image_33 : decode zb_M_image 33 = .ok (.getfield 72, 3) ∧ 33 + 3 = 36 := ⟨by decide +kernel, rfl⟩
theorem zd_M_image_36 : decode zb_M_image 36 = .ok (.aload_n 0, 1) ∧ 36 + 1 = 37 := ⟨by decide +kernel, rfl⟩
theorem zd_M_image_37 : decode zb_M_image 37 = .ok (.getfield 51, 3) ∧ 37 + 3 = 40 := ⟨by decide +kernel, rfl⟩
theorem zd_M_image_40 : decode zb_M_image 40 = .ok (.iaload, 1) ∧ 40 + 1 = 41 := ⟨by decide +kernel, rfl⟩
theorem zd_M_image_41 : decode zb_M_image 41 = .ok (.invokevirtual 494, 3) ∧ 41 + 3 = 44 := ⟨by decide +kernel, rfl⟩
theorem zd_M_image_44 : decode zb_M_image 44 = .ok (.aload_n 0, 1) ∧ 44 + 1 = 45 := ⟨by decide +kernel, rfl⟩
theorem zd_M_image_45 : decode zb_M_image 45 = .ok (.aload_n 0, 1) ∧ 45 + 1 = 46 := ⟨by decide +kernel, rfl⟩
theorem zd_M_image_46 : decode zb_M_image 46 = .ok (.getfield 141, 3) ∧ 46 + 3 = 49 := ⟨by decide +kernel, rfl⟩
theorem zd_M_image_49 : decode zb_M_image 49 = .ok (.invokevirtual 494, 3) ∧ 49 + 3 = 52 := ⟨by decide +kernel, rfl⟩
theorem zd_M_image_52 : decode zb_M_image 52 = .ok (.aload_n 0, 1) ∧ 52 + 1 = 53 := ⟨by decide +kernel, rfl⟩
theorem zd_M_image_53 : decode zb_M_image 53 = .ok (.aload_n 0, 1) ∧ 53 + 1 = 54 := ⟨by decide +kernel, rfl⟩
theorem zd_M_image_54 : decode zb_M_image 54 = .ok (.getfield 144, 3) ∧ 54 + 3 = 57 := ⟨by decide +kernel, rfl⟩
theorem zd_M_image_57 : decode zb_M_image 57 = .ok (.invokevirtual 494, 3) ∧ 57 + 3 = 60 := ⟨by decide +kernel, rfl⟩
theorem zd_M_image_60 : decode zb_M_image 60 = .ok (.iconst 0, 1) ∧ 60 + 1 = 61 := ⟨by decide +kernel, rfl⟩
theorem zd_M_image_61 : decode zb_M_image 61 = .ok (.istore_n 1, 1) ∧ 61 + 1 = 62 := ⟨by decide +kernel, rfl⟩
theorem zd_M_image_62 : decode zb_M_image 62 = .ok (.iload_n 1, 1) ∧ 62 + 1 = 63 := ⟨by decide +kernel, rfl⟩
theorem zd_M_image_63 : decode zb_M_image 63 = .ok (.aload_n 0, 1) ∧ 63 + 1 = 64 := ⟨by decide +kernel, rfl⟩
theorem zd_M_image_64 : decode zb_M_image 64 = .ok (.getfield 72, 3) ∧ 64 + 3 = 67 := ⟨by decide +kernel, rfl⟩
theorem zd_M_image_67 : decode zb_M_image 67 = .ok (.aload_n 0, 1) ∧ 67 + 1 = 68 := ⟨by decide +kernel, rfl⟩
theorem zd_M_image_68 : decode zb_M_image 68 = .ok (.getfield 51, 3) ∧ 68 + 3 = 71 := ⟨by decide +kernel, rfl⟩
theorem zd_M_image_71 : decode zb_M_image 71 = .ok (.iaload, 1) ∧ 71 + 1 = 72 := ⟨by decide +kernel, rfl⟩
theorem zd_M_image_72 : decode zb_M_image 72 = .ok (.if_icmp .ge 19, 3) ∧ ((72 : Nat) : Int) + (19) = ((91 : Nat) : Int) ∧ 72 + 3 = 75 := ⟨by decide +kernel, by decide, rfl⟩
theorem zd_M_image_75 : decode zb_M_image 75 = .ok (.aload_n 0, 1) ∧ 75 + 1 = 76 := ⟨by decide +kernel, rfl⟩
theorem zd_M_image_76 : decode zb_M_image 76 = .ok (.aload_n 0, 1) ∧ 76 + 1 = 77 := ⟨by decide +kernel, rfl⟩
theorem zd_M_image_77 : decode zb_M_image 77 = .ok (.getfield 147, 3) ∧ 77 + 3 = 80 := ⟨by decide +kernel, rfl⟩
theorem zd_M_image_80 : decode zb_M_image 80 = .ok (.iload_n 1, 1) ∧ 80 + 1 = 81 := ⟨by decide +kernel, rfl⟩
theorem zd_M_image_81 : decode zb_M_image 81 = .ok (.iaload, 1) ∧ 81 + 1 = 82 := ⟨by decide +kernel, rfl⟩
theorem zd_M_image_82 : decode zb_M_image 82 = .ok (.invokevirtual 494, 3) ∧ 82 + 3 = 85 := ⟨by decide +kernel, rfl⟩
theorem zd_M_image_85 : decode zb_M_image 85 = .ok (.iinc 1 1, 3) ∧ 85 + 3 = 88 := ⟨by decide +kernel, rfl⟩
theorem zd_M_image_88 : decode zb_M_image 88 = .ok (.goto (-26), 3) ∧ ((88 : Nat) : Int) + (-26) = ((62 : Nat) : Int) ∧ 88 + 3 = 91 := ⟨by decide +kernel, by decide, rfl⟩
theorem zd_M_image_91 : decode zb_M_image 91 = .ok (.bipush 13, 2) ∧ 91 + 2 = 93 := ⟨by decide +kernel, rfl⟩
theorem zd_M_image_93 : decode zb_M_image 93 = .ok (.istore_n 1, 1) ∧ 93 + 1 = 94 := ⟨by decide +kernel, rfl⟩
theorem zd_M_image_94 : decode zb_M_image 94 = .ok (.iconst 0, 1) ∧ 94 + 1 = 95 := ⟨by decide +kernel, rfl⟩
theorem zd_M_image_95 : decode zb_M_image 95 = .ok (.istore_n 2, 1) ∧ 95 + 1 = 96 := ⟨by decide +kernel, rfl⟩
theorem zd_M_image_96 : decode zb_M_image 96 = .ok (.iload_n 2, 1) ∧ 96 + 1 = 97 := ⟨by decide +kernel, rfl⟩
theorem zd_M_image_97 : decode zb_M_image 97 = .ok (.aload_n 0, 1) ∧ 97 + 1 = 98 := ⟨by decide +kernel, rfl⟩
theorem zd_M_image_98 : decode zb_M_image 98 = .ok (.getfield 231, 3) ∧ 98 + 3 = 101 := ⟨by decide +kernel, rfl⟩
theorem zd_M_image_101 : decode zb_M_image 101 = .ok (.if_icmp .ge 24, 3) ∧ ((101 : Nat) : Int) + (24) = ((125 : Nat) : Int) ∧ 101 + 3 = 104 := ⟨by decide +kernel, by decide, rfl⟩
theorem zd_M_image_104 : decode zb_M_image 104 = .ok (.iconst 3, 1) ∧ 104 + 1 = 105 := ⟨by decide +kernel, rfl⟩
theorem zd_M_image_105 : decode zb_M_image 105 = .ok (.iload_n 1, 1) ∧ 105 + 1 = 106 := ⟨by decide +kernel, rfl⟩
theorem zd_M_image_106 : decode zb_M_image 106 = .ok (.imul, 1) ∧ 106 + 1 = 107 := ⟨by decide +kernel, rfl⟩
theorem zd_M_image_107 : decode zb_M_image 107 = .ok (.aload_n 0, 1) ∧ 107 + 1 = 108 := ⟨by decide +kernel, rfl⟩
theorem zd_M_image_108 : decode zb_M_image 108 = .ok (.getfield 228, 3) ∧ 108 + 3 = 111 := ⟨by decide +kernel, rfl⟩
theorem zd_M_image_111 : decode zb_M_image 111 = .ok (.iload_n 2, 1) ∧ 111 + 1 = 112 := ⟨by decide +kernel, rfl⟩
theorem zd_M_image_112 : decode zb_M_image 112 = .ok (.iaload, 1) ∧ 112 + 1 = 113 := ⟨by decide +kernel, rfl⟩
theorem zd_M_image_113 : decode zb_M_image 113 = .ok (.iadd, 1) ∧ 113 + 1 = 114 := ⟨by decide +kernel, rfl⟩
theorem zd_M_image_114 : decode zb_M_image 114 = .ok (.sipush 227, 3) ∧ 114 + 3 = 117 := ⟨by decide +kernel, rfl⟩
theorem zd_M_image_117 : decode zb_M_image 117 = .ok (.irem, 1) ∧ 117 + 1 = 118 := ⟨by decide +kernel, rfl⟩
theorem zd_M_image_118 : decode zb_M_image 118 = .ok (.istore_n 1, 1) ∧ 118 + 1 = 119 := ⟨by decide +kernel, rfl⟩
theorem zd_M_image_119 : decode zb_M_image 119 = .ok (.iinc 2 1, 3) ∧ 119 + 3 = 122 := ⟨by decide +kernel, rfl⟩
theorem zd_M_image_122 : decode zb_M_image 122 = .ok (.goto (-26), 3) ∧ ((122 : Nat) : Int) + (-26) = ((96 : Nat) : Int) ∧ 122 + 3 = 125 := ⟨by decide +kernel, by decide, rfl⟩
theorem zd_M_image_125 : decode zb_M_image 125 = .ok (.aload_n 0, 1) ∧ 125 + 1 = 126 := ⟨by decide +kernel, rfl⟩
theorem zd_M_image_126 : decode zb_M_image 126 = .ok (.iload_n 1, 1) ∧ 126 + 1 = 127 := ⟨by decide +kernel, rfl⟩
theorem zd_M_image_127 : decode zb_M_image 127 = .ok (.invokevirtual 494, 3) ∧ 127 + 3 = 130 := ⟨by decide +kernel, rfl⟩
theorem zd_M_image_130 : decode zb_M_image 130 = .ok (.aload_n 0, 1) ∧ 130 + 1 = 131 := ⟨by decide +kernel, rfl⟩
theorem zd_M_image_131 : decode zb_M_image 131 = .ok (.getfield 231, 3) ∧ 131 + 3 = 134 := ⟨by decide +kernel, rfl⟩
theorem zd_M_image_134 : decode zb_M_image 134 = .ok (.ireturn, 1) ∧ 134 + 1 = 135 := ⟨by decide +kernel, rfl⟩
theorem zd_M_octet_0 : decode zb_M_octet 0 = .ok (.iload_n 1, 1) ∧ 0 + 1 = 1 := ⟨by decide +kernel, rfl⟩
theorem zd_M_octet_1 : decode zb_M_octet 1 = .ok (.ifCond .lt 20, 3) ∧ ((1 : Nat) : Int) + (20) = ((21 : Nat) : Int) ∧ 1 + 3 = 4 := ⟨by decide +kernel, by decide, rfl⟩
theorem zd_M_octet_4 : decode zb_M_octet 4 = .ok (.iload_n 1, 1) ∧ 4 + 1 = 5 := ⟨by decide +kernel, rfl⟩
theorem zd_M_octet_5 : decode zb_M_octet 5 = .ok (.aload_n 0, 1) ∧ 5 + 1 = 6 := ⟨by decide +kernel, rfl⟩
theorem zd_M_octet_6 : decode zb_M_octet 6 = .ok (.getfield 231, 3) ∧ 6 + 3 = 9 := ⟨by decide +kernel, rfl⟩
theorem zd_M_octet_9 : decode zb_M_octet 9 = .ok (.if_icmp .ge 12, 3) ∧ ((9 : Nat) : Int) + (12) = ((21 : Nat) : Int) ∧ 9 + 3 = 12 := ⟨by decide +kernel, by decide, rfl⟩
theorem zd_M_octet_12 : decode zb_M_octet 12 = .ok (.aload_n 0, 1) ∧ 12 + 1 = 13 := ⟨by decide +kernel, rfl⟩
theorem zd_M_octet_13 : decode zb_M_octet 13 = .ok (.getfield 228, 3) ∧ 13 + 3 = 16 := ⟨by decide +kernel, rfl⟩
theorem zd_M_octet_16 : decode zb_M_octet 16 = .ok (.iload_n 1, 1) ∧ 16 + 1 = 17 := ⟨by decide +kernel, rfl⟩
theorem zd_M_octet_17 : decode zb_M_octet 17 = .ok (.iaload, 1) ∧ 17 + 1 = 18 := ⟨by decide +kernel, rfl⟩
theorem zd_M_octet_18 : decode zb_M_octet 18 = .ok (.goto 4, 3) ∧ ((18 : Nat) : Int) + (4) = ((22 : Nat) : Int) ∧ 18 + 3 = 21 := ⟨by decide +kernel, by decide, rfl⟩
theorem zd_M_octet_21 : decode zb_M_octet 21 = .ok (.iconst (-1), 1) ∧ 21 + 1 = 22 := ⟨by decide +kernel, rfl⟩
theorem zd_M_octet_22 : decode zb_M_octet 22 = .ok (.ireturn, 1) ∧ 22 + 1 = 23 := ⟨by decide +kernel, rfl⟩
theorem zd_M_isImage_0 : decode zb_M_isImage 0 = .ok (.iload_n 1, 1) ∧ 0 + 1 = 1 := ⟨by decide +kernel, rfl⟩
theorem zd_M_isImage_1 : decode zb_M_isImage 1 = .ok (.bipush 6, 2) ∧ 1 + 2 = 3 := ⟨by decide +kernel, rfl⟩
theorem zd_M_isImage_3 : decode zb_M_isImage 3 = .ok (.aload_n 0, 1) ∧ 3 + 1 = 4 := ⟨by decide +kernel, rfl⟩
theorem zd_M_isImage_4 : decode zb_M_isImage 4 = .ok (.getfield 72, 3) ∧ 4 + 3 = 7 := ⟨by decide +kernel, rfl⟩
theorem zd_M_isImage_7 : decode zb_M_isImage 7 = .ok (.aload_n 0, 1) ∧ 7 + 1 = 8 := ⟨by decide +kernel, rfl⟩
theorem zd_M_isImage_8 : decode zb_M_isImage 8 = .ok (.getfield 51, 3) ∧ 8 + 3 = 11 := ⟨by decide +kernel, rfl⟩
theorem zd_M_isImage_11 : decode zb_M_isImage 11 = .ok (.iaload, 1) ∧ 11 + 1 = 12 := ⟨by decide +kernel, rfl⟩
theorem zd_M_isImage_12 : decode zb_M_isImage 12 = .ok (.iadd, 1) ∧ 12 + 1 = 13 := ⟨by decide +kernel, rfl⟩
theorem zd_M_isImage_13 : decode zb_M_isImage 13 = .ok (.if_icmp .ne 57, 3) ∧ ((13 : Nat) : Int) + (57) = ((70 : Nat) : Int) ∧ 13 + 3 = 16 := ⟨by decide +kernel, by decide, rfl⟩
theorem zd_M_isImage_16 : decode zb_M_isImage 16 = .ok (.aload_n 0, 1) ∧ 16 + 1 = 17 := ⟨by decide +kernel, rfl⟩
theorem zd_M_isImage_17 : decode zb_M_isImage 17 = .ok (.getfield 7, 3) ∧ 17 + 3 = 20 := ⟨by decide +kernel, rfl⟩
theorem zd_M_isImage_20 : decode zb_M_isImage 20 = .ok (.iconst 0, 1) ∧ 20 + 1 = 21 := ⟨by decide +kernel, rfl⟩
theorem zd_M_isImage_21 : decode zb_M_isImage 21 = .ok (.iaload, 1) ∧ 21 + 1 = 22 := ⟨by decide +kernel, rfl⟩
theorem zd_M_isImage_22 : decode zb_M_isImage 22 = .ok (.aload_n 0, 1) ∧ 22 + 1 = 23 := ⟨by decide +kernel, rfl⟩
theorem zd_M_isImage_23 : decode zb_M_isImage 23 = .ok (.getfield 66, 3) ∧ 23 + 3 = 26 := ⟨by decide +kernel, rfl⟩
theorem zd_M_isImage_26 : decode zb_M_isImage 26 = .ok (.aload_n 0, 1) ∧ 26 + 1 = 27 := ⟨by decide +kernel, rfl⟩
theorem zd_M_isImage_27 : decode zb_M_isImage 27 = .ok (.getfield 51, 3) ∧ 27 + 3 = 30 := ⟨by decide +kernel, rfl⟩
theorem zd_M_isImage_30 : decode zb_M_isImage 30 = .ok (.iaload, 1) ∧ 30 + 1 = 31 := ⟨by decide +kernel, rfl⟩
theorem zd_M_isImage_31 : decode zb_M_isImage 31 = .ok (.if_icmp .ne 39, 3) ∧ ((31 : Nat) : Int) + (39) = ((70 : Nat) : Int) ∧ 31 + 3 = 34 := ⟨by decide +kernel, by decide, rfl⟩
theorem zd_M_isImage_34 : decode zb_M_isImage 34 = .ok (.aload_n 0, 1) ∧ 34 + 1 = 35 := ⟨by decide +kernel, rfl⟩
theorem zd_M_isImage_35 : decode zb_M_isImage 35 = .ok (.getfield 7, 3) ∧ 35 + 3 = 38 := ⟨by decide +kernel, rfl⟩
theorem zd_M_isImage_38 : decode zb_M_isImage 38 = .ok (.iconst 1, 1) ∧ 38 + 1 = 39 := ⟨by decide +kernel, rfl⟩
theorem zd_M_isImage_39 : decode zb_M_isImage 39 = .ok (.iaload, 1) ∧ 39 + 1 = 40 := ⟨by decide +kernel, rfl⟩
theorem zd_M_isImage_40 : decode zb_M_isImage 40 = .ok (.aload_n 0, 1) ∧ 40 + 1 = 41 := ⟨by decide +kernel, rfl⟩
theorem zd_M_isImage_41 : decode zb_M_isImage 41 = .ok (.getfield 69, 3) ∧ 41 + 3 = 44 := ⟨by decide +kernel, rfl⟩
theorem zd_M_isImage_44 : decode zb_M_isImage 44 = .ok (.aload_n 0, 1) ∧ 44 + 1 = 45 := ⟨by decide +kernel, rfl⟩
theorem zd_M_isImage_45 : decode zb_M_isImage 45 = .ok (.getfield 51, 3) ∧ 45 + 3 = 48 := ⟨by decide +kernel, rfl⟩
theorem zd_M_isImage_48 : decode zb_M_isImage 48 = .ok (.iaload, 1) ∧ 48 + 1 = 49 := ⟨by decide +kernel, rfl⟩
theorem zd_M_isImage_49 : decode zb_M_isImage 49 = .ok (.if_icmp .ne 21, 3) ∧ ((49 : Nat) : Int) + (21) = ((70 : Nat) : Int) ∧ 49 + 3 = 52 := ⟨by decide +kernel, by decide, rfl⟩
theorem zd_M_isImage_52 : decode zb_M_isImage 52 = .ok (.aload_n 0, 1) ∧ 52 + 1 = 53 := ⟨by decide +kernel, rfl⟩
theorem zd_M_isImage_53 : decode zb_M_isImage 53 = .ok (.getfield 7, 3) ∧ 53 + 3 = 56 := ⟨by decide +kernel, rfl⟩
theorem zd_M_isImage_56 : decode zb_M_isImage 56 = .ok (.iconst 2, 1) ∧ 56 + 1 = 57 := ⟨by decide +kernel, rfl⟩
theorem zd_M_isImage_57 : decode zb_M_isImage 57 = .ok (.iaload, 1) ∧ 57 + 1 = 58 := ⟨by decide +kernel, rfl⟩
theorem zd_M_isImage_58 : decode zb_M_isImage 58 = .ok (.aload_n 0, 1) ∧ 58 + 1 = 59 := ⟨by decide +kernel, rfl⟩
theorem zd_M_isImage_59 : decode zb_M_isImage 59 = .ok (.getfield 72, 3) ∧ 59 + 3 = 62 := ⟨by decide +kernel, rfl⟩
theorem zd_M_isImage_62 : decode zb_M_isImage 62 = .ok (.aload_n 0, 1) ∧ 62 + 1 = 63 := ⟨by decide +kernel, rfl⟩
theorem zd_M_isImage_63 : decode zb_M_isImage 63 = .ok (.getfield 51, 3) ∧ 63 + 3 = 66 := ⟨by decide +kernel, rfl⟩
theorem zd_M_isImage_66 : decode zb_M_isImage 66 = .ok (.iaload, 1) ∧ 66 + 1 = 67 := ⟨by decide +kernel, rfl⟩
theorem zd_M_isImage_67 : decode zb_M_isImage 67 = .ok (.if_icmp .eq 5, 3) ∧ ((67 : Nat) : Int) + (5) = ((72 : Nat) : Int) ∧ 67 + 3 = 70 := ⟨by decide +kernel, by decide, rfl⟩
theorem zd_M_isImage_70 : decode zb_M_isImage 70 = .ok (.iconst 0, 1) ∧ 70 + 1 = 71 := ⟨by decide +kernel, rfl⟩
theorem zd_M_isImage_71 : decode zb_M_isImage 71 = .ok (.ireturn, 1) ∧ 71 + 1 = 72 := ⟨by decide +kernel, rfl⟩
theorem zd_M_isImage_72 : decode zb_M_isImage 72 = .ok (.aload_n 0, 1) ∧ 72 + 1 = 73 := ⟨by decide +kernel, rfl⟩
theorem zd_M_isImage_73 : decode zb_M_isImage 73 = .ok (.getfield 7, 3) ∧ 73 + 3 = 76 := ⟨by decide +kernel, rfl⟩
theorem zd_M_isImage_76 : decode zb_M_isImage 76 = .ok (.iconst 3, 1) ∧ 76 + 1 = 77 := ⟨by decide +kernel, rfl⟩
theorem zd_M_isImage_77 : decode zb_M_isImage 77 = .ok (.iaload, 1) ∧ 77 + 1 = 78 := ⟨by decide +kernel, rfl⟩
theorem zd_M_isImage_78 : decode zb_M_isImage 78 = .ok (.iconst 1, 1) ∧ 78 + 1 = 79 := ⟨by decide +kernel, rfl⟩
theorem zd_M_isImage_79 : decode zb_M_isImage 79 = .ok (.aload_n 0, 1) ∧ 79 + 1 = 80 := ⟨by decide +kernel, rfl⟩
theorem zd_M_isImage_80 : decode zb_M_isImage 80 = .ok (.getfield 66, 3) ∧ 80 + 3 = 83 := ⟨by decide +kernel, rfl⟩
theorem zd_M_isImage_83 : decode zb_M_isImage 83 = .ok (.aload_n 0, 1) ∧ 83 + 1 = 84 := ⟨by decide +kernel, rfl⟩
theorem zd_M_isImage_84 : decode zb_M_isImage 84 = .ok (.getfield 51, 3) ∧ 84 + 3 = 87 := ⟨by decide +kernel, rfl⟩
theorem zd_M_isImage_87 : decode zb_M_isImage 87 = .ok (.iaload, 1) ∧ 87 + 1 = 88 := ⟨by decide +kernel, rfl⟩
theorem zd_M_isImage_88 : decode zb_M_isImage 88 = .ok (.ishl, 1) ∧ 88 + 1 = 89 := ⟨by decide +kernel, rfl⟩
theorem zd_M_isImage_89 : decode zb_M_isImage 89 = .ok (.if_icmp .ge 16, 3) ∧ ((89 : Nat) : Int) + (16) = ((105 : Nat) : Int) ∧ 89 + 3 = 92 := ⟨by decide +kernel, by decide, rfl⟩
theorem zd_M_isImage_92 : decode zb_M_isImage 92 = .ok (.aload_n 0, 1) ∧ 92 + 1 = 93 := ⟨by decide +kernel, rfl⟩
theorem zd_M_isImage_93 : decode zb_M_isImage 93 = .ok (.getfield 7, 3) ∧ 93 + 3 = 96 := ⟨by decide +kernel, rfl⟩
theorem zd_M_isImage_96 : decode zb_M_isImage 96 = .ok (.iconst 4, 1) ∧ 96 + 1 = 97 := ⟨by decide +kernel, rfl⟩
theorem zd_M_isImage_97 : decode zb_M_isImage 97 = .ok (.iaload, 1) ∧ 97 + 1 = 98 := ⟨by decide +kernel, rfl⟩
theorem zd_M_isImage_98 : decode zb_M_isImage 98 = .ok (.aload_n 0, 1) ∧ 98 + 1 = 99 := ⟨by decide +kernel, rfl⟩
theorem zd_M_isImage_99 : decode zb_M_isImage 99 = .ok (.invokevirtual 455, 3) ∧ 99 + 3 = 102 := ⟨by decide +kernel, rfl⟩
theorem zd_M_isImage_102 : decode zb_M_isImage 102 = .ok (.if_icmp .lt 5, 3) ∧ ((102 : Nat) : Int) + (5) = ((107 : Nat) : Int) ∧ 102 + 3 = 105 := ⟨by decide +kernel, by decide, rfl⟩
theorem zd_M_isImage_105 : decode zb_M_isImage 105 = .ok (.iconst 0, 1) ∧ 105 + 1 = 106 := ⟨by decide +kernel, rfl⟩
theorem zd_M_isImage_106 : decode zb_M_isImage 106 = .ok (.ireturn, 1) ∧ 106 + 1 = 107 := ⟨by decide +kernel, rfl⟩
theorem zd_M_isImage_107 : decode zb_M_isImage 107 = .ok (.iconst 0, 1) ∧ 107 + 1 = 108 := ⟨by decide +kernel, rfl⟩
theorem zd_M_isImage_108 : decode zb_M_isImage 108 = .ok (.istore_n 2, 1) ∧ 108 + 1 = 109 := ⟨by decide +kernel, rfl⟩
theorem zd_M_isImage_109 : decode zb_M_isImage 109 = .ok (.iload_n 2, 1) ∧ 109 + 1 = 110 := ⟨by decide +kernel, rfl⟩
theorem zd_M_isImage_110 : decode zb_M_isImage 110 = .ok (.aload_n 0, 1) ∧ 110 + 1 = 111 := ⟨by decide +kernel, rfl⟩
theorem zd_M_isImage_111 : decode zb_M_isImage 111 = .ok (.getfield 72, 3) ∧ 111 + 3 = 114 := ⟨by decide +kernel, rfl⟩
theorem zd_M_isImage_114 : decode zb_M_isImage 114 = .ok (.aload_n 0, 1) ∧ 114 + 1 = 115 := ⟨by decide +kernel, rfl⟩
theorem zd_M_isImage_115 : decode zb_M_isImage 115 = .ok (.getfield 51, 3) ∧ 115 + 3 = 118 := ⟨by decide +kernel, rfl⟩
theorem zd_M_isImage_118 : decode zb_M_isImage 118 = .ok (.iaload, 1) ∧ 118 + 1 = 119 := ⟨by decide +kernel, rfl⟩
theorem zd_M_isImage_119 : decode zb_M_isImage 119 = .ok (.if_icmp .ge 23, 3) ∧ ((119 : Nat) : Int) + (23) = ((142 : Nat) : Int) ∧ 119 + 3 = 122 := ⟨by decide +kernel, by decide, rfl⟩
theorem zd_M_isImage_122 : decode zb_M_isImage 122 = .ok (.aload_n 0, 1) ∧ 122 + 1 = 123 := ⟨by decide +kernel, rfl⟩
theorem zd_M_isImage_123 : decode zb_M_isImage 123 = .ok (.getfield 7, 3) ∧ 123 + 3 = 126 := ⟨by decide +kernel, rfl⟩
theorem zd_M_isImage_126 : decode zb_M_isImage 126 = .ok (.iconst 5, 1) ∧ 126 + 1 = 127 := ⟨by decide +kernel, rfl⟩
theorem zd_M_isImage_127 : decode zb_M_isImage 127 = .ok (.iload_n 2, 1) ∧ 127 + 1 = 128 := ⟨by decide +kernel, rfl⟩
theorem zd_M_isImage_128 : decode zb_M_isImage 128 = .ok (.iadd, 1) ∧ 128 + 1 = 129 := ⟨by decide +kernel, rfl⟩
theorem zd_M_isImage_129 : decode zb_M_isImage 129 = .ok (.iaload, 1) ∧ 129 + 1 = 130 := ⟨by decide +kernel, rfl⟩
theorem zd_M_isImage_130 : decode zb_M_isImage 130 = .ok (.iconst 2, 1) ∧ 130 + 1 = 131 := ⟨by decide +kernel, rfl⟩
theorem zd_M_isImage_131 : decode zb_M_isImage 131 = .ok (.if_icmp .le 5, 3) ∧ ((131 : Nat) : Int) + (5) = ((136 : Nat) : Int) ∧ 131 + 3 = 134 := ⟨by decide +kernel, by decide, rfl⟩
theorem zd_M_isImage_134 : decode zb_M_isImage 134 = .ok (.iconst 0, 1) ∧ 134 + 1 = 135 := ⟨by decide +kernel, rfl⟩
theorem zd_M_isImage_135 : decode zb_M_isImage 135 = .ok (.ireturn, 1) ∧ 135 + 1 = 136 := ⟨by decide +kernel, rfl⟩
theorem zd_M_isImage_136 : decode zb_M_isImage 136 = .ok (.iinc 2 1, 3) ∧ 136 + 3 = 139 := ⟨by decide +kernel, rfl⟩
theorem zd_M_isImage_139 : decode zb_M_isImage 139 = .ok (.goto (-30), 3) ∧ ((139 : Nat) : Int) + (-30) = ((109 : Nat) : Int) ∧ 139 + 3 = 142 := ⟨by decide +kernel, by decide, rfl⟩
theorem zd_M_isImage_142 : decode zb_M_isImage 142 = .ok (.bipush 13, 2) ∧ 142 + 2 = 144 := ⟨by decide +kernel, rfl⟩
theorem zd_M_isImage_144 : decode zb_M_isImage 144 = .ok (.istore_n 2, 1) ∧ 144 + 1 = 145 := ⟨by decide +kernel, rfl⟩
theorem zd_M_isImage_145 : decode zb_M_isImage 145 = .ok (.iconst 0, 1) ∧ 145 + 1 = 146 := ⟨by decide +kernel, rfl⟩
theorem zd_M_isImage_146 : decode zb_M_isImage 146 = .ok (.istore_n 3, 1) ∧ 146 + 1 = 147 := ⟨by decide +kernel, rfl⟩
theorem zd_M_isImage_147 : decode zb_M_isImage 147 = .ok (.iload_n 3, 1) ∧ 147 + 1 = 148 := ⟨by decide +kernel, rfl⟩
theorem zd_M_isImage_148 : decode zb_M_isImage 148 = .ok (.iload_n 1, 1) ∧ 148 + 1 = 149 := ⟨by decide +kernel, rfl⟩
theorem zd_M_isImage_149 : decode zb_M_isImage 149 = .ok (.iconst 1, 1) ∧ 149 + 1 = 150 := ⟨by decide +kernel, rfl⟩
theorem zd_M_isImage_150 : decode zb_M_isImage 150 = .ok (.isub, 1) ∧ 150 + 1 = 151 := ⟨by decide +kernel, rfl⟩
theorem zd_M_isImage_151 : decode zb_M_isImage 151 = .ok (.if_icmp .ge 24, 3) ∧ ((151 : Nat) : Int) + (24) = ((175 : Nat) : Int) ∧ 151 + 3 = 154 := ⟨by decide +kernel, by decide, rfl⟩
theorem zd_M_isImage_154 : decode zb_M_isImage 154 = .ok (.iconst 3, 1) ∧ 154 + 1 = 155 := ⟨by decide +kernel, rfl⟩
theorem zd_M_isImage_155 : decode zb_M_isImage 155 = .ok (.iload_n 2, 1) ∧ 155 + 1 = 156 := ⟨by decide +kernel, rfl⟩
theorem zd_M_isImage_156 : decode zb_M_isImage 156 = .ok (.imul, 1) ∧ 156 + 1 = 157 := ⟨by decide +kernel, rfl⟩
theorem zd_M_isImage_157 : decode zb_M_isImage 157 = .ok (.aload_n 0, 1) ∧ 157 + 1 = 158 := ⟨by decide +kernel, rfl⟩
theorem zd_M_isImage_158 : decode zb_M_isImage 158 = .ok (.getfield 7, 3) ∧ 158 + 3 = 161 := ⟨by decide +kernel, rfl⟩
theorem zd_M_isImage_161 : decode zb_M_isImage 161 = .ok (.iload_n 3, 1) ∧ 161 + 1 = 162 := ⟨by decide +kernel, rfl⟩
theorem zd_M_isImage_162 : decode zb_M_isImage 162 = .ok (.iaload, 1) ∧ 162 + 1 = 163 := ⟨by decide +kernel, rfl⟩
theorem zd_M_isImage_163 : decode zb_M_isImage 163 = .ok (.iadd, 1) ∧ 163 + 1 = 164 := ⟨by decide +kernel, rfl⟩
theorem zd_M_isImage_164 : decode zb_M_isImage 164 = .ok (.sipush 227, 3) ∧ 164 + 3 = 167 := ⟨by decide +kernel, rfl⟩
theorem zd_M_isImage_167 : decode zb_M_isImage 167 = .ok (.irem, 1) ∧ 167 + 1 = 168 := ⟨by decide +kernel, rfl⟩
theorem zd_M_isImage_168 : decode zb_M_isImage 168 = .ok (.istore_n 2, 1) ∧ 168 + 1 = 169 := ⟨by decide +kernel, rfl⟩
theorem zd_M_isImage_169 : decode zb_M_isImage 169 = .ok (.iinc 3 1, 3) ∧ 169 + 3 = 172 := ⟨by decide +kernel, rfl⟩
theorem zd_M_isImage_172 : decode zb_M_isImage 172 = .ok (.goto (-25), 3) ∧ ((172 : Nat) : Int) + (-25) = ((147 : Nat) : Int) ∧ 172 + 3 = 175 := ⟨by decide +kernel, by decide, rfl⟩
theorem zd_M_isImage_175 : decode zb_M_isImage 175 = .ok (.aload_n 0, 1) ∧ 175 + 1 = 176 := ⟨by decide +kernel, rfl⟩
theorem zd_M_isImage_176 : decode zb_M_isImage 176 = .ok (.getfield 7, 3) ∧ 176 + 3 = 179 := ⟨by decide +kernel, rfl⟩
theorem zd_M_isImage_179 : decode zb_M_isImage 179 = .ok (.iload_n 1, 1) ∧ 179 + 1 = 180 := ⟨by decide +kernel, rfl⟩
theorem zd_M_isImage_180 : decode zb_M_isImage 180 = .ok (.iconst 1, 1) ∧ 180 + 1 = 181 := ⟨by decide +kernel, rfl⟩
theorem zd_M_isImage_181 : decode zb_M_isImage 181 = .ok (.isub, 1) ∧ 181 + 1 = 182 := ⟨by decide +kernel, rfl⟩
theorem zd_M_isImage_182 : decode zb_M_isImage 182 = .ok (.iaload, 1) ∧ 182 + 1 = 183 := ⟨by decide +kernel, rfl⟩
theorem zd_M_isImage_183 : decode zb_M_isImage 183 = .ok (.iload_n 2, 1) ∧ 183 + 1 = 184 := ⟨by decide +kernel, rfl⟩
theorem zd_M_isImage_184 : decode zb_M_isImage 184 = .ok (.if_icmp .ne 7, 3) ∧ ((184 : Nat) : Int) + (7) = ((191 : Nat) : Int) ∧ 184 + 3 = 187 := ⟨by decide +kernel, by decide, rfl⟩
theorem zd_M_isImage_187 : decode zb_M_isImage 187 = .ok (.iconst 1, 1) ∧ 187 + 1 = 188 := ⟨by decide +kernel, rfl⟩
theorem zd_M_isImage_188 : decode zb_M_isImage 188 = .ok (.goto 4, 3) ∧ ((188 : Nat) : Int) + (4) = ((192 : Nat) : Int) ∧ 188 + 3 = 191 := ⟨by decide +kernel, by decide, rfl⟩
theorem zd_M_isImage_191 : decode zb_M_isImage 191 = .ok (.iconst 0, 1) ∧ 191 + 1 = 192 := ⟨by decide +kernel, rfl⟩
theorem zd_M_isImage_192 : decode zb_M_isImage 192 = .ok (.ireturn, 1) ∧ 192 + 1 = 193 := ⟨by decide +kernel, rfl⟩
theorem zd_M_on_0 : decode zb_M_on 0 = .ok (.aload_n 0, 1) ∧ 0 + 1 = 1 := ⟨by decide +kernel, rfl⟩
theorem zd_M_on_1 : decode zb_M_on 1 = .ok (.getfield 13, 3) ∧ 1 + 3 = 4 := ⟨by decide +kernel, rfl⟩
theorem zd_M_on_4 : decode zb_M_on 4 = .ok (.istore_n 1, 1) ∧ 4 + 1 = 5 := ⟨by decide +kernel, rfl⟩
theorem zd_M_on_5 : decode zb_M_on 5 = .ok (.aload_n 0, 1) ∧ 5 + 1 = 6 := ⟨by decide +kernel, rfl⟩
theorem zd_M_on_6 : decode zb_M_on 6 = .ok (.iconst 0, 1) ∧ 6 + 1 = 7 := ⟨by decide +kernel, rfl⟩
theorem zd_M_on_7 : decode zb_M_on 7 = .ok (.putfield 13, 3) ∧ 7 + 3 = 10 := ⟨by decide +kernel, rfl⟩
theorem zd_M_on_10 : decode zb_M_on 10 = .ok (.aload_n 0, 1) ∧ 10 + 1 = 11 := ⟨by decide +kernel, rfl⟩
theorem zd_M_on_11 : decode zb_M_on 11 = .ok (.iload_n 1, 1) ∧ 11 + 1 = 12 := ⟨by decide +kernel, rfl⟩
theorem zd_M_on_12 : decode zb_M_on 12 = .ok (.invokevirtual 497, 3) ∧ 12 + 3 = 15 := ⟨by decide +kernel, rfl⟩
theorem zd_M_on_15 : decode zb_M_on 15 = .ok (.ifCond .ne 5, 3) ∧ ((15 : Nat) : Int) + (5) = ((20 : Nat) : Int) ∧ 15 + 3 = 18 := ⟨by decide +kernel, by decide, rfl⟩
theorem zd_M_on_18 : decode zb_M_on 18 = .ok (.iconst 0, 1) ∧ 18 + 1 = 19 := ⟨by decide +kernel, rfl⟩
theorem zd_M_on_19 : decode zb_M_on 19 = .ok (.ireturn, 1) ∧ 19 + 1 = 20 := ⟨by decide +kernel, rfl⟩
theorem zd_M_on_20 : decode zb_M_on 20 = .ok (.aload_n 0, 1) ∧ 20 + 1 = 21 := ⟨by decide +kernel, rfl⟩
theorem zd_M_on_21 : decode zb_M_on 21 = .ok (.aload_n 0, 1) ∧ 21 + 1 = 22 := ⟨by decide +kernel, rfl⟩
theorem zd_M_on_22 : decode zb_M_on 22 = .ok (.getfield 7, 3) ∧ 22 + 3 = 25 := ⟨by decide +kernel, rfl⟩
theorem zd_M_on_25 : decode zb_M_on 25 = .ok (.iconst 3, 1) ∧ 25 + 1 = 26 := ⟨by decide +kernel, rfl⟩
theorem zd_M_on_26 : decode zb_M_on 26 = .ok (.iaload, 1) ∧ 26 + 1 = 27 := ⟨by decide +kernel, rfl⟩
theorem zd_M_on_27 : decode zb_M_on 27 = .ok (.putfield 141, 3) ∧ 27 + 3 = 30 := ⟨by decide +kernel, rfl⟩
theorem zd_M_on_30 : decode zb_M_on 30 = .ok (.aload_n 0, 1) ∧ 30 + 1 = 31 := ⟨by decide +kernel, rfl⟩
theorem zd_M_on_31 : decode zb_M_on 31 = .ok (.aload_n 0, 1) ∧ 31 + 1 = 32 := ⟨by decide +kernel, rfl⟩
theorem zd_M_on_32 : decode zb_M_on 32 = .ok (.getfield 7, 3) ∧ 32 + 3 = 35 := ⟨by decide +kernel, rfl⟩
theorem zd_M_on_35 : decode zb_M_on 35 = .ok (.iconst 4, 1) ∧ 35 + 1 = 36 := ⟨by decide +kernel, rfl⟩
theorem zd_M_on_36 : decode zb_M_on 36 = .ok (.iaload, 1) ∧ 36 + 1 = 37 := ⟨by decide +kernel, rfl⟩
theorem zd_M_on_37 : decode zb_M_on 37 = .ok (.putfield 144, 3) ∧ 37 + 3 = 40 := ⟨by decide +kernel, rfl⟩
theorem zd_M_on_40 : decode zb_M_on 40 = .ok (.iconst 0, 1) ∧ 40 + 1 = 41 := ⟨by decide +kernel, rfl⟩
theorem zd_M_on_41 : decode zb_M_on 41 = .ok (.istore_n 2, 1) ∧ 41 + 1 = 42 := ⟨by decide +kernel, rfl⟩
theorem zd_M_on_42 : decode zb_M_on 42 = .ok (.iload_n 2, 1) ∧ 42 + 1 = 43 := ⟨by decide +kernel, rfl⟩
theorem zd_M_on_43 : decode zb_M_on 43 = .ok (.aload_n 0, 1) ∧ 43 + 1 = 44 := ⟨by decide +kernel, rfl⟩
theorem zd_M_on_44 : decode zb_M_on 44 = .ok (.getfield 72, 3) ∧ 44 + 3 = 47 := ⟨by decide +kernel, rfl⟩
theorem zd_M_on_47 : decode zb_M_on 47 = .ok (.aload_n 0, 1) ∧ 47 + 1 = 48 := ⟨by decide +kernel, rfl⟩
theorem zd_M_on_48 : decode zb_M_on 48 = .ok (.getfield 51, 3) ∧ 48 + 3 = 51 := ⟨by decide +kernel, rfl⟩
theorem zd_M_on_51 : decode zb_M_on 51 = .ok (.iaload, 1) ∧ 51 + 1 = 52 := ⟨by decide +kernel, rfl⟩
theorem zd_M_on_52 : decode zb_M_on 52 = .ok (.if_icmp .ge 23, 3) ∧ ((52 : Nat) : Int) + (23) = ((75 : Nat) : Int) ∧ 52 + 3 = 55 := ⟨by decide +kernel, by decide, rfl⟩
theorem zd_M_on_55 : decode zb_M_on 55 = .ok (.aload_n 0, 1) ∧ 55 + 1 = 56 := ⟨by decide +kernel, rfl⟩
theorem zd_M_on_56 : decode zb_M_on 56 = .ok (.getfield 147, 3) ∧ 56 + 3 = 59 := ⟨by decide +kernel, rfl⟩
theorem zd_M_on_59 : decode zb_M_on 59 = .ok (.iload_n 2, 1) ∧ 59 + 1 = 60 := ⟨by decide +kernel, rfl⟩
theorem zd_M_on_60 : decode zb_M_on 60 = .ok (.aload_n 0, 1) ∧ 60 + 1 = 61 := ⟨by decide +kernel, rfl⟩
theorem zd_M_on_61 : decode zb_M_on 61 = .ok (.getfield 7, 3) ∧ 61 + 3 = 64 := ⟨by decide +kernel, rfl⟩
theorem zd_M_on_64 : decode zb_M_on 64 = .ok (.iconst 5, 1) ∧ 64 + 1 = 65 := ⟨by decide +kernel, rfl⟩
theorem zd_M_on_65 : decode zb_M_on 65 = .ok (.iload_n 2, 1) ∧ 65 + 1 = 66 := ⟨by decide +kernel, rfl⟩
theorem zd_M_on_66 : decode zb_M_on 66 = .ok (.iadd, 1) ∧ 66 + 1 = 67 := ⟨by decide +kernel, rfl⟩
theorem zd_M_on_67 : decode zb_M_on 67 = .ok (.iaload, 1) ∧ 67 + 1 = 68 := ⟨by decide +kernel, rfl⟩
theorem zd_M_on_68 : decode zb_M_on 68 = .ok (.iastore, 1) ∧ 68 + 1 = 69 := ⟨by decide +kernel, rfl⟩
theorem zd_M_on_69 : decode zb_M_on 69 = .ok (.iinc 2 1, 3) ∧ 69 + 3 = 72 := ⟨by decide +kernel, rfl⟩
theorem zd_M_on_72 : decode zb_M_on 72 = .ok (.goto (-30), 3) ∧ ((72 : Nat) : Int) + (-30) = ((42 : Nat) : Int) ∧ 72 + 3 = 75 := ⟨by decide +kernel, by decide, rfl⟩
theorem zd_M_on_75 : decode zb_M_on 75 = .ok (.aload_n 0, 1) ∧ 75 + 1 = 76 := ⟨by decide +kernel, rfl⟩
theorem zd_M_on_76 : decode zb_M_on 76 = .ok (.iconst 0, 1) ∧ 76 + 1 = 77 := ⟨by decide +kernel, rfl⟩
theorem zd_M_on_77 : decode zb_M_on 77 = .ok (.putfield 219, 3) ∧ 77 + 3 = 80 := ⟨by decide +kernel, rfl⟩
theorem zd_M_on_80 : decode zb_M_on 80 = .ok (.iconst 1, 1) ∧ 80 + 1 = 81 := ⟨by decide +kernel, rfl⟩
theorem zd_M_on_81 : decode zb_M_on 81 = .ok (.ireturn, 1) ∧ 81 + 1 = 82 := ⟨by decide +kernel, rfl⟩
