/-! constructors: facts -/
theorem q_oc : Cond.code Lib.objectInit ⟨#[0xb1]⟩ 1 none ∈ tblG := tblG_of 107 (by decide +kernel) rfl
theorem dz_X10 : ∀ j, j < 14 → defaultValue (tyX10 j) = vp_V ((kd 8).map dfv) j := by decide +kernel
theorem q_100 : Cond.classLink RL 8 RX10 ∈ tblG := tblG_of 100 (by decide +kernel) rfl
theorem q_101 : Cond.instantiable RX10 14 ∈ tblG := tblG_of 101 (by decide +kernel) rfl
theorem q_105 : Cond.methodLink RX10 1 ⟨"java/lang/Object", "<init>", "()V"⟩ ∈ tblG := tblG_of 105 (by decide +kernel) rfl
theorem q_106 : Cond.instanceMethod ⟨"java/lang/Object", "<init>", "()V"⟩ ∈ tblG := tblG_of 106 (by decide +kernel) rfl
theorem dz_X9 : ∀ j, j < 14 → defaultValue (tyX9 j) = vp_V ((kd 7).map dfv) j := by decide +kernel
theorem q_108 : Cond.classLink RX10 13 RX9 ∈ tblG := tblG_of 108 (by decide +kernel) rfl
theorem q_109 : Cond.instantiable RX9 14 ∈ tblG := tblG_of 109 (by decide +kernel) rfl
theorem sh_66 : shc 66 = 8 := by decide +kernel
theorem q_113 : Cond.methodLink RX9 3 ⟨"java/lang/Object", "<init>", "()V"⟩ ∈ tblG := tblG_of 113 (by decide +kernel) rfl
theorem sh_67 : shc 67 = 20 := by decide +kernel
theorem sl_67 : shl 67 = 5 := by decide +kernel
theorem q_274 : Cond.fieldLink RX9 9 "ReplayBooth$Told" "lateLeast" "[I" ∈ tblG := tblG_of 274 (by decide +kernel) rfl
theorem sh_68 : shc 68 = 20 := by decide +kernel
theorem sl_68 : shl 68 = 5 := by decide +kernel
theorem q_277 : Cond.fieldLink RX9 15 "ReplayBooth$Told" "lateMost" "[I" ∈ tblG := tblG_of 277 (by decide +kernel) rfl
theorem dz_X2 : ∀ j, j < 2 → defaultValue (tyX2 j) = vp_V ((kd 1).map dfv) j := by decide +kernel
theorem q_114 : Cond.classLink RX9 18 RX2 ∈ tblG := tblG_of 114 (by decide +kernel) rfl
theorem q_115 : Cond.instantiable RX2 2 ∈ tblG := tblG_of 115 (by decide +kernel) rfl
theorem sh_69 : shc 69 = 2 := by decide +kernel
theorem q_119 : Cond.methodLink RX2 5 ⟨"java/lang/Object", "<init>", "()V"⟩ ∈ tblG := tblG_of 119 (by decide +kernel) rfl
theorem sh_70 : shc 70 = 20 := by decide +kernel
theorem sl_70 : shl 70 = 100 := by decide +kernel
theorem q_118 : Cond.code yX2_init cX2_init 1 none ∈ tblG := tblG_of 118 (by decide +kernel) rfl
theorem q_117 : Cond.instanceMethod yX2_init ∈ tblG := tblG_of 117 (by decide +kernel) rfl
theorem sh_71 : shc 71 = 20 := by decide +kernel
theorem sl_71 : shl 71 = 4 := by decide +kernel
theorem q_291 : Cond.fieldLink RX9 25 "ReplayBooth$Told" "challenges" "[I" ∈ tblG := tblG_of 291 (by decide +kernel) rfl
theorem q_131 : Cond.classLink RX9 28 RX5 ∈ tblG := tblG_of 131 (by decide +kernel) rfl
theorem sh_72 : shc 72 = 24 := by decide +kernel
theorem sl_72 : shl 72 = 5 := by decide +kernel
theorem q_133 : Cond.classLink RX9 34 RX1 ∈ tblG := tblG_of 133 (by decide +kernel) rfl
theorem sh_73 : shc 73 = 25 := by decide +kernel
theorem sl_73 : shl 73 = 3 := by decide +kernel
theorem q_305 : Cond.fieldLink RX9 36 "ReplayBooth$Told" "board" "[LReplayBooth$Board;" ∈ tblG := tblG_of 305 (by decide +kernel) rfl
theorem q_135 : Cond.classLink RX9 40 RX6 ∈ tblG := tblG_of 135 (by decide +kernel) rfl
theorem sh_74 : shc 74 = 26 := by decide +kernel
theorem sl_74 : shl 74 = 8 := by decide +kernel
theorem sh_75 : shc 75 = 20 := by decide +kernel
theorem sl_75 : shl 75 = 4 := by decide +kernel
theorem dz_X5 : ∀ j, j < 6 → defaultValue (tyX5 j) = vp_V ((kd 4).map dfv) j := by decide +kernel
theorem q_137 : Cond.instantiable RX5 6 ∈ tblG := tblG_of 137 (by decide +kernel) rfl
theorem q_78 : Cond.initialized RX5 ∈ tblG := tblG_of 78 (by decide +kernel) rfl
theorem sh_76 : shc 76 = 5 := by decide +kernel
theorem q_141 : Cond.methodLink RX5 3 ⟨"java/lang/Object", "<init>", "()V"⟩ ∈ tblG := tblG_of 141 (by decide +kernel) rfl
theorem sh_77 : shc 77 = 20 := by decide +kernel
theorem sl_77 : shl 77 = 3 := by decide +kernel
theorem q_153 : Cond.fieldLink RX5 9 "ReplayBooth$Kind" "first" "[I" ∈ tblG := tblG_of 153 (by decide +kernel) rfl
theorem sh_78 : shc 78 = 20 := by decide +kernel
theorem sl_78 : shl 78 = 3 := by decide +kernel
theorem q_156 : Cond.fieldLink RX5 15 "ReplayBooth$Kind" "second" "[I" ∈ tblG := tblG_of 156 (by decide +kernel) rfl
theorem q_140 : Cond.code yX5_init cX5_init 1 none ∈ tblG := tblG_of 140 (by decide +kernel) rfl
theorem q_139 : Cond.instanceMethod yX5_init ∈ tblG := tblG_of 139 (by decide +kernel) rfl
theorem sh_79 : shc 79 = 5 := by decide +kernel
theorem sh_80 : shc 80 = 20 := by decide +kernel
theorem sl_80 : shl 80 = 3 := by decide +kernel
theorem sh_81 : shc 81 = 20 := by decide +kernel
theorem sl_81 : shl 81 = 3 := by decide +kernel
theorem sh_82 : shc 82 = 5 := by decide +kernel
theorem sh_83 : shc 83 = 20 := by decide +kernel
theorem sl_83 : shl 83 = 3 := by decide +kernel
theorem sh_84 : shc 84 = 20 := by decide +kernel
theorem sl_84 : shl 84 = 3 := by decide +kernel
theorem sh_85 : shc 85 = 5 := by decide +kernel
theorem sh_86 : shc 86 = 20 := by decide +kernel
theorem sl_86 : shl 86 = 3 := by decide +kernel
theorem sh_87 : shc 87 = 20 := by decide +kernel
theorem sl_87 : shl 87 = 3 := by decide +kernel
theorem sh_88 : shc 88 = 5 := by decide +kernel
theorem sh_89 : shc 89 = 20 := by decide +kernel
theorem sl_89 : shl 89 = 3 := by decide +kernel
theorem sh_90 : shc 90 = 20 := by decide +kernel
theorem sl_90 : shl 90 = 3 := by decide +kernel
theorem dz_X1 : ∀ j, j < 3 → defaultValue (tyX1 j) = vp_V ((kd 0).map dfv) j := by decide +kernel
theorem q_172 : Cond.instantiable RX1 3 ∈ tblG := tblG_of 172 (by decide +kernel) rfl
theorem q_79 : Cond.initialized RX1 ∈ tblG := tblG_of 79 (by decide +kernel) rfl
theorem sh_91 : shc 91 = 1 := by decide +kernel
theorem q_176 : Cond.methodLink RX1 3 ⟨"java/lang/Object", "<init>", "()V"⟩ ∈ tblG := tblG_of 176 (by decide +kernel) rfl
theorem sh_92 : shc 92 = 20 := by decide +kernel
theorem sl_92 : shl 92 = 7 := by decide +kernel
theorem q_181 : Cond.fieldLink RX1 9 "ReplayBooth$Board" "cameras" "[I" ∈ tblG := tblG_of 181 (by decide +kernel) rfl
theorem q_175 : Cond.code yX1_init cX1_init 1 none ∈ tblG := tblG_of 175 (by decide +kernel) rfl
theorem q_174 : Cond.instanceMethod yX1_init ∈ tblG := tblG_of 174 (by decide +kernel) rfl
theorem sh_93 : shc 93 = 1 := by decide +kernel
theorem sh_94 : shc 94 = 20 := by decide +kernel
theorem sl_94 : shl 94 = 7 := by decide +kernel
theorem sh_95 : shc 95 = 1 := by decide +kernel
theorem sh_96 : shc 96 = 20 := by decide +kernel
theorem sl_96 : shl 96 = 7 := by decide +kernel
theorem dz_X6 : ∀ j, j < 12 → defaultValue (tyX6 j) = vp_V ((kd 5).map dfv) j := by decide +kernel
theorem q_191 : Cond.instantiable RX6 12 ∈ tblG := tblG_of 191 (by decide +kernel) rfl
theorem sh_97 : shc 97 = 6 := by decide +kernel
theorem q_195 : Cond.methodLink RX6 3 ⟨"java/lang/Object", "<init>", "()V"⟩ ∈ tblG := tblG_of 195 (by decide +kernel) rfl
theorem sh_98 : shc 98 = 20 := by decide +kernel
theorem sl_98 : shl 98 = 10 := by decide +kernel
theorem sh_99 : shc 99 = 20 := by decide +kernel
theorem sl_99 : shl 99 = 10 := by decide +kernel
theorem q_217 : Cond.fieldLink RX6 15 "ReplayBooth$Play" "tick" "[I" ∈ tblG := tblG_of 217 (by decide +kernel) rfl
theorem sh_100 : shc 100 = 20 := by decide +kernel
theorem sl_100 : shl 100 = 10 := by decide +kernel
theorem q_221 : Cond.fieldLink RX6 18 "ReplayBooth$Play" "there" "[I" ∈ tblG := tblG_of 221 (by decide +kernel) rfl
theorem sh_101 : shc 101 = 20 := by decide +kernel
theorem sl_101 : shl 101 = 10 := by decide +kernel
theorem q_225 : Cond.fieldLink RX6 21 "ReplayBooth$Play" "notYet" "[I" ∈ tblG := tblG_of 225 (by decide +kernel) rfl
theorem q_194 : Cond.code yX6_init cX6_init 1 none ∈ tblG := tblG_of 194 (by decide +kernel) rfl
theorem q_193 : Cond.instanceMethod yX6_init ∈ tblG := tblG_of 193 (by decide +kernel) rfl
theorem sh_102 : shc 102 = 6 := by decide +kernel
theorem sh_103 : shc 103 = 20 := by decide +kernel
theorem sl_103 : shl 103 = 10 := by decide +kernel
theorem sh_104 : shc 104 = 20 := by decide +kernel
theorem sl_104 : shl 104 = 10 := by decide +kernel
theorem sh_105 : shc 105 = 20 := by decide +kernel
theorem sl_105 : shl 105 = 10 := by decide +kernel
theorem sh_106 : shc 106 = 20 := by decide +kernel
theorem sl_106 : shl 106 = 10 := by decide +kernel
theorem sh_107 : shc 107 = 6 := by decide +kernel
theorem sh_108 : shc 108 = 20 := by decide +kernel
theorem sl_108 : shl 108 = 10 := by decide +kernel
theorem sh_109 : shc 109 = 20 := by decide +kernel
theorem sl_109 : shl 109 = 10 := by decide +kernel
theorem sh_110 : shc 110 = 20 := by decide +kernel
theorem sl_110 : shl 110 = 10 := by decide +kernel
theorem sh_111 : shc 111 = 20 := by decide +kernel
theorem sl_111 : shl 111 = 10 := by decide +kernel
theorem sh_112 : shc 112 = 6 := by decide +kernel
theorem sh_113 : shc 113 = 20 := by decide +kernel
theorem sl_113 : shl 113 = 10 := by decide +kernel
theorem sh_114 : shc 114 = 20 := by decide +kernel
theorem sl_114 : shl 114 = 10 := by decide +kernel
theorem sh_115 : shc 115 = 20 := by decide +kernel
theorem sl_115 : shl 115 = 10 := by decide +kernel
theorem sh_116 : shc 116 = 20 := by decide +kernel
theorem sl_116 : shl 116 = 10 := by decide +kernel
theorem sh_117 : shc 117 = 6 := by decide +kernel
theorem sh_118 : shc 118 = 20 := by decide +kernel
theorem sl_118 : shl 118 = 10 := by decide +kernel
theorem sh_119 : shc 119 = 20 := by decide +kernel
theorem sl_119 : shl 119 = 10 := by decide +kernel
theorem sh_120 : shc 120 = 20 := by decide +kernel
theorem sl_120 : shl 120 = 10 := by decide +kernel
theorem sh_121 : shc 121 = 20 := by decide +kernel
theorem sl_121 : shl 121 = 10 := by decide +kernel
theorem sh_122 : shc 122 = 6 := by decide +kernel
theorem sh_123 : shc 123 = 20 := by decide +kernel
theorem sl_123 : shl 123 = 10 := by decide +kernel
theorem sh_124 : shc 124 = 20 := by decide +kernel
theorem sl_124 : shl 124 = 10 := by decide +kernel
theorem sh_125 : shc 125 = 20 := by decide +kernel
theorem sl_125 : shl 125 = 10 := by decide +kernel
theorem sh_126 : shc 126 = 20 := by decide +kernel
theorem sl_126 : shl 126 = 10 := by decide +kernel
theorem sh_127 : shc 127 = 6 := by decide +kernel
theorem sh_128 : shc 128 = 20 := by decide +kernel
theorem sl_128 : shl 128 = 10 := by decide +kernel
theorem sh_129 : shc 129 = 20 := by decide +kernel
theorem sl_129 : shl 129 = 10 := by decide +kernel
theorem sh_130 : shc 130 = 20 := by decide +kernel
theorem sl_130 : shl 130 = 10 := by decide +kernel
theorem sh_131 : shc 131 = 20 := by decide +kernel
theorem sl_131 : shl 131 = 10 := by decide +kernel
theorem sh_132 : shc 132 = 6 := by decide +kernel
theorem sh_133 : shc 133 = 20 := by decide +kernel
theorem sl_133 : shl 133 = 10 := by decide +kernel
theorem sh_134 : shc 134 = 20 := by decide +kernel
theorem sl_134 : shl 134 = 10 := by decide +kernel
theorem sh_135 : shc 135 = 20 := by decide +kernel
theorem sl_135 : shl 135 = 10 := by decide +kernel
theorem sh_136 : shc 136 = 20 := by decide +kernel
theorem sl_136 : shl 136 = 10 := by decide +kernel
theorem q_258 : Cond.methodLink RX9 52 yX9_clear ∈ tblG := tblG_of 258 (by decide +kernel) rfl
theorem cw_X9_52 : CWs RX9 52 RX9 yX9_clear cX9_clear 1 none 0 := ⟨q_258, q_76, q_261, rfl, by decide +kernel, by decide +kernel⟩
theorem q_110 : Cond.methodLink RX10 15 yX9_init ∈ tblG := tblG_of 110 (by decide +kernel) rfl
theorem q_112 : Cond.code yX9_init cX9_init 2 none ∈ tblG := tblG_of 112 (by decide +kernel) rfl
theorem cw_X10_15 : CWs RX10 15 RX9 yX9_init cX9_init 2 none 0 := ⟨q_110, q_76, q_112, rfl, by decide +kernel, by decide +kernel⟩
theorem q_111 : Cond.instanceMethod yX9_init ∈ tblG := tblG_of 111 (by decide +kernel) rfl
theorem sh_137 : shc 137 = 8 := by decide +kernel
theorem sh_138 : shc 138 = 20 := by decide +kernel
theorem sl_138 : shl 138 = 5 := by decide +kernel
theorem sh_139 : shc 139 = 20 := by decide +kernel
theorem sl_139 : shl 139 = 5 := by decide +kernel
theorem sh_140 : shc 140 = 2 := by decide +kernel
theorem sh_141 : shc 141 = 20 := by decide +kernel
theorem sl_141 : shl 141 = 100 := by decide +kernel
theorem sh_142 : shc 142 = 20 := by decide +kernel
theorem sl_142 : shl 142 = 4 := by decide +kernel
theorem sh_143 : shc 143 = 24 := by decide +kernel
theorem sl_143 : shl 143 = 5 := by decide +kernel
theorem sh_144 : shc 144 = 25 := by decide +kernel
theorem sl_144 : shl 144 = 3 := by decide +kernel
theorem sh_145 : shc 145 = 26 := by decide +kernel
theorem sl_145 : shl 145 = 8 := by decide +kernel
theorem sh_146 : shc 146 = 20 := by decide +kernel
theorem sl_146 : shl 146 = 4 := by decide +kernel
theorem sh_147 : shc 147 = 5 := by decide +kernel
theorem sh_148 : shc 148 = 20 := by decide +kernel
theorem sl_148 : shl 148 = 3 := by decide +kernel
theorem sh_149 : shc 149 = 20 := by decide +kernel
theorem sl_149 : shl 149 = 3 := by decide +kernel
theorem sh_150 : shc 150 = 5 := by decide +kernel
theorem sh_151 : shc 151 = 20 := by decide +kernel
theorem sl_151 : shl 151 = 3 := by decide +kernel
theorem sh_152 : shc 152 = 20 := by decide +kernel
theorem sl_152 : shl 152 = 3 := by decide +kernel
theorem sh_153 : shc 153 = 5 := by decide +kernel
theorem sh_154 : shc 154 = 20 := by decide +kernel
theorem sl_154 : shl 154 = 3 := by decide +kernel
theorem sh_155 : shc 155 = 20 := by decide +kernel
theorem sl_155 : shl 155 = 3 := by decide +kernel
theorem sh_156 : shc 156 = 5 := by decide +kernel
theorem sh_157 : shc 157 = 20 := by decide +kernel
theorem sl_157 : shl 157 = 3 := by decide +kernel
theorem sh_158 : shc 158 = 20 := by decide +kernel
theorem sl_158 : shl 158 = 3 := by decide +kernel
theorem sh_159 : shc 159 = 5 := by decide +kernel
theorem sh_160 : shc 160 = 20 := by decide +kernel
theorem sl_160 : shl 160 = 3 := by decide +kernel
theorem sh_161 : shc 161 = 20 := by decide +kernel
theorem sl_161 : shl 161 = 3 := by decide +kernel
theorem sh_162 : shc 162 = 1 := by decide +kernel
theorem sh_163 : shc 163 = 20 := by decide +kernel
theorem sl_163 : shl 163 = 7 := by decide +kernel
theorem sh_164 : shc 164 = 1 := by decide +kernel
theorem sh_165 : shc 165 = 20 := by decide +kernel
theorem sl_165 : shl 165 = 7 := by decide +kernel
theorem sh_166 : shc 166 = 1 := by decide +kernel
theorem sh_167 : shc 167 = 20 := by decide +kernel
theorem sl_167 : shl 167 = 7 := by decide +kernel
theorem sh_168 : shc 168 = 6 := by decide +kernel
theorem sh_169 : shc 169 = 20 := by decide +kernel
theorem sl_169 : shl 169 = 10 := by decide +kernel
theorem sh_170 : shc 170 = 20 := by decide +kernel
theorem sl_170 : shl 170 = 10 := by decide +kernel
theorem sh_171 : shc 171 = 20 := by decide +kernel
theorem sl_171 : shl 171 = 10 := by decide +kernel
theorem sh_172 : shc 172 = 20 := by decide +kernel
theorem sl_172 : shl 172 = 10 := by decide +kernel
theorem sh_173 : shc 173 = 6 := by decide +kernel
theorem sh_174 : shc 174 = 20 := by decide +kernel
theorem sl_174 : shl 174 = 10 := by decide +kernel
theorem sh_175 : shc 175 = 20 := by decide +kernel
theorem sl_175 : shl 175 = 10 := by decide +kernel
theorem sh_176 : shc 176 = 20 := by decide +kernel
theorem sl_176 : shl 176 = 10 := by decide +kernel
theorem sh_177 : shc 177 = 20 := by decide +kernel
theorem sl_177 : shl 177 = 10 := by decide +kernel
theorem sh_178 : shc 178 = 6 := by decide +kernel
theorem sh_179 : shc 179 = 20 := by decide +kernel
theorem sl_179 : shl 179 = 10 := by decide +kernel
theorem sh_180 : shc 180 = 20 := by decide +kernel
theorem sl_180 : shl 180 = 10 := by decide +kernel
theorem sh_181 : shc 181 = 20 := by decide +kernel
theorem sl_181 : shl 181 = 10 := by decide +kernel
theorem sh_182 : shc 182 = 20 := by decide +kernel
theorem sl_182 : shl 182 = 10 := by decide +kernel
theorem sh_183 : shc 183 = 6 := by decide +kernel
theorem sh_184 : shc 184 = 20 := by decide +kernel
theorem sl_184 : shl 184 = 10 := by decide +kernel
theorem sh_185 : shc 185 = 20 := by decide +kernel
theorem sl_185 : shl 185 = 10 := by decide +kernel
theorem sh_186 : shc 186 = 20 := by decide +kernel
theorem sl_186 : shl 186 = 10 := by decide +kernel
theorem sh_187 : shc 187 = 20 := by decide +kernel
theorem sl_187 : shl 187 = 10 := by decide +kernel
theorem sh_188 : shc 188 = 6 := by decide +kernel
theorem sh_189 : shc 189 = 20 := by decide +kernel
theorem sl_189 : shl 189 = 10 := by decide +kernel
theorem sh_190 : shc 190 = 20 := by decide +kernel
theorem sl_190 : shl 190 = 10 := by decide +kernel
theorem sh_191 : shc 191 = 20 := by decide +kernel
theorem sl_191 : shl 191 = 10 := by decide +kernel
theorem sh_192 : shc 192 = 20 := by decide +kernel
theorem sl_192 : shl 192 = 10 := by decide +kernel
theorem sh_193 : shc 193 = 6 := by decide +kernel
theorem sh_194 : shc 194 = 20 := by decide +kernel
theorem sl_194 : shl 194 = 10 := by decide +kernel
theorem sh_195 : shc 195 = 20 := by decide +kernel
theorem sl_195 : shl 195 = 10 := by decide +kernel
theorem sh_196 : shc 196 = 20 := by decide +kernel
theorem sl_196 : shl 196 = 10 := by decide +kernel
theorem sh_197 : shc 197 = 20 := by decide +kernel
theorem sl_197 : shl 197 = 10 := by decide +kernel
theorem sh_198 : shc 198 = 6 := by decide +kernel
theorem sh_199 : shc 199 = 20 := by decide +kernel
theorem sl_199 : shl 199 = 10 := by decide +kernel
theorem sh_200 : shc 200 = 20 := by decide +kernel
theorem sl_200 : shl 200 = 10 := by decide +kernel
theorem sh_201 : shc 201 = 20 := by decide +kernel
theorem sl_201 : shl 201 = 10 := by decide +kernel
theorem sh_202 : shc 202 = 20 := by decide +kernel
theorem sl_202 : shl 202 = 10 := by decide +kernel
theorem sh_203 : shc 203 = 6 := by decide +kernel
theorem sh_204 : shc 204 = 20 := by decide +kernel
theorem sl_204 : shl 204 = 10 := by decide +kernel
theorem sh_205 : shc 205 = 20 := by decide +kernel
theorem sl_205 : shl 205 = 10 := by decide +kernel
theorem sh_206 : shc 206 = 20 := by decide +kernel
theorem sl_206 : shl 206 = 10 := by decide +kernel
theorem sh_207 : shc 207 = 20 := by decide +kernel
theorem sl_207 : shl 207 = 10 := by decide +kernel
theorem dz_X7 : ∀ j, j < 14 → defaultValue (tyX7 j) = vp_V ((kd 6).map dfv) j := by decide +kernel
theorem q_347 : Cond.classLink RX10 23 RX7 ∈ tblG := tblG_of 347 (by decide +kernel) rfl
theorem q_348 : Cond.instantiable RX7 14 ∈ tblG := tblG_of 348 (by decide +kernel) rfl
theorem q_352 : Cond.methodLink RX7 3 ⟨"java/lang/Object", "<init>", "()V"⟩ ∈ tblG := tblG_of 352 (by decide +kernel) rfl
theorem q_355 : Cond.classLink RX7 10 RX8 ∈ tblG := tblG_of 355 (by decide +kernel) rfl
theorem q_349 : Cond.methodLink RX10 25 yX7_init ∈ tblG := tblG_of 349 (by decide +kernel) rfl
theorem q_351 : Cond.code yX7_init cX7_init 3 none ∈ tblG := tblG_of 351 (by decide +kernel) rfl
theorem cw_X10_25 : CWs RX10 25 RX7 yX7_init cX7_init 3 none 2 := ⟨q_349, q_82, q_351, rfl, by decide +kernel, by decide +kernel⟩
theorem q_350 : Cond.instanceMethod yX7_init ∈ tblG := tblG_of 350 (by decide +kernel) rfl
theorem dz_X4 : ∀ j, j < 4 → defaultValue (tyX4 j) = vp_V ((kd 3).map dfv) j := by decide +kernel
theorem q_402 : Cond.classLink RX10 32 RX4 ∈ tblG := tblG_of 402 (by decide +kernel) rfl
theorem q_403 : Cond.instantiable RX4 4 ∈ tblG := tblG_of 403 (by decide +kernel) rfl
theorem q_407 : Cond.methodLink RX4 3 ⟨"java/lang/Object", "<init>", "()V"⟩ ∈ tblG := tblG_of 407 (by decide +kernel) rfl
theorem q_408 : Cond.classLink RX4 9 RX2 ∈ tblG := tblG_of 408 (by decide +kernel) rfl
theorem sh_214 : shc 214 = 20 := by decide +kernel
theorem sl_214 : shl 214 = 100 := by decide +kernel
theorem sh_216 : shc 216 = 20 := by decide +kernel
theorem sl_216 : shl 216 = 100 := by decide +kernel
theorem q_406 : Cond.code yX4_init cX4_init 1 none ∈ tblG := tblG_of 406 (by decide +kernel) rfl
theorem q_405 : Cond.instanceMethod yX4_init ∈ tblG := tblG_of 405 (by decide +kernel) rfl
theorem dz_X3 : ∀ j, j < 10 → defaultValue (tyX3 j) = vp_V ((kd 2).map dfv) j := by decide +kernel
theorem q_425 : Cond.classLink RX10 39 RX3 ∈ tblG := tblG_of 425 (by decide +kernel) rfl
theorem q_426 : Cond.instantiable RX3 10 ∈ tblG := tblG_of 426 (by decide +kernel) rfl
theorem q_430 : Cond.methodLink RX3 3 ⟨"java/lang/Object", "<init>", "()V"⟩ ∈ tblG := tblG_of 430 (by decide +kernel) rfl
theorem q_429 : Cond.code yX3_init cX3_init 1 none ∈ tblG := tblG_of 429 (by decide +kernel) rfl
theorem q_428 : Cond.instanceMethod yX3_init ∈ tblG := tblG_of 428 (by decide +kernel) rfl
theorem sh_227 : shc 227 = 3 := by decide +kernel
theorem sh_228 : shc 228 = 20 := by decide +kernel
theorem sl_228 : shl 228 = 8 := by decide +kernel
theorem sh_229 : shc 229 = 20 := by decide +kernel
theorem sl_229 : shl 229 = 4 := by decide +kernel
theorem sh_230 : shc 230 = 20 := by decide +kernel
theorem sl_230 : shl 230 = 4 := by decide +kernel
theorem sh_231 : shc 231 = 20 := by decide +kernel
theorem sl_231 : shl 231 = 8 := by decide +kernel
theorem sh_232 : shc 232 = 20 := by decide +kernel
theorem sl_232 : shl 232 = 64 := by decide +kernel
theorem sh_233 : shc 233 = 3 := by decide +kernel
theorem sh_234 : shc 234 = 20 := by decide +kernel
theorem sl_234 : shl 234 = 8 := by decide +kernel
theorem sh_235 : shc 235 = 20 := by decide +kernel
theorem sl_235 : shl 235 = 4 := by decide +kernel
theorem sh_236 : shc 236 = 20 := by decide +kernel
theorem sl_236 : shl 236 = 4 := by decide +kernel
theorem sh_237 : shc 237 = 20 := by decide +kernel
theorem sl_237 : shl 237 = 8 := by decide +kernel
theorem sh_238 : shc 238 = 20 := by decide +kernel
theorem sl_238 : shl 238 = 64 := by decide +kernel
theorem sh_239 : shc 239 = 3 := by decide +kernel
theorem sh_240 : shc 240 = 20 := by decide +kernel
theorem sl_240 : shl 240 = 8 := by decide +kernel
theorem sh_241 : shc 241 = 20 := by decide +kernel
theorem sl_241 : shl 241 = 4 := by decide +kernel
theorem sh_242 : shc 242 = 20 := by decide +kernel
theorem sl_242 : shl 242 = 4 := by decide +kernel
theorem sh_243 : shc 243 = 20 := by decide +kernel
theorem sl_243 : shl 243 = 8 := by decide +kernel
theorem sh_244 : shc 244 = 20 := by decide +kernel
theorem sl_244 : shl 244 = 64 := by decide +kernel
theorem sh_245 : shc 245 = 3 := by decide +kernel
theorem sh_246 : shc 246 = 20 := by decide +kernel
theorem sl_246 : shl 246 = 8 := by decide +kernel
theorem sh_247 : shc 247 = 20 := by decide +kernel
theorem sl_247 : shl 247 = 4 := by decide +kernel
theorem sh_248 : shc 248 = 20 := by decide +kernel
theorem sl_248 : shl 248 = 4 := by decide +kernel
theorem sh_249 : shc 249 = 20 := by decide +kernel
theorem sl_249 : shl 249 = 8 := by decide +kernel
theorem sh_250 : shc 250 = 20 := by decide +kernel
theorem sl_250 : shl 250 = 64 := by decide +kernel
theorem sh_251 : shc 251 = 3 := by decide +kernel
theorem sh_252 : shc 252 = 20 := by decide +kernel
theorem sl_252 : shl 252 = 8 := by decide +kernel
theorem sh_253 : shc 253 = 20 := by decide +kernel
theorem sl_253 : shl 253 = 4 := by decide +kernel
theorem sh_254 : shc 254 = 20 := by decide +kernel
theorem sl_254 : shl 254 = 4 := by decide +kernel
theorem sh_255 : shc 255 = 20 := by decide +kernel
theorem sl_255 : shl 255 = 8 := by decide +kernel
theorem sh_256 : shc 256 = 20 := by decide +kernel
theorem sl_256 : shl 256 = 64 := by decide +kernel
theorem sh_257 : shc 257 = 3 := by decide +kernel
theorem sh_258 : shc 258 = 20 := by decide +kernel
theorem sl_258 : shl 258 = 8 := by decide +kernel
theorem sh_259 : shc 259 = 20 := by decide +kernel
theorem sl_259 : shl 259 = 4 := by decide +kernel
theorem sh_260 : shc 260 = 20 := by decide +kernel
theorem sl_260 : shl 260 = 4 := by decide +kernel
theorem sh_261 : shc 261 = 20 := by decide +kernel
theorem sl_261 : shl 261 = 8 := by decide +kernel
theorem sh_262 : shc 262 = 20 := by decide +kernel
theorem sl_262 : shl 262 = 64 := by decide +kernel
theorem sh_263 : shc 263 = 3 := by decide +kernel
theorem sh_264 : shc 264 = 20 := by decide +kernel
theorem sl_264 : shl 264 = 8 := by decide +kernel
theorem sh_265 : shc 265 = 20 := by decide +kernel
theorem sl_265 : shl 265 = 4 := by decide +kernel
theorem sh_266 : shc 266 = 20 := by decide +kernel
theorem sl_266 : shl 266 = 4 := by decide +kernel
theorem sh_267 : shc 267 = 20 := by decide +kernel
theorem sl_267 : shl 267 = 8 := by decide +kernel
theorem sh_268 : shc 268 = 20 := by decide +kernel
theorem sl_268 : shl 268 = 64 := by decide +kernel
theorem sh_269 : shc 269 = 3 := by decide +kernel
theorem sh_270 : shc 270 = 20 := by decide +kernel
theorem sl_270 : shl 270 = 8 := by decide +kernel
theorem sh_271 : shc 271 = 20 := by decide +kernel
theorem sl_271 : shl 271 = 4 := by decide +kernel
theorem sh_272 : shc 272 = 20 := by decide +kernel
theorem sl_272 : shl 272 = 4 := by decide +kernel
theorem sh_273 : shc 273 = 20 := by decide +kernel
theorem sl_273 : shl 273 = 8 := by decide +kernel
theorem sh_274 : shc 274 = 20 := by decide +kernel
theorem sl_274 : shl 274 = 64 := by decide +kernel
theorem sh_275 : shc 275 = 3 := by decide +kernel
theorem sh_276 : shc 276 = 20 := by decide +kernel
theorem sl_276 : shl 276 = 8 := by decide +kernel
theorem sh_277 : shc 277 = 20 := by decide +kernel
theorem sl_277 : shl 277 = 4 := by decide +kernel
theorem sh_278 : shc 278 = 20 := by decide +kernel
theorem sl_278 : shl 278 = 4 := by decide +kernel
theorem sh_279 : shc 279 = 20 := by decide +kernel
theorem sl_279 : shl 279 = 8 := by decide +kernel
theorem sh_280 : shc 280 = 20 := by decide +kernel
theorem sl_280 : shl 280 = 64 := by decide +kernel
theorem sh_281 : shc 281 = 3 := by decide +kernel
theorem sh_282 : shc 282 = 20 := by decide +kernel
theorem sl_282 : shl 282 = 8 := by decide +kernel
theorem sh_283 : shc 283 = 20 := by decide +kernel
theorem sl_283 : shl 283 = 4 := by decide +kernel
theorem sh_284 : shc 284 = 20 := by decide +kernel
theorem sl_284 : shl 284 = 4 := by decide +kernel
theorem sh_285 : shc 285 = 20 := by decide +kernel
theorem sl_285 : shl 285 = 8 := by decide +kernel
theorem sh_286 : shc 286 = 20 := by decide +kernel
theorem sl_286 : shl 286 = 64 := by decide +kernel
theorem sh_287 : shc 287 = 3 := by decide +kernel
theorem sh_288 : shc 288 = 20 := by decide +kernel
theorem sl_288 : shl 288 = 8 := by decide +kernel
theorem sh_289 : shc 289 = 20 := by decide +kernel
theorem sl_289 : shl 289 = 4 := by decide +kernel
theorem sh_290 : shc 290 = 20 := by decide +kernel
theorem sl_290 : shl 290 = 4 := by decide +kernel
theorem sh_291 : shc 291 = 20 := by decide +kernel
theorem sl_291 : shl 291 = 8 := by decide +kernel
theorem sh_292 : shc 292 = 20 := by decide +kernel
theorem sl_292 : shl 292 = 64 := by decide +kernel
theorem sh_293 : shc 293 = 3 := by decide +kernel
theorem sh_294 : shc 294 = 20 := by decide +kernel
theorem sl_294 : shl 294 = 8 := by decide +kernel
theorem sh_295 : shc 295 = 20 := by decide +kernel
theorem sl_295 : shl 295 = 4 := by decide +kernel
theorem sh_296 : shc 296 = 20 := by decide +kernel
theorem sl_296 : shl 296 = 4 := by decide +kernel
theorem sh_297 : shc 297 = 20 := by decide +kernel
theorem sl_297 : shl 297 = 8 := by decide +kernel
theorem sh_298 : shc 298 = 20 := by decide +kernel
theorem sl_298 : shl 298 = 64 := by decide +kernel
theorem sh_299 : shc 299 = 3 := by decide +kernel
theorem sh_300 : shc 300 = 20 := by decide +kernel
theorem sl_300 : shl 300 = 8 := by decide +kernel
theorem sh_301 : shc 301 = 20 := by decide +kernel
theorem sl_301 : shl 301 = 4 := by decide +kernel
theorem sh_302 : shc 302 = 20 := by decide +kernel
theorem sl_302 : shl 302 = 4 := by decide +kernel
theorem sh_303 : shc 303 = 20 := by decide +kernel
theorem sl_303 : shl 303 = 8 := by decide +kernel
theorem sh_304 : shc 304 = 20 := by decide +kernel
theorem sl_304 : shl 304 = 64 := by decide +kernel
theorem sh_305 : shc 305 = 3 := by decide +kernel
theorem sh_306 : shc 306 = 20 := by decide +kernel
theorem sl_306 : shl 306 = 8 := by decide +kernel
theorem sh_307 : shc 307 = 20 := by decide +kernel
theorem sl_307 : shl 307 = 4 := by decide +kernel
theorem sh_308 : shc 308 = 20 := by decide +kernel
theorem sl_308 : shl 308 = 4 := by decide +kernel
theorem sh_309 : shc 309 = 20 := by decide +kernel
theorem sl_309 : shl 309 = 8 := by decide +kernel
theorem sh_310 : shc 310 = 20 := by decide +kernel
theorem sl_310 : shl 310 = 64 := by decide +kernel
theorem q_102 : Cond.methodLink RL 23 yX10_init ∈ tblG := tblG_of 102 (by decide +kernel) rfl
theorem q_104 : Cond.code yX10_init cX10_init 2 none ∈ tblG := tblG_of 104 (by decide +kernel) rfl
theorem cw_L_23 : CWs RL 23 RX10 yX10_init cX10_init 2 none 0 := ⟨q_102, q_75, q_104, rfl, by decide +kernel, by decide +kernel⟩
theorem q_103 : Cond.instanceMethod yX10_init ∈ tblG := tblG_of 103 (by decide +kernel) rfl
theorem dz_X11 : ∀ j, j < 47 → defaultValue (tyX11 j) = vp_V ((kd 9).map dfv) j := by decide +kernel
theorem q_1149 : Cond.classLink RL 24 RX11 ∈ tblG := tblG_of 1149 (by decide +kernel) rfl
theorem q_1150 : Cond.instantiable RX11 47 ∈ tblG := tblG_of 1150 (by decide +kernel) rfl
theorem q_1154 : Cond.methodLink RX11 1 ⟨"java/lang/Object", "<init>", "()V"⟩ ∈ tblG := tblG_of 1154 (by decide +kernel) rfl
theorem q_1151 : Cond.methodLink RL 26 yX11_init ∈ tblG := tblG_of 1151 (by decide +kernel) rfl
theorem q_1153 : Cond.code yX11_init cX11_init 1 none ∈ tblG := tblG_of 1153 (by decide +kernel) rfl
theorem cw_L_26 : CWs RL 26 RX11 yX11_init cX11_init 1 none 0 := ⟨q_1151, q_87, q_1153, rfl, by decide +kernel, by decide +kernel⟩
theorem q_1152 : Cond.instanceMethod yX11_init ∈ tblG := tblG_of 1152 (by decide +kernel) rfl
/-- what the start gives for the making -/
def KBd (K : Kt) : Prop := KTok K ∧ (va_Nw (.methodLinkNest RX9 20 yX2_init RX10) (kS K) ∧ va_Nw (.methodLinkNest RX9 49 yX5_init RX10) (kS K) ∧ va_Nw (.methodLinkNest RX9 50 yX1_init RX10) (kS K) ∧ va_Nw (.methodLinkNest RX9 51 yX6_init RX10) (kS K) ∧ va_Nw (.methodLinkNest RX10 34 yX4_init RX10) (kS K) ∧ va_Nw (.methodLinkNest RX4 11 yX2_init RX10) (kS K) ∧ va_Nw (.methodLinkNest RX10 41 yX3_init RX10) (kS K)) ∧ (va_AO "ReplayBooth$Kind" (kS K) ∧ va_AO "ReplayBooth$Board" (kS K) ∧ va_AO "ReplayBooth$Play" (kS K) ∧ va_AO "ReplayBooth$Token" (kS K) ∧ va_AO "ReplayBooth$Day" (kS K))
/-! stages of the memory -/
def mm0 : Mem := (fun _ _ => 0, fun _ _ => 0, fun _ _ => 0, 0)
theorem mc0 : mm0.2.2.2 = 0 := rfl
theorem mz0 : Zr mm0 := fun _ _ _ => ⟨rfl, rfl, rfl⟩
def mm1 : Mem := cnt mm0
theorem mc1 : mm1.2.2.2 = 1 := congrArg (· + 1) mc0
theorem mz1 : Zr mm1 := mz0.cnt
def mm2 : Mem := cnt mm1
theorem mc2 : mm2.2.2.2 = 2 := congrArg (· + 1) mc1
theorem mz2 : Zr mm2 := mz1.cnt
def mm3 : Mem := setR mm2 64 0 65
theorem mc3 : mm3.2.2.2 = 2 := mc2
theorem mz3 : Zr mm3 := mz2.R (by rw [mc2]; decide)
def mm4 : Mem := cnt mm3
theorem mc4 : mm4.2.2.2 = 3 := congrArg (· + 1) mc3
theorem mz4 : Zr mm4 := mz3.cnt
def mm5 : Mem := cnt mm4
theorem mc5 : mm5.2.2.2 = 4 := congrArg (· + 1) mc4
theorem mz5 : Zr mm5 := mz4.cnt
def mm6 : Mem := setR mm5 66 1 67
theorem mc6 : mm6.2.2.2 = 4 := mc5
theorem mz6 : Zr mm6 := mz5.R (by rw [mc5]; decide)
def mm7 : Mem := cnt mm6
theorem mc7 : mm7.2.2.2 = 5 := congrArg (· + 1) mc6
theorem mz7 : Zr mm7 := mz6.cnt
def mm8 : Mem := setR mm7 66 2 68
theorem mc8 : mm8.2.2.2 = 5 := mc7
theorem mz8 : Zr mm8 := mz7.R (by rw [mc7]; decide)
def mm9 : Mem := cnt mm8
theorem mc9 : mm9.2.2.2 = 6 := congrArg (· + 1) mc8
theorem mz9 : Zr mm9 := mz8.cnt
def mm10 : Mem := cnt mm9
theorem mc10 : mm10.2.2.2 = 7 := congrArg (· + 1) mc9
theorem mz10 : Zr mm10 := mz9.cnt
def mm11 : Mem := setR mm10 69 0 70
theorem mc11 : mm11.2.2.2 = 7 := mc10
theorem mz11 : Zr mm11 := mz10.R (by rw [mc10]; decide)
def mm12 : Mem := setR mm11 66 4 69
theorem mc12 : mm12.2.2.2 = 7 := mc11
theorem mz12 : Zr mm12 := mz11.R (by rw [mc11]; decide)
def mm13 : Mem := cnt mm12
theorem mc13 : mm13.2.2.2 = 8 := congrArg (· + 1) mc12
theorem mz13 : Zr mm13 := mz12.cnt
def mm14 : Mem := setR mm13 66 6 71
theorem mc14 : mm14.2.2.2 = 8 := mc13
theorem mz14 : Zr mm14 := mz13.R (by rw [mc13]; decide)
def mm15 : Mem := cnt mm14
theorem mc15 : mm15.2.2.2 = 9 := congrArg (· + 1) mc14
theorem mz15 : Zr mm15 := mz14.cnt
def mm16 : Mem := setR mm15 66 8 72
theorem mc16 : mm16.2.2.2 = 9 := mc15
theorem mz16 : Zr mm16 := mz15.R (by rw [mc15]; decide)
def mm17 : Mem := cnt mm16
theorem mc17 : mm17.2.2.2 = 10 := congrArg (· + 1) mc16
theorem mz17 : Zr mm17 := mz16.cnt
def mm18 : Mem := setR mm17 66 10 73
theorem mc18 : mm18.2.2.2 = 10 := mc17
theorem mz18 : Zr mm18 := mz17.R (by rw [mc17]; decide)
def mm19 : Mem := cnt mm18
theorem mc19 : mm19.2.2.2 = 11 := congrArg (· + 1) mc18
theorem mz19 : Zr mm19 := mz18.cnt
def mm20 : Mem := setR mm19 66 12 74
theorem mc20 : mm20.2.2.2 = 11 := mc19
theorem mz20 : Zr mm20 := mz19.R (by rw [mc19]; decide)
def mm21 : Mem := cnt mm20
theorem mc21 : mm21.2.2.2 = 12 := congrArg (· + 1) mc20
theorem mz21 : Zr mm21 := mz20.cnt
def mm22 : Mem := setR mm21 66 13 75
theorem mc22 : mm22.2.2.2 = 12 := mc21
theorem mz22 : Zr mm22 := mz21.R (by rw [mc21]; decide)
def mm23 : Mem := cnt mm22
theorem mc23 : mm23.2.2.2 = 13 := congrArg (· + 1) mc22
theorem mz23 : Zr mm23 := mz22.cnt
def mm24 : Mem := cnt mm23
theorem mc24 : mm24.2.2.2 = 14 := congrArg (· + 1) mc23
theorem mz24 : Zr mm24 := mz23.cnt
def mm25 : Mem := setR mm24 76 4 77
theorem mc25 : mm25.2.2.2 = 14 := mc24
theorem mz25 : Zr mm25 := mz24.R (by rw [mc24]; decide)
def mm26 : Mem := cnt mm25
theorem mc26 : mm26.2.2.2 = 15 := congrArg (· + 1) mc25
theorem mz26 : Zr mm26 := mz25.cnt
def mm27 : Mem := setR mm26 76 5 78
theorem mc27 : mm27.2.2.2 = 15 := mc26
theorem mz27 : Zr mm27 := mz26.R (by rw [mc26]; decide)
def mm28 : Mem := setR mm27 72 0 76
theorem mc28 : mm28.2.2.2 = 15 := mc27
theorem mz28 : Zr mm28 := mz27.R (by rw [mc27]; decide)
def mm29 : Mem := cnt mm28
theorem mc29 : mm29.2.2.2 = 16 := congrArg (· + 1) mc28
theorem mz29 : Zr mm29 := mz28.cnt
def mm30 : Mem := cnt mm29
theorem mc30 : mm30.2.2.2 = 17 := congrArg (· + 1) mc29
theorem mz30 : Zr mm30 := mz29.cnt
def mm31 : Mem := setR mm30 79 4 80
theorem mc31 : mm31.2.2.2 = 17 := mc30
theorem mz31 : Zr mm31 := mz30.R (by rw [mc30]; decide)
def mm32 : Mem := cnt mm31
theorem mc32 : mm32.2.2.2 = 18 := congrArg (· + 1) mc31
theorem mz32 : Zr mm32 := mz31.cnt
def mm33 : Mem := setR mm32 79 5 81
theorem mc33 : mm33.2.2.2 = 18 := mc32
theorem mz33 : Zr mm33 := mz32.R (by rw [mc32]; decide)
def mm34 : Mem := setR mm33 72 1 79
theorem mc34 : mm34.2.2.2 = 18 := mc33
theorem mz34 : Zr mm34 := mz33.R (by rw [mc33]; decide)
def mm35 : Mem := cnt mm34
theorem mc35 : mm35.2.2.2 = 19 := congrArg (· + 1) mc34
theorem mz35 : Zr mm35 := mz34.cnt
def mm36 : Mem := cnt mm35
theorem mc36 : mm36.2.2.2 = 20 := congrArg (· + 1) mc35
theorem mz36 : Zr mm36 := mz35.cnt
def mm37 : Mem := setR mm36 82 4 83
theorem mc37 : mm37.2.2.2 = 20 := mc36
theorem mz37 : Zr mm37 := mz36.R (by rw [mc36]; decide)
def mm38 : Mem := cnt mm37
theorem mc38 : mm38.2.2.2 = 21 := congrArg (· + 1) mc37
theorem mz38 : Zr mm38 := mz37.cnt
def mm39 : Mem := setR mm38 82 5 84
theorem mc39 : mm39.2.2.2 = 21 := mc38
theorem mz39 : Zr mm39 := mz38.R (by rw [mc38]; decide)
def mm40 : Mem := setR mm39 72 2 82
theorem mc40 : mm40.2.2.2 = 21 := mc39
theorem mz40 : Zr mm40 := mz39.R (by rw [mc39]; decide)
def mm41 : Mem := cnt mm40
theorem mc41 : mm41.2.2.2 = 22 := congrArg (· + 1) mc40
theorem mz41 : Zr mm41 := mz40.cnt
def mm42 : Mem := cnt mm41
theorem mc42 : mm42.2.2.2 = 23 := congrArg (· + 1) mc41
theorem mz42 : Zr mm42 := mz41.cnt
def mm43 : Mem := setR mm42 85 4 86
theorem mc43 : mm43.2.2.2 = 23 := mc42
theorem mz43 : Zr mm43 := mz42.R (by rw [mc42]; decide)
def mm44 : Mem := cnt mm43
theorem mc44 : mm44.2.2.2 = 24 := congrArg (· + 1) mc43
theorem mz44 : Zr mm44 := mz43.cnt
def mm45 : Mem := setR mm44 85 5 87
theorem mc45 : mm45.2.2.2 = 24 := mc44
theorem mz45 : Zr mm45 := mz44.R (by rw [mc44]; decide)
def mm46 : Mem := setR mm45 72 3 85
theorem mc46 : mm46.2.2.2 = 24 := mc45
theorem mz46 : Zr mm46 := mz45.R (by rw [mc45]; decide)
def mm47 : Mem := cnt mm46
theorem mc47 : mm47.2.2.2 = 25 := congrArg (· + 1) mc46
theorem mz47 : Zr mm47 := mz46.cnt
def mm48 : Mem := cnt mm47
theorem mc48 : mm48.2.2.2 = 26 := congrArg (· + 1) mc47
theorem mz48 : Zr mm48 := mz47.cnt
def mm49 : Mem := setR mm48 88 4 89
theorem mc49 : mm49.2.2.2 = 26 := mc48
theorem mz49 : Zr mm49 := mz48.R (by rw [mc48]; decide)
def mm50 : Mem := cnt mm49
theorem mc50 : mm50.2.2.2 = 27 := congrArg (· + 1) mc49
theorem mz50 : Zr mm50 := mz49.cnt
def mm51 : Mem := setR mm50 88 5 90
theorem mc51 : mm51.2.2.2 = 27 := mc50
theorem mz51 : Zr mm51 := mz50.R (by rw [mc50]; decide)
def mm52 : Mem := setR mm51 72 4 88
theorem mc52 : mm52.2.2.2 = 27 := mc51
theorem mz52 : Zr mm52 := mz51.R (by rw [mc51]; decide)
def mm53 : Mem := cnt mm52
theorem mc53 : mm53.2.2.2 = 28 := congrArg (· + 1) mc52
theorem mz53 : Zr mm53 := mz52.cnt
def mm54 : Mem := cnt mm53
theorem mc54 : mm54.2.2.2 = 29 := congrArg (· + 1) mc53
theorem mz54 : Zr mm54 := mz53.cnt
def mm55 : Mem := setR mm54 91 2 92
theorem mc55 : mm55.2.2.2 = 29 := mc54
theorem mz55 : Zr mm55 := mz54.R (by rw [mc54]; decide)
def mm56 : Mem := setR mm55 73 0 91
theorem mc56 : mm56.2.2.2 = 29 := mc55
theorem mz56 : Zr mm56 := mz55.R (by rw [mc55]; decide)
def mm57 : Mem := cnt mm56
theorem mc57 : mm57.2.2.2 = 30 := congrArg (· + 1) mc56
theorem mz57 : Zr mm57 := mz56.cnt
def mm58 : Mem := cnt mm57
theorem mc58 : mm58.2.2.2 = 31 := congrArg (· + 1) mc57
theorem mz58 : Zr mm58 := mz57.cnt
def mm59 : Mem := setR mm58 93 2 94
theorem mc59 : mm59.2.2.2 = 31 := mc58
theorem mz59 : Zr mm59 := mz58.R (by rw [mc58]; decide)
def mm60 : Mem := setR mm59 73 1 93
theorem mc60 : mm60.2.2.2 = 31 := mc59
theorem mz60 : Zr mm60 := mz59.R (by rw [mc59]; decide)
def mm61 : Mem := cnt mm60
theorem mc61 : mm61.2.2.2 = 32 := congrArg (· + 1) mc60
theorem mz61 : Zr mm61 := mz60.cnt
def mm62 : Mem := cnt mm61
theorem mc62 : mm62.2.2.2 = 33 := congrArg (· + 1) mc61
theorem mz62 : Zr mm62 := mz61.cnt
def mm63 : Mem := setR mm62 95 2 96
theorem mc63 : mm63.2.2.2 = 33 := mc62
theorem mz63 : Zr mm63 := mz62.R (by rw [mc62]; decide)
def mm64 : Mem := setR mm63 73 2 95
theorem mc64 : mm64.2.2.2 = 33 := mc63
theorem mz64 : Zr mm64 := mz63.R (by rw [mc63]; decide)
def mm65 : Mem := cnt mm64
theorem mc65 : mm65.2.2.2 = 34 := congrArg (· + 1) mc64
theorem mz65 : Zr mm65 := mz64.cnt
def mm66 : Mem := cnt mm65
theorem mc66 : mm66.2.2.2 = 35 := congrArg (· + 1) mc65
theorem mz66 : Zr mm66 := mz65.cnt
def mm67 : Mem := setR mm66 97 6 98
theorem mc67 : mm67.2.2.2 = 35 := mc66
theorem mz67 : Zr mm67 := mz66.R (by rw [mc66]; decide)
def mm68 : Mem := cnt mm67
theorem mc68 : mm68.2.2.2 = 36 := congrArg (· + 1) mc67
theorem mz68 : Zr mm68 := mz67.cnt
def mm69 : Mem := setR mm68 97 7 99
theorem mc69 : mm69.2.2.2 = 36 := mc68
theorem mz69 : Zr mm69 := mz68.R (by rw [mc68]; decide)
def mm70 : Mem := cnt mm69
theorem mc70 : mm70.2.2.2 = 37 := congrArg (· + 1) mc69
theorem mz70 : Zr mm70 := mz69.cnt
def mm71 : Mem := setR mm70 97 8 100
theorem mc71 : mm71.2.2.2 = 37 := mc70
theorem mz71 : Zr mm71 := mz70.R (by rw [mc70]; decide)
def mm72 : Mem := cnt mm71
theorem mc72 : mm72.2.2.2 = 38 := congrArg (· + 1) mc71
theorem mz72 : Zr mm72 := mz71.cnt
def mm73 : Mem := setR mm72 97 9 101
theorem mc73 : mm73.2.2.2 = 38 := mc72
theorem mz73 : Zr mm73 := mz72.R (by rw [mc72]; decide)
def mm74 : Mem := setR mm73 74 0 97
theorem mc74 : mm74.2.2.2 = 38 := mc73
theorem mz74 : Zr mm74 := mz73.R (by rw [mc73]; decide)
def mm75 : Mem := cnt mm74
theorem mc75 : mm75.2.2.2 = 39 := congrArg (· + 1) mc74
theorem mz75 : Zr mm75 := mz74.cnt
def mm76 : Mem := cnt mm75
theorem mc76 : mm76.2.2.2 = 40 := congrArg (· + 1) mc75
theorem mz76 : Zr mm76 := mz75.cnt
def mm77 : Mem := setR mm76 102 6 103
theorem mc77 : mm77.2.2.2 = 40 := mc76
theorem mz77 : Zr mm77 := mz76.R (by rw [mc76]; decide)
def mm78 : Mem := cnt mm77
theorem mc78 : mm78.2.2.2 = 41 := congrArg (· + 1) mc77
theorem mz78 : Zr mm78 := mz77.cnt
def mm79 : Mem := setR mm78 102 7 104
theorem mc79 : mm79.2.2.2 = 41 := mc78
theorem mz79 : Zr mm79 := mz78.R (by rw [mc78]; decide)
def mm80 : Mem := cnt mm79
theorem mc80 : mm80.2.2.2 = 42 := congrArg (· + 1) mc79
theorem mz80 : Zr mm80 := mz79.cnt
def mm81 : Mem := setR mm80 102 8 105
theorem mc81 : mm81.2.2.2 = 42 := mc80
theorem mz81 : Zr mm81 := mz80.R (by rw [mc80]; decide)
def mm82 : Mem := cnt mm81
theorem mc82 : mm82.2.2.2 = 43 := congrArg (· + 1) mc81
theorem mz82 : Zr mm82 := mz81.cnt
def mm83 : Mem := setR mm82 102 9 106
theorem mc83 : mm83.2.2.2 = 43 := mc82
theorem mz83 : Zr mm83 := mz82.R (by rw [mc82]; decide)
def mm84 : Mem := setR mm83 74 1 102
theorem mc84 : mm84.2.2.2 = 43 := mc83
theorem mz84 : Zr mm84 := mz83.R (by rw [mc83]; decide)
def mm85 : Mem := cnt mm84
theorem mc85 : mm85.2.2.2 = 44 := congrArg (· + 1) mc84
theorem mz85 : Zr mm85 := mz84.cnt
def mm86 : Mem := cnt mm85
theorem mc86 : mm86.2.2.2 = 45 := congrArg (· + 1) mc85
theorem mz86 : Zr mm86 := mz85.cnt
def mm87 : Mem := setR mm86 107 6 108
theorem mc87 : mm87.2.2.2 = 45 := mc86
theorem mz87 : Zr mm87 := mz86.R (by rw [mc86]; decide)
def mm88 : Mem := cnt mm87
theorem mc88 : mm88.2.2.2 = 46 := congrArg (· + 1) mc87
theorem mz88 : Zr mm88 := mz87.cnt
def mm89 : Mem := setR mm88 107 7 109
theorem mc89 : mm89.2.2.2 = 46 := mc88
theorem mz89 : Zr mm89 := mz88.R (by rw [mc88]; decide)
def mm90 : Mem := cnt mm89
theorem mc90 : mm90.2.2.2 = 47 := congrArg (· + 1) mc89
theorem mz90 : Zr mm90 := mz89.cnt
def mm91 : Mem := setR mm90 107 8 110
theorem mc91 : mm91.2.2.2 = 47 := mc90
theorem mz91 : Zr mm91 := mz90.R (by rw [mc90]; decide)
def mm92 : Mem := cnt mm91
theorem mc92 : mm92.2.2.2 = 48 := congrArg (· + 1) mc91
theorem mz92 : Zr mm92 := mz91.cnt
def mm93 : Mem := setR mm92 107 9 111
theorem mc93 : mm93.2.2.2 = 48 := mc92
theorem mz93 : Zr mm93 := mz92.R (by rw [mc92]; decide)
def mm94 : Mem := setR mm93 74 2 107
theorem mc94 : mm94.2.2.2 = 48 := mc93
theorem mz94 : Zr mm94 := mz93.R (by rw [mc93]; decide)
def mm95 : Mem := cnt mm94
theorem mc95 : mm95.2.2.2 = 49 := congrArg (· + 1) mc94
theorem mz95 : Zr mm95 := mz94.cnt
def mm96 : Mem := cnt mm95
theorem mc96 : mm96.2.2.2 = 50 := congrArg (· + 1) mc95
theorem mz96 : Zr mm96 := mz95.cnt
def mm97 : Mem := setR mm96 112 6 113
theorem mc97 : mm97.2.2.2 = 50 := mc96
theorem mz97 : Zr mm97 := mz96.R (by rw [mc96]; decide)
def mm98 : Mem := cnt mm97
theorem mc98 : mm98.2.2.2 = 51 := congrArg (· + 1) mc97
theorem mz98 : Zr mm98 := mz97.cnt
def mm99 : Mem := setR mm98 112 7 114
theorem mc99 : mm99.2.2.2 = 51 := mc98
theorem mz99 : Zr mm99 := mz98.R (by rw [mc98]; decide)
def mm100 : Mem := cnt mm99
theorem mc100 : mm100.2.2.2 = 52 := congrArg (· + 1) mc99
theorem mz100 : Zr mm100 := mz99.cnt
def mm101 : Mem := setR mm100 112 8 115
theorem mc101 : mm101.2.2.2 = 52 := mc100
theorem mz101 : Zr mm101 := mz100.R (by rw [mc100]; decide)
def mm102 : Mem := cnt mm101
theorem mc102 : mm102.2.2.2 = 53 := congrArg (· + 1) mc101
theorem mz102 : Zr mm102 := mz101.cnt
def mm103 : Mem := setR mm102 112 9 116
theorem mc103 : mm103.2.2.2 = 53 := mc102
theorem mz103 : Zr mm103 := mz102.R (by rw [mc102]; decide)
def mm104 : Mem := setR mm103 74 3 112
theorem mc104 : mm104.2.2.2 = 53 := mc103
theorem mz104 : Zr mm104 := mz103.R (by rw [mc103]; decide)
def mm105 : Mem := cnt mm104
theorem mc105 : mm105.2.2.2 = 54 := congrArg (· + 1) mc104
theorem mz105 : Zr mm105 := mz104.cnt
def mm106 : Mem := cnt mm105
theorem mc106 : mm106.2.2.2 = 55 := congrArg (· + 1) mc105
theorem mz106 : Zr mm106 := mz105.cnt
def mm107 : Mem := setR mm106 117 6 118
theorem mc107 : mm107.2.2.2 = 55 := mc106
theorem mz107 : Zr mm107 := mz106.R (by rw [mc106]; decide)
def mm108 : Mem := cnt mm107
theorem mc108 : mm108.2.2.2 = 56 := congrArg (· + 1) mc107
theorem mz108 : Zr mm108 := mz107.cnt
def mm109 : Mem := setR mm108 117 7 119
theorem mc109 : mm109.2.2.2 = 56 := mc108
theorem mz109 : Zr mm109 := mz108.R (by rw [mc108]; decide)
def mm110 : Mem := cnt mm109
theorem mc110 : mm110.2.2.2 = 57 := congrArg (· + 1) mc109
theorem mz110 : Zr mm110 := mz109.cnt
def mm111 : Mem := setR mm110 117 8 120
theorem mc111 : mm111.2.2.2 = 57 := mc110
theorem mz111 : Zr mm111 := mz110.R (by rw [mc110]; decide)
def mm112 : Mem := cnt mm111
theorem mc112 : mm112.2.2.2 = 58 := congrArg (· + 1) mc111
theorem mz112 : Zr mm112 := mz111.cnt
def mm113 : Mem := setR mm112 117 9 121
theorem mc113 : mm113.2.2.2 = 58 := mc112
theorem mz113 : Zr mm113 := mz112.R (by rw [mc112]; decide)
def mm114 : Mem := setR mm113 74 4 117
theorem mc114 : mm114.2.2.2 = 58 := mc113
theorem mz114 : Zr mm114 := mz113.R (by rw [mc113]; decide)
def mm115 : Mem := cnt mm114
theorem mc115 : mm115.2.2.2 = 59 := congrArg (· + 1) mc114
theorem mz115 : Zr mm115 := mz114.cnt
def mm116 : Mem := cnt mm115
theorem mc116 : mm116.2.2.2 = 60 := congrArg (· + 1) mc115
theorem mz116 : Zr mm116 := mz115.cnt
def mm117 : Mem := setR mm116 122 6 123
theorem mc117 : mm117.2.2.2 = 60 := mc116
theorem mz117 : Zr mm117 := mz116.R (by rw [mc116]; decide)
def mm118 : Mem := cnt mm117
theorem mc118 : mm118.2.2.2 = 61 := congrArg (· + 1) mc117
theorem mz118 : Zr mm118 := mz117.cnt
def mm119 : Mem := setR mm118 122 7 124
theorem mc119 : mm119.2.2.2 = 61 := mc118
theorem mz119 : Zr mm119 := mz118.R (by rw [mc118]; decide)
def mm120 : Mem := cnt mm119
theorem mc120 : mm120.2.2.2 = 62 := congrArg (· + 1) mc119
theorem mz120 : Zr mm120 := mz119.cnt
def mm121 : Mem := setR mm120 122 8 125
theorem mc121 : mm121.2.2.2 = 62 := mc120
theorem mz121 : Zr mm121 := mz120.R (by rw [mc120]; decide)
def mm122 : Mem := cnt mm121
theorem mc122 : mm122.2.2.2 = 63 := congrArg (· + 1) mc121
theorem mz122 : Zr mm122 := mz121.cnt
def mm123 : Mem := setR mm122 122 9 126
theorem mc123 : mm123.2.2.2 = 63 := mc122
theorem mz123 : Zr mm123 := mz122.R (by rw [mc122]; decide)
def mm124 : Mem := setR mm123 74 5 122
theorem mc124 : mm124.2.2.2 = 63 := mc123
theorem mz124 : Zr mm124 := mz123.R (by rw [mc123]; decide)
def mm125 : Mem := cnt mm124
theorem mc125 : mm125.2.2.2 = 64 := congrArg (· + 1) mc124
theorem mz125 : Zr mm125 := mz124.cnt
def mm126 : Mem := cnt mm125
theorem mc126 : mm126.2.2.2 = 65 := congrArg (· + 1) mc125
theorem mz126 : Zr mm126 := mz125.cnt
def mm127 : Mem := setR mm126 127 6 128
theorem mc127 : mm127.2.2.2 = 65 := mc126
theorem mz127 : Zr mm127 := mz126.R (by rw [mc126]; decide)
def mm128 : Mem := cnt mm127
theorem mc128 : mm128.2.2.2 = 66 := congrArg (· + 1) mc127
theorem mz128 : Zr mm128 := mz127.cnt
def mm129 : Mem := setR mm128 127 7 129
theorem mc129 : mm129.2.2.2 = 66 := mc128
theorem mz129 : Zr mm129 := mz128.R (by rw [mc128]; decide)
def mm130 : Mem := cnt mm129
theorem mc130 : mm130.2.2.2 = 67 := congrArg (· + 1) mc129
theorem mz130 : Zr mm130 := mz129.cnt
def mm131 : Mem := setR mm130 127 8 130
theorem mc131 : mm131.2.2.2 = 67 := mc130
theorem mz131 : Zr mm131 := mz130.R (by rw [mc130]; decide)
def mm132 : Mem := cnt mm131
theorem mc132 : mm132.2.2.2 = 68 := congrArg (· + 1) mc131
theorem mz132 : Zr mm132 := mz131.cnt
def mm133 : Mem := setR mm132 127 9 131
theorem mc133 : mm133.2.2.2 = 68 := mc132
theorem mz133 : Zr mm133 := mz132.R (by rw [mc132]; decide)
def mm134 : Mem := setR mm133 74 6 127
theorem mc134 : mm134.2.2.2 = 68 := mc133
theorem mz134 : Zr mm134 := mz133.R (by rw [mc133]; decide)
def mm135 : Mem := cnt mm134
theorem mc135 : mm135.2.2.2 = 69 := congrArg (· + 1) mc134
theorem mz135 : Zr mm135 := mz134.cnt
def mm136 : Mem := cnt mm135
theorem mc136 : mm136.2.2.2 = 70 := congrArg (· + 1) mc135
theorem mz136 : Zr mm136 := mz135.cnt
def mm137 : Mem := setR mm136 132 6 133
theorem mc137 : mm137.2.2.2 = 70 := mc136
theorem mz137 : Zr mm137 := mz136.R (by rw [mc136]; decide)
def mm138 : Mem := cnt mm137
theorem mc138 : mm138.2.2.2 = 71 := congrArg (· + 1) mc137
theorem mz138 : Zr mm138 := mz137.cnt
def mm139 : Mem := setR mm138 132 7 134
theorem mc139 : mm139.2.2.2 = 71 := mc138
theorem mz139 : Zr mm139 := mz138.R (by rw [mc138]; decide)
def mm140 : Mem := cnt mm139
theorem mc140 : mm140.2.2.2 = 72 := congrArg (· + 1) mc139
theorem mz140 : Zr mm140 := mz139.cnt
def mm141 : Mem := setR mm140 132 8 135
theorem mc141 : mm141.2.2.2 = 72 := mc140
theorem mz141 : Zr mm141 := mz140.R (by rw [mc140]; decide)
def mm142 : Mem := cnt mm141
theorem mc142 : mm142.2.2.2 = 73 := congrArg (· + 1) mc141
theorem mz142 : Zr mm142 := mz141.cnt
def mm143 : Mem := setR mm142 132 9 136
theorem mc143 : mm143.2.2.2 = 73 := mc142
theorem mz143 : Zr mm143 := mz142.R (by rw [mc142]; decide)
def mm144 : Mem := setR mm143 74 7 132
theorem mc144 : mm144.2.2.2 = 73 := mc143
theorem mz144 : Zr mm144 := mz143.R (by rw [mc143]; decide)
def mm145 : Mem := setI mm144 66 0 0
theorem mc145 : mm145.2.2.2 = 73 := mc144
theorem mz145 : Zr mm145 := mz144.I (by rw [mc144]; decide)
def mm146 : Mem := setI mm145 66 3 0
theorem mc146 : mm146.2.2.2 = 73 := mc145
theorem mz146 : Zr mm146 := mz145.I (by rw [mc145]; decide)
def mm147 : Mem := flM mm146 70 100 268435456
theorem mc147 : mm147.2.2.2 = 73 := mc146
theorem mz147 : Zr mm147 := mz146.fl (by rw [mc146]; decide)
def mm148 : Mem := setI mm147 70 0 0
theorem mc148 : mm148.2.2.2 = 73 := mc147
theorem mz148 : Zr mm148 := mz147.I (by rw [mc147]; decide)
def mm149 : Mem := setI mm148 70 11 0
theorem mc149 : mm149.2.2.2 = 73 := mc148
theorem mz149 : Zr mm149 := mz148.I (by rw [mc148]; decide)
def mm150 : Mem := setI mm149 70 22 0
theorem mc150 : mm150.2.2.2 = 73 := mc149
theorem mz150 : Zr mm150 := mz149.I (by rw [mc149]; decide)
def mm151 : Mem := setI mm150 70 33 0
theorem mc151 : mm151.2.2.2 = 73 := mc150
theorem mz151 : Zr mm151 := mz150.I (by rw [mc150]; decide)
def mm152 : Mem := setI mm151 70 44 0
theorem mc152 : mm152.2.2.2 = 73 := mc151
theorem mz152 : Zr mm152 := mz151.I (by rw [mc151]; decide)
def mm153 : Mem := setI mm152 70 55 0
theorem mc153 : mm153.2.2.2 = 73 := mc152
theorem mz153 : Zr mm153 := mz152.I (by rw [mc152]; decide)
def mm154 : Mem := setI mm153 70 66 0
theorem mc154 : mm154.2.2.2 = 73 := mc153
theorem mz154 : Zr mm154 := mz153.I (by rw [mc153]; decide)
def mm155 : Mem := setI mm154 70 77 0
theorem mc155 : mm155.2.2.2 = 73 := mc154
theorem mz155 : Zr mm155 := mz154.I (by rw [mc154]; decide)
def mm156 : Mem := setI mm155 70 88 0
theorem mc156 : mm156.2.2.2 = 73 := mc155
theorem mz156 : Zr mm156 := mz155.I (by rw [mc155]; decide)
def mm157 : Mem := setI mm156 70 99 0
theorem mc157 : mm157.2.2.2 = 73 := mc156
theorem mz157 : Zr mm157 := mz156.I (by rw [mc156]; decide)
def mm158 : Mem := setI mm157 69 1 0
theorem mc158 : mm158.2.2.2 = 73 := mc157
theorem mz158 : Zr mm158 := mz157.I (by rw [mc157]; decide)
def mm159 : Mem := setI mm158 66 5 0
theorem mc159 : mm159.2.2.2 = 73 := mc158
theorem mz159 : Zr mm159 := mz158.I (by rw [mc158]; decide)
def mm160 : Mem := setI mm159 66 7 0
theorem mc160 : mm160.2.2.2 = 73 := mc159
theorem mz160 : Zr mm160 := mz159.I (by rw [mc159]; decide)
def mm161 : Mem := setI mm160 66 9 0
theorem mc161 : mm161.2.2.2 = 73 := mc160
theorem mz161 : Zr mm161 := mz160.I (by rw [mc160]; decide)
def mm162 : Mem := setI mm161 66 11 0
theorem mc162 : mm162.2.2.2 = 73 := mc161
theorem mz162 : Zr mm162 := mz161.I (by rw [mc161]; decide)
def mm163 : Mem := setI mm162 75 0 60
theorem mc163 : mm163.2.2.2 = 73 := mc162
theorem mz163 : Zr mm163 := mz162.I (by rw [mc162]; decide)
def mm164 : Mem := setI mm163 75 1 0
theorem mc164 : mm164.2.2.2 = 73 := mc163
theorem mz164 : Zr mm164 := mz163.I (by rw [mc163]; decide)
def mm165 : Mem := setI mm164 75 2 1000
theorem mc165 : mm165.2.2.2 = 73 := mc164
theorem mz165 : Zr mm165 := mz164.I (by rw [mc164]; decide)
def mm166 : Mem := setI mm165 75 3 1
theorem mc166 : mm166.2.2.2 = 73 := mc165
theorem mz166 : Zr mm166 := mz165.I (by rw [mc165]; decide)
def mm167 : Mem := setR mm166 64 2 66
theorem mc167 : mm167.2.2.2 = 73 := mc166
theorem mz167 : Zr mm167 := mz166.R (by rw [mc166]; decide)
def mm168 : Mem := cnt mm167
theorem mc168 : mm168.2.2.2 = 74 := congrArg (· + 1) mc167
theorem mz168 : Zr mm168 := mz167.cnt
def mm169 : Mem := cnt mm168
theorem mc169 : mm169.2.2.2 = 75 := congrArg (· + 1) mc168
theorem mz169 : Zr mm169 := mz168.cnt
def mm170 : Mem := setR mm169 137 1 138
theorem mc170 : mm170.2.2.2 = 75 := mc169
theorem mz170 : Zr mm170 := mz169.R (by rw [mc169]; decide)
def mm171 : Mem := cnt mm170
theorem mc171 : mm171.2.2.2 = 76 := congrArg (· + 1) mc170
theorem mz171 : Zr mm171 := mz170.cnt
def mm172 : Mem := setR mm171 137 2 139
theorem mc172 : mm172.2.2.2 = 76 := mc171
theorem mz172 : Zr mm172 := mz171.R (by rw [mc171]; decide)
def mm173 : Mem := cnt mm172
theorem mc173 : mm173.2.2.2 = 77 := congrArg (· + 1) mc172
theorem mz173 : Zr mm173 := mz172.cnt
def mm174 : Mem := cnt mm173
theorem mc174 : mm174.2.2.2 = 78 := congrArg (· + 1) mc173
theorem mz174 : Zr mm174 := mz173.cnt
def mm175 : Mem := setR mm174 140 0 141
theorem mc175 : mm175.2.2.2 = 78 := mc174
theorem mz175 : Zr mm175 := mz174.R (by rw [mc174]; decide)
def mm176 : Mem := setR mm175 137 4 140
theorem mc176 : mm176.2.2.2 = 78 := mc175
theorem mz176 : Zr mm176 := mz175.R (by rw [mc175]; decide)
def mm177 : Mem := cnt mm176
theorem mc177 : mm177.2.2.2 = 79 := congrArg (· + 1) mc176
theorem mz177 : Zr mm177 := mz176.cnt
def mm178 : Mem := setR mm177 137 6 142
theorem mc178 : mm178.2.2.2 = 79 := mc177
theorem mz178 : Zr mm178 := mz177.R (by rw [mc177]; decide)
def mm179 : Mem := cnt mm178
theorem mc179 : mm179.2.2.2 = 80 := congrArg (· + 1) mc178
theorem mz179 : Zr mm179 := mz178.cnt
def mm180 : Mem := setR mm179 137 8 143
theorem mc180 : mm180.2.2.2 = 80 := mc179
theorem mz180 : Zr mm180 := mz179.R (by rw [mc179]; decide)
def mm181 : Mem := cnt mm180
theorem mc181 : mm181.2.2.2 = 81 := congrArg (· + 1) mc180
theorem mz181 : Zr mm181 := mz180.cnt
def mm182 : Mem := setR mm181 137 10 144
theorem mc182 : mm182.2.2.2 = 81 := mc181
theorem mz182 : Zr mm182 := mz181.R (by rw [mc181]; decide)
def mm183 : Mem := cnt mm182
theorem mc183 : mm183.2.2.2 = 82 := congrArg (· + 1) mc182
theorem mz183 : Zr mm183 := mz182.cnt
def mm184 : Mem := setR mm183 137 12 145
theorem mc184 : mm184.2.2.2 = 82 := mc183
theorem mz184 : Zr mm184 := mz183.R (by rw [mc183]; decide)
def mm185 : Mem := cnt mm184
theorem mc185 : mm185.2.2.2 = 83 := congrArg (· + 1) mc184
theorem mz185 : Zr mm185 := mz184.cnt
def mm186 : Mem := setR mm185 137 13 146
theorem mc186 : mm186.2.2.2 = 83 := mc185
theorem mz186 : Zr mm186 := mz185.R (by rw [mc185]; decide)
def mm187 : Mem := cnt mm186
theorem mc187 : mm187.2.2.2 = 84 := congrArg (· + 1) mc186
theorem mz187 : Zr mm187 := mz186.cnt
def mm188 : Mem := cnt mm187
theorem mc188 : mm188.2.2.2 = 85 := congrArg (· + 1) mc187
theorem mz188 : Zr mm188 := mz187.cnt
def mm189 : Mem := setR mm188 147 4 148
theorem mc189 : mm189.2.2.2 = 85 := mc188
theorem mz189 : Zr mm189 := mz188.R (by rw [mc188]; decide)
def mm190 : Mem := cnt mm189
theorem mc190 : mm190.2.2.2 = 86 := congrArg (· + 1) mc189
theorem mz190 : Zr mm190 := mz189.cnt
def mm191 : Mem := setR mm190 147 5 149
theorem mc191 : mm191.2.2.2 = 86 := mc190
theorem mz191 : Zr mm191 := mz190.R (by rw [mc190]; decide)
def mm192 : Mem := setR mm191 143 0 147
theorem mc192 : mm192.2.2.2 = 86 := mc191
theorem mz192 : Zr mm192 := mz191.R (by rw [mc191]; decide)
def mm193 : Mem := cnt mm192
theorem mc193 : mm193.2.2.2 = 87 := congrArg (· + 1) mc192
theorem mz193 : Zr mm193 := mz192.cnt
def mm194 : Mem := cnt mm193
theorem mc194 : mm194.2.2.2 = 88 := congrArg (· + 1) mc193
theorem mz194 : Zr mm194 := mz193.cnt
def mm195 : Mem := setR mm194 150 4 151
theorem mc195 : mm195.2.2.2 = 88 := mc194
theorem mz195 : Zr mm195 := mz194.R (by rw [mc194]; decide)
def mm196 : Mem := cnt mm195
theorem mc196 : mm196.2.2.2 = 89 := congrArg (· + 1) mc195
theorem mz196 : Zr mm196 := mz195.cnt
def mm197 : Mem := setR mm196 150 5 152
theorem mc197 : mm197.2.2.2 = 89 := mc196
theorem mz197 : Zr mm197 := mz196.R (by rw [mc196]; decide)
def mm198 : Mem := setR mm197 143 1 150
theorem mc198 : mm198.2.2.2 = 89 := mc197
theorem mz198 : Zr mm198 := mz197.R (by rw [mc197]; decide)
def mm199 : Mem := cnt mm198
theorem mc199 : mm199.2.2.2 = 90 := congrArg (· + 1) mc198
theorem mz199 : Zr mm199 := mz198.cnt
def mm200 : Mem := cnt mm199
theorem mc200 : mm200.2.2.2 = 91 := congrArg (· + 1) mc199
theorem mz200 : Zr mm200 := mz199.cnt
def mm201 : Mem := setR mm200 153 4 154
theorem mc201 : mm201.2.2.2 = 91 := mc200
theorem mz201 : Zr mm201 := mz200.R (by rw [mc200]; decide)
def mm202 : Mem := cnt mm201
theorem mc202 : mm202.2.2.2 = 92 := congrArg (· + 1) mc201
theorem mz202 : Zr mm202 := mz201.cnt
def mm203 : Mem := setR mm202 153 5 155
theorem mc203 : mm203.2.2.2 = 92 := mc202
theorem mz203 : Zr mm203 := mz202.R (by rw [mc202]; decide)
def mm204 : Mem := setR mm203 143 2 153
theorem mc204 : mm204.2.2.2 = 92 := mc203
theorem mz204 : Zr mm204 := mz203.R (by rw [mc203]; decide)
def mm205 : Mem := cnt mm204
theorem mc205 : mm205.2.2.2 = 93 := congrArg (· + 1) mc204
theorem mz205 : Zr mm205 := mz204.cnt
def mm206 : Mem := cnt mm205
theorem mc206 : mm206.2.2.2 = 94 := congrArg (· + 1) mc205
theorem mz206 : Zr mm206 := mz205.cnt
def mm207 : Mem := setR mm206 156 4 157
theorem mc207 : mm207.2.2.2 = 94 := mc206
theorem mz207 : Zr mm207 := mz206.R (by rw [mc206]; decide)
def mm208 : Mem := cnt mm207
theorem mc208 : mm208.2.2.2 = 95 := congrArg (· + 1) mc207
theorem mz208 : Zr mm208 := mz207.cnt
def mm209 : Mem := setR mm208 156 5 158
theorem mc209 : mm209.2.2.2 = 95 := mc208
theorem mz209 : Zr mm209 := mz208.R (by rw [mc208]; decide)
def mm210 : Mem := setR mm209 143 3 156
theorem mc210 : mm210.2.2.2 = 95 := mc209
theorem mz210 : Zr mm210 := mz209.R (by rw [mc209]; decide)
def mm211 : Mem := cnt mm210
theorem mc211 : mm211.2.2.2 = 96 := congrArg (· + 1) mc210
theorem mz211 : Zr mm211 := mz210.cnt
def mm212 : Mem := cnt mm211
theorem mc212 : mm212.2.2.2 = 97 := congrArg (· + 1) mc211
theorem mz212 : Zr mm212 := mz211.cnt
def mm213 : Mem := setR mm212 159 4 160
theorem mc213 : mm213.2.2.2 = 97 := mc212
theorem mz213 : Zr mm213 := mz212.R (by rw [mc212]; decide)
def mm214 : Mem := cnt mm213
theorem mc214 : mm214.2.2.2 = 98 := congrArg (· + 1) mc213
theorem mz214 : Zr mm214 := mz213.cnt
def mm215 : Mem := setR mm214 159 5 161
theorem mc215 : mm215.2.2.2 = 98 := mc214
theorem mz215 : Zr mm215 := mz214.R (by rw [mc214]; decide)
def mm216 : Mem := setR mm215 143 4 159
theorem mc216 : mm216.2.2.2 = 98 := mc215
theorem mz216 : Zr mm216 := mz215.R (by rw [mc215]; decide)
def mm217 : Mem := cnt mm216
theorem mc217 : mm217.2.2.2 = 99 := congrArg (· + 1) mc216
theorem mz217 : Zr mm217 := mz216.cnt
def mm218 : Mem := cnt mm217
theorem mc218 : mm218.2.2.2 = 100 := congrArg (· + 1) mc217
theorem mz218 : Zr mm218 := mz217.cnt
def mm219 : Mem := setR mm218 162 2 163
theorem mc219 : mm219.2.2.2 = 100 := mc218
theorem mz219 : Zr mm219 := mz218.R (by rw [mc218]; decide)
def mm220 : Mem := setR mm219 144 0 162
theorem mc220 : mm220.2.2.2 = 100 := mc219
theorem mz220 : Zr mm220 := mz219.R (by rw [mc219]; decide)
def mm221 : Mem := cnt mm220
theorem mc221 : mm221.2.2.2 = 101 := congrArg (· + 1) mc220
theorem mz221 : Zr mm221 := mz220.cnt
def mm222 : Mem := cnt mm221
theorem mc222 : mm222.2.2.2 = 102 := congrArg (· + 1) mc221
theorem mz222 : Zr mm222 := mz221.cnt
def mm223 : Mem := setR mm222 164 2 165
theorem mc223 : mm223.2.2.2 = 102 := mc222
theorem mz223 : Zr mm223 := mz222.R (by rw [mc222]; decide)
def mm224 : Mem := setR mm223 144 1 164
theorem mc224 : mm224.2.2.2 = 102 := mc223
theorem mz224 : Zr mm224 := mz223.R (by rw [mc223]; decide)
def mm225 : Mem := cnt mm224
theorem mc225 : mm225.2.2.2 = 103 := congrArg (· + 1) mc224
theorem mz225 : Zr mm225 := mz224.cnt
def mm226 : Mem := cnt mm225
theorem mc226 : mm226.2.2.2 = 104 := congrArg (· + 1) mc225
theorem mz226 : Zr mm226 := mz225.cnt
def mm227 : Mem := setR mm226 166 2 167
theorem mc227 : mm227.2.2.2 = 104 := mc226
theorem mz227 : Zr mm227 := mz226.R (by rw [mc226]; decide)
def mm228 : Mem := setR mm227 144 2 166
theorem mc228 : mm228.2.2.2 = 104 := mc227
theorem mz228 : Zr mm228 := mz227.R (by rw [mc227]; decide)
def mm229 : Mem := cnt mm228
theorem mc229 : mm229.2.2.2 = 105 := congrArg (· + 1) mc228
theorem mz229 : Zr mm229 := mz228.cnt
def mm230 : Mem := cnt mm229
theorem mc230 : mm230.2.2.2 = 106 := congrArg (· + 1) mc229
theorem mz230 : Zr mm230 := mz229.cnt
def mm231 : Mem := setR mm230 168 6 169
theorem mc231 : mm231.2.2.2 = 106 := mc230
theorem mz231 : Zr mm231 := mz230.R (by rw [mc230]; decide)
def mm232 : Mem := cnt mm231
theorem mc232 : mm232.2.2.2 = 107 := congrArg (· + 1) mc231
theorem mz232 : Zr mm232 := mz231.cnt
def mm233 : Mem := setR mm232 168 7 170
theorem mc233 : mm233.2.2.2 = 107 := mc232
theorem mz233 : Zr mm233 := mz232.R (by rw [mc232]; decide)
def mm234 : Mem := cnt mm233
theorem mc234 : mm234.2.2.2 = 108 := congrArg (· + 1) mc233
theorem mz234 : Zr mm234 := mz233.cnt
def mm235 : Mem := setR mm234 168 8 171
theorem mc235 : mm235.2.2.2 = 108 := mc234
theorem mz235 : Zr mm235 := mz234.R (by rw [mc234]; decide)
def mm236 : Mem := cnt mm235
theorem mc236 : mm236.2.2.2 = 109 := congrArg (· + 1) mc235
theorem mz236 : Zr mm236 := mz235.cnt
def mm237 : Mem := setR mm236 168 9 172
theorem mc237 : mm237.2.2.2 = 109 := mc236
theorem mz237 : Zr mm237 := mz236.R (by rw [mc236]; decide)
def mm238 : Mem := setR mm237 145 0 168
theorem mc238 : mm238.2.2.2 = 109 := mc237
theorem mz238 : Zr mm238 := mz237.R (by rw [mc237]; decide)
def mm239 : Mem := cnt mm238
theorem mc239 : mm239.2.2.2 = 110 := congrArg (· + 1) mc238
theorem mz239 : Zr mm239 := mz238.cnt
def mm240 : Mem := cnt mm239
theorem mc240 : mm240.2.2.2 = 111 := congrArg (· + 1) mc239
theorem mz240 : Zr mm240 := mz239.cnt
def mm241 : Mem := setR mm240 173 6 174
theorem mc241 : mm241.2.2.2 = 111 := mc240
theorem mz241 : Zr mm241 := mz240.R (by rw [mc240]; decide)
def mm242 : Mem := cnt mm241
theorem mc242 : mm242.2.2.2 = 112 := congrArg (· + 1) mc241
theorem mz242 : Zr mm242 := mz241.cnt
def mm243 : Mem := setR mm242 173 7 175
theorem mc243 : mm243.2.2.2 = 112 := mc242
theorem mz243 : Zr mm243 := mz242.R (by rw [mc242]; decide)
def mm244 : Mem := cnt mm243
theorem mc244 : mm244.2.2.2 = 113 := congrArg (· + 1) mc243
theorem mz244 : Zr mm244 := mz243.cnt
def mm245 : Mem := setR mm244 173 8 176
theorem mc245 : mm245.2.2.2 = 113 := mc244
theorem mz245 : Zr mm245 := mz244.R (by rw [mc244]; decide)
def mm246 : Mem := cnt mm245
theorem mc246 : mm246.2.2.2 = 114 := congrArg (· + 1) mc245
theorem mz246 : Zr mm246 := mz245.cnt
def mm247 : Mem := setR mm246 173 9 177
theorem mc247 : mm247.2.2.2 = 114 := mc246
theorem mz247 : Zr mm247 := mz246.R (by rw [mc246]; decide)
def mm248 : Mem := setR mm247 145 1 173
theorem mc248 : mm248.2.2.2 = 114 := mc247
theorem mz248 : Zr mm248 := mz247.R (by rw [mc247]; decide)
def mm249 : Mem := cnt mm248
theorem mc249 : mm249.2.2.2 = 115 := congrArg (· + 1) mc248
theorem mz249 : Zr mm249 := mz248.cnt
def mm250 : Mem := cnt mm249
theorem mc250 : mm250.2.2.2 = 116 := congrArg (· + 1) mc249
theorem mz250 : Zr mm250 := mz249.cnt
def mm251 : Mem := setR mm250 178 6 179
theorem mc251 : mm251.2.2.2 = 116 := mc250
theorem mz251 : Zr mm251 := mz250.R (by rw [mc250]; decide)
def mm252 : Mem := cnt mm251
theorem mc252 : mm252.2.2.2 = 117 := congrArg (· + 1) mc251
theorem mz252 : Zr mm252 := mz251.cnt
def mm253 : Mem := setR mm252 178 7 180
theorem mc253 : mm253.2.2.2 = 117 := mc252
theorem mz253 : Zr mm253 := mz252.R (by rw [mc252]; decide)
def mm254 : Mem := cnt mm253
theorem mc254 : mm254.2.2.2 = 118 := congrArg (· + 1) mc253
theorem mz254 : Zr mm254 := mz253.cnt
def mm255 : Mem := setR mm254 178 8 181
theorem mc255 : mm255.2.2.2 = 118 := mc254
theorem mz255 : Zr mm255 := mz254.R (by rw [mc254]; decide)
def mm256 : Mem := cnt mm255
theorem mc256 : mm256.2.2.2 = 119 := congrArg (· + 1) mc255
theorem mz256 : Zr mm256 := mz255.cnt
def mm257 : Mem := setR mm256 178 9 182
theorem mc257 : mm257.2.2.2 = 119 := mc256
theorem mz257 : Zr mm257 := mz256.R (by rw [mc256]; decide)
def mm258 : Mem := setR mm257 145 2 178
theorem mc258 : mm258.2.2.2 = 119 := mc257
theorem mz258 : Zr mm258 := mz257.R (by rw [mc257]; decide)
def mm259 : Mem := cnt mm258
theorem mc259 : mm259.2.2.2 = 120 := congrArg (· + 1) mc258
theorem mz259 : Zr mm259 := mz258.cnt
def mm260 : Mem := cnt mm259
theorem mc260 : mm260.2.2.2 = 121 := congrArg (· + 1) mc259
theorem mz260 : Zr mm260 := mz259.cnt
def mm261 : Mem := setR mm260 183 6 184
theorem mc261 : mm261.2.2.2 = 121 := mc260
theorem mz261 : Zr mm261 := mz260.R (by rw [mc260]; decide)
def mm262 : Mem := cnt mm261
theorem mc262 : mm262.2.2.2 = 122 := congrArg (· + 1) mc261
theorem mz262 : Zr mm262 := mz261.cnt
def mm263 : Mem := setR mm262 183 7 185
theorem mc263 : mm263.2.2.2 = 122 := mc262
theorem mz263 : Zr mm263 := mz262.R (by rw [mc262]; decide)
def mm264 : Mem := cnt mm263
theorem mc264 : mm264.2.2.2 = 123 := congrArg (· + 1) mc263
theorem mz264 : Zr mm264 := mz263.cnt
def mm265 : Mem := setR mm264 183 8 186
theorem mc265 : mm265.2.2.2 = 123 := mc264
theorem mz265 : Zr mm265 := mz264.R (by rw [mc264]; decide)
def mm266 : Mem := cnt mm265
theorem mc266 : mm266.2.2.2 = 124 := congrArg (· + 1) mc265
theorem mz266 : Zr mm266 := mz265.cnt
def mm267 : Mem := setR mm266 183 9 187
theorem mc267 : mm267.2.2.2 = 124 := mc266
theorem mz267 : Zr mm267 := mz266.R (by rw [mc266]; decide)
def mm268 : Mem := setR mm267 145 3 183
theorem mc268 : mm268.2.2.2 = 124 := mc267
theorem mz268 : Zr mm268 := mz267.R (by rw [mc267]; decide)
def mm269 : Mem := cnt mm268
theorem mc269 : mm269.2.2.2 = 125 := congrArg (· + 1) mc268
theorem mz269 : Zr mm269 := mz268.cnt
def mm270 : Mem := cnt mm269
theorem mc270 : mm270.2.2.2 = 126 := congrArg (· + 1) mc269
theorem mz270 : Zr mm270 := mz269.cnt
def mm271 : Mem := setR mm270 188 6 189
theorem mc271 : mm271.2.2.2 = 126 := mc270
theorem mz271 : Zr mm271 := mz270.R (by rw [mc270]; decide)
def mm272 : Mem := cnt mm271
theorem mc272 : mm272.2.2.2 = 127 := congrArg (· + 1) mc271
theorem mz272 : Zr mm272 := mz271.cnt
def mm273 : Mem := setR mm272 188 7 190
theorem mc273 : mm273.2.2.2 = 127 := mc272
theorem mz273 : Zr mm273 := mz272.R (by rw [mc272]; decide)
def mm274 : Mem := cnt mm273
theorem mc274 : mm274.2.2.2 = 128 := congrArg (· + 1) mc273
theorem mz274 : Zr mm274 := mz273.cnt
def mm275 : Mem := setR mm274 188 8 191
theorem mc275 : mm275.2.2.2 = 128 := mc274
theorem mz275 : Zr mm275 := mz274.R (by rw [mc274]; decide)
def mm276 : Mem := cnt mm275
theorem mc276 : mm276.2.2.2 = 129 := congrArg (· + 1) mc275
theorem mz276 : Zr mm276 := mz275.cnt
def mm277 : Mem := setR mm276 188 9 192
theorem mc277 : mm277.2.2.2 = 129 := mc276
theorem mz277 : Zr mm277 := mz276.R (by rw [mc276]; decide)
def mm278 : Mem := setR mm277 145 4 188
theorem mc278 : mm278.2.2.2 = 129 := mc277
theorem mz278 : Zr mm278 := mz277.R (by rw [mc277]; decide)
def mm279 : Mem := cnt mm278
theorem mc279 : mm279.2.2.2 = 130 := congrArg (· + 1) mc278
theorem mz279 : Zr mm279 := mz278.cnt
def mm280 : Mem := cnt mm279
theorem mc280 : mm280.2.2.2 = 131 := congrArg (· + 1) mc279
theorem mz280 : Zr mm280 := mz279.cnt
def mm281 : Mem := setR mm280 193 6 194
theorem mc281 : mm281.2.2.2 = 131 := mc280
theorem mz281 : Zr mm281 := mz280.R (by rw [mc280]; decide)
def mm282 : Mem := cnt mm281
theorem mc282 : mm282.2.2.2 = 132 := congrArg (· + 1) mc281
theorem mz282 : Zr mm282 := mz281.cnt
def mm283 : Mem := setR mm282 193 7 195
theorem mc283 : mm283.2.2.2 = 132 := mc282
theorem mz283 : Zr mm283 := mz282.R (by rw [mc282]; decide)
def mm284 : Mem := cnt mm283
theorem mc284 : mm284.2.2.2 = 133 := congrArg (· + 1) mc283
theorem mz284 : Zr mm284 := mz283.cnt
def mm285 : Mem := setR mm284 193 8 196
theorem mc285 : mm285.2.2.2 = 133 := mc284
theorem mz285 : Zr mm285 := mz284.R (by rw [mc284]; decide)
def mm286 : Mem := cnt mm285
theorem mc286 : mm286.2.2.2 = 134 := congrArg (· + 1) mc285
theorem mz286 : Zr mm286 := mz285.cnt
def mm287 : Mem := setR mm286 193 9 197
theorem mc287 : mm287.2.2.2 = 134 := mc286
theorem mz287 : Zr mm287 := mz286.R (by rw [mc286]; decide)
def mm288 : Mem := setR mm287 145 5 193
theorem mc288 : mm288.2.2.2 = 134 := mc287
theorem mz288 : Zr mm288 := mz287.R (by rw [mc287]; decide)
def mm289 : Mem := cnt mm288
theorem mc289 : mm289.2.2.2 = 135 := congrArg (· + 1) mc288
theorem mz289 : Zr mm289 := mz288.cnt
def mm290 : Mem := cnt mm289
theorem mc290 : mm290.2.2.2 = 136 := congrArg (· + 1) mc289
theorem mz290 : Zr mm290 := mz289.cnt
def mm291 : Mem := setR mm290 198 6 199
theorem mc291 : mm291.2.2.2 = 136 := mc290
theorem mz291 : Zr mm291 := mz290.R (by rw [mc290]; decide)
def mm292 : Mem := cnt mm291
theorem mc292 : mm292.2.2.2 = 137 := congrArg (· + 1) mc291
theorem mz292 : Zr mm292 := mz291.cnt
def mm293 : Mem := setR mm292 198 7 200
theorem mc293 : mm293.2.2.2 = 137 := mc292
theorem mz293 : Zr mm293 := mz292.R (by rw [mc292]; decide)
def mm294 : Mem := cnt mm293
theorem mc294 : mm294.2.2.2 = 138 := congrArg (· + 1) mc293
theorem mz294 : Zr mm294 := mz293.cnt
def mm295 : Mem := setR mm294 198 8 201
theorem mc295 : mm295.2.2.2 = 138 := mc294
theorem mz295 : Zr mm295 := mz294.R (by rw [mc294]; decide)
def mm296 : Mem := cnt mm295
theorem mc296 : mm296.2.2.2 = 139 := congrArg (· + 1) mc295
theorem mz296 : Zr mm296 := mz295.cnt
def mm297 : Mem := setR mm296 198 9 202
theorem mc297 : mm297.2.2.2 = 139 := mc296
theorem mz297 : Zr mm297 := mz296.R (by rw [mc296]; decide)
def mm298 : Mem := setR mm297 145 6 198
theorem mc298 : mm298.2.2.2 = 139 := mc297
theorem mz298 : Zr mm298 := mz297.R (by rw [mc297]; decide)
def mm299 : Mem := cnt mm298
theorem mc299 : mm299.2.2.2 = 140 := congrArg (· + 1) mc298
theorem mz299 : Zr mm299 := mz298.cnt
def mm300 : Mem := cnt mm299
theorem mc300 : mm300.2.2.2 = 141 := congrArg (· + 1) mc299
theorem mz300 : Zr mm300 := mz299.cnt
def mm301 : Mem := setR mm300 203 6 204
theorem mc301 : mm301.2.2.2 = 141 := mc300
theorem mz301 : Zr mm301 := mz300.R (by rw [mc300]; decide)
def mm302 : Mem := cnt mm301
theorem mc302 : mm302.2.2.2 = 142 := congrArg (· + 1) mc301
theorem mz302 : Zr mm302 := mz301.cnt
def mm303 : Mem := setR mm302 203 7 205
theorem mc303 : mm303.2.2.2 = 142 := mc302
theorem mz303 : Zr mm303 := mz302.R (by rw [mc302]; decide)
def mm304 : Mem := cnt mm303
theorem mc304 : mm304.2.2.2 = 143 := congrArg (· + 1) mc303
theorem mz304 : Zr mm304 := mz303.cnt
def mm305 : Mem := setR mm304 203 8 206
theorem mc305 : mm305.2.2.2 = 143 := mc304
theorem mz305 : Zr mm305 := mz304.R (by rw [mc304]; decide)
def mm306 : Mem := cnt mm305
theorem mc306 : mm306.2.2.2 = 144 := congrArg (· + 1) mc305
theorem mz306 : Zr mm306 := mz305.cnt
def mm307 : Mem := setR mm306 203 9 207
theorem mc307 : mm307.2.2.2 = 144 := mc306
theorem mz307 : Zr mm307 := mz306.R (by rw [mc306]; decide)
def mm308 : Mem := setR mm307 145 7 203
theorem mc308 : mm308.2.2.2 = 144 := mc307
theorem mz308 : Zr mm308 := mz307.R (by rw [mc307]; decide)
def mm309 : Mem := setI mm308 137 0 0
theorem mc309 : mm309.2.2.2 = 144 := mc308
theorem mz309 : Zr mm309 := mz308.I (by rw [mc308]; decide)
def mm310 : Mem := setI mm309 137 3 0
theorem mc310 : mm310.2.2.2 = 144 := mc309
theorem mz310 : Zr mm310 := mz309.I (by rw [mc309]; decide)
def mm311 : Mem := flM mm310 141 100 268435456
theorem mc311 : mm311.2.2.2 = 144 := mc310
theorem mz311 : Zr mm311 := mz310.fl (by rw [mc310]; decide)
def mm312 : Mem := setI mm311 141 0 0
theorem mc312 : mm312.2.2.2 = 144 := mc311
theorem mz312 : Zr mm312 := mz311.I (by rw [mc311]; decide)
def mm313 : Mem := setI mm312 141 11 0
theorem mc313 : mm313.2.2.2 = 144 := mc312
theorem mz313 : Zr mm313 := mz312.I (by rw [mc312]; decide)
def mm314 : Mem := setI mm313 141 22 0
theorem mc314 : mm314.2.2.2 = 144 := mc313
theorem mz314 : Zr mm314 := mz313.I (by rw [mc313]; decide)
def mm315 : Mem := setI mm314 141 33 0
theorem mc315 : mm315.2.2.2 = 144 := mc314
theorem mz315 : Zr mm315 := mz314.I (by rw [mc314]; decide)
def mm316 : Mem := setI mm315 141 44 0
theorem mc316 : mm316.2.2.2 = 144 := mc315
theorem mz316 : Zr mm316 := mz315.I (by rw [mc315]; decide)
def mm317 : Mem := setI mm316 141 55 0
theorem mc317 : mm317.2.2.2 = 144 := mc316
theorem mz317 : Zr mm317 := mz316.I (by rw [mc316]; decide)
def mm318 : Mem := setI mm317 141 66 0
theorem mc318 : mm318.2.2.2 = 144 := mc317
theorem mz318 : Zr mm318 := mz317.I (by rw [mc317]; decide)
def mm319 : Mem := setI mm318 141 77 0
theorem mc319 : mm319.2.2.2 = 144 := mc318
theorem mz319 : Zr mm319 := mz318.I (by rw [mc318]; decide)
def mm320 : Mem := setI mm319 141 88 0
theorem mc320 : mm320.2.2.2 = 144 := mc319
theorem mz320 : Zr mm320 := mz319.I (by rw [mc319]; decide)
def mm321 : Mem := setI mm320 141 99 0
theorem mc321 : mm321.2.2.2 = 144 := mc320
theorem mz321 : Zr mm321 := mz320.I (by rw [mc320]; decide)
def mm322 : Mem := setI mm321 140 1 0
theorem mc322 : mm322.2.2.2 = 144 := mc321
theorem mz322 : Zr mm322 := mz321.I (by rw [mc321]; decide)
def mm323 : Mem := setI mm322 137 5 0
theorem mc323 : mm323.2.2.2 = 144 := mc322
theorem mz323 : Zr mm323 := mz322.I (by rw [mc322]; decide)
def mm324 : Mem := setI mm323 137 7 0
theorem mc324 : mm324.2.2.2 = 144 := mc323
theorem mz324 : Zr mm324 := mz323.I (by rw [mc323]; decide)
def mm325 : Mem := setI mm324 137 9 0
theorem mc325 : mm325.2.2.2 = 144 := mc324
theorem mz325 : Zr mm325 := mz324.I (by rw [mc324]; decide)
def mm326 : Mem := setI mm325 137 11 0
theorem mc326 : mm326.2.2.2 = 144 := mc325
theorem mz326 : Zr mm326 := mz325.I (by rw [mc325]; decide)
def mm327 : Mem := setI mm326 146 0 60
theorem mc327 : mm327.2.2.2 = 144 := mc326
theorem mz327 : Zr mm327 := mz326.I (by rw [mc326]; decide)
def mm328 : Mem := setI mm327 146 1 0
theorem mc328 : mm328.2.2.2 = 144 := mc327
theorem mz328 : Zr mm328 := mz327.I (by rw [mc327]; decide)
def mm329 : Mem := setI mm328 146 2 1000
theorem mc329 : mm329.2.2.2 = 144 := mc328
theorem mz329 : Zr mm329 := mz328.I (by rw [mc328]; decide)
def mm330 : Mem := setI mm329 146 3 1
theorem mc330 : mm330.2.2.2 = 144 := mc329
theorem mz330 : Zr mm330 := mz329.I (by rw [mc329]; decide)
def mm331 : Mem := setR mm330 64 3 137
theorem mc331 : mm331.2.2.2 = 144 := mc330
theorem mz331 : Zr mm331 := mz330.R (by rw [mc330]; decide)
def mm332 : Mem := cnt mm331
theorem mc332 : mm332.2.2.2 = 145 := congrArg (· + 1) mc331
theorem mz332 : Zr mm332 := mz331.cnt
def mm333 : Mem := setR mm332 208 4 1
theorem mc333 : mm333.2.2.2 = 145 := mc332
theorem mz333 : Zr mm333 := mz332.R (by rw [mc332]; decide)
def mm334 : Mem := cnt mm333
theorem mc334 : mm334.2.2.2 = 146 := congrArg (· + 1) mc333
theorem mz334 : Zr mm334 := mz333.cnt
def mm335 : Mem := setR mm334 208 10 209
theorem mc335 : mm335.2.2.2 = 146 := mc334
theorem mz335 : Zr mm335 := mz334.R (by rw [mc334]; decide)
def mm336 : Mem := cnt mm335
theorem mc336 : mm336.2.2.2 = 147 := congrArg (· + 1) mc335
theorem mz336 : Zr mm336 := mz335.cnt
def mm337 : Mem := setR mm336 208 11 210
theorem mc337 : mm337.2.2.2 = 147 := mc336
theorem mz337 : Zr mm337 := mz336.R (by rw [mc336]; decide)
def mm338 : Mem := cnt mm337
theorem mc338 : mm338.2.2.2 = 148 := congrArg (· + 1) mc337
theorem mz338 : Zr mm338 := mz337.cnt
def mm339 : Mem := setR mm338 208 12 211
theorem mc339 : mm339.2.2.2 = 148 := mc338
theorem mz339 : Zr mm339 := mz338.R (by rw [mc338]; decide)
def mm340 : Mem := setR mm339 208 0 65
theorem mc340 : mm340.2.2.2 = 148 := mc339
theorem mz340 : Zr mm340 := mz339.R (by rw [mc339]; decide)
def mm341 : Mem := setR mm340 208 1 137
theorem mc341 : mm341.2.2.2 = 148 := mc340
theorem mz341 : Zr mm341 := mz340.R (by rw [mc340]; decide)
def mm342 : Mem := setR mm341 64 4 208
theorem mc342 : mm342.2.2.2 = 148 := mc341
theorem mz342 : Zr mm342 := mz341.R (by rw [mc341]; decide)
def mm343 : Mem := cnt mm342
theorem mc343 : mm343.2.2.2 = 149 := congrArg (· + 1) mc342
theorem mz343 : Zr mm343 := mz342.cnt
def mm344 : Mem := cnt mm343
theorem mc344 : mm344.2.2.2 = 150 := congrArg (· + 1) mc343
theorem mz344 : Zr mm344 := mz343.cnt
def mm345 : Mem := cnt mm344
theorem mc345 : mm345.2.2.2 = 151 := congrArg (· + 1) mc344
theorem mz345 : Zr mm345 := mz344.cnt
def mm346 : Mem := setR mm345 213 0 214
theorem mc346 : mm346.2.2.2 = 151 := mc345
theorem mz346 : Zr mm346 := mz345.R (by rw [mc345]; decide)
def mm347 : Mem := setR mm346 212 0 213
theorem mc347 : mm347.2.2.2 = 151 := mc346
theorem mz347 : Zr mm347 := mz346.R (by rw [mc346]; decide)
def mm348 : Mem := cnt mm347
theorem mc348 : mm348.2.2.2 = 152 := congrArg (· + 1) mc347
theorem mz348 : Zr mm348 := mz347.cnt
def mm349 : Mem := cnt mm348
theorem mc349 : mm349.2.2.2 = 153 := congrArg (· + 1) mc348
theorem mz349 : Zr mm349 := mz348.cnt
def mm350 : Mem := setR mm349 215 0 216
theorem mc350 : mm350.2.2.2 = 153 := mc349
theorem mz350 : Zr mm350 := mz349.R (by rw [mc349]; decide)
def mm351 : Mem := setR mm350 212 1 215
theorem mc351 : mm351.2.2.2 = 153 := mc350
theorem mz351 : Zr mm351 := mz350.R (by rw [mc350]; decide)
def mm352 : Mem := setR mm351 64 5 212
theorem mc352 : mm352.2.2.2 = 153 := mc351
theorem mz352 : Zr mm352 := mz351.R (by rw [mc351]; decide)
def mm353 : Mem := cnt mm352
theorem mc353 : mm353.2.2.2 = 154 := congrArg (· + 1) mc352
theorem mz353 : Zr mm353 := mz352.cnt
def mm354 : Mem := cnt mm353
theorem mc354 : mm354.2.2.2 = 155 := congrArg (· + 1) mc353
theorem mz354 : Zr mm354 := mz353.cnt
def mm355 : Mem := setR mm354 217 4 218
theorem mc355 : mm355.2.2.2 = 155 := mc354
theorem mz355 : Zr mm355 := mz354.R (by rw [mc354]; decide)
def mm356 : Mem := cnt mm355
theorem mc356 : mm356.2.2.2 = 156 := congrArg (· + 1) mc355
theorem mz356 : Zr mm356 := mz355.cnt
def mm357 : Mem := setR mm356 217 5 219
theorem mc357 : mm357.2.2.2 = 156 := mc356
theorem mz357 : Zr mm357 := mz356.R (by rw [mc356]; decide)
def mm358 : Mem := cnt mm357
theorem mc358 : mm358.2.2.2 = 157 := congrArg (· + 1) mc357
theorem mz358 : Zr mm358 := mz357.cnt
def mm359 : Mem := setR mm358 217 6 220
theorem mc359 : mm359.2.2.2 = 157 := mc358
theorem mz359 : Zr mm359 := mz358.R (by rw [mc358]; decide)
def mm360 : Mem := cnt mm359
theorem mc360 : mm360.2.2.2 = 158 := congrArg (· + 1) mc359
theorem mz360 : Zr mm360 := mz359.cnt
def mm361 : Mem := setR mm360 217 7 221
theorem mc361 : mm361.2.2.2 = 158 := mc360
theorem mz361 : Zr mm361 := mz360.R (by rw [mc360]; decide)
def mm362 : Mem := cnt mm361
theorem mc362 : mm362.2.2.2 = 159 := congrArg (· + 1) mc361
theorem mz362 : Zr mm362 := mz361.cnt
def mm363 : Mem := setR mm362 217 8 222
theorem mc363 : mm363.2.2.2 = 159 := mc362
theorem mz363 : Zr mm363 := mz362.R (by rw [mc362]; decide)
def mm364 : Mem := setR mm363 64 6 217
theorem mc364 : mm364.2.2.2 = 159 := mc363
theorem mz364 : Zr mm364 := mz363.R (by rw [mc363]; decide)
def mm365 : Mem := cnt mm364
theorem mc365 : mm365.2.2.2 = 160 := congrArg (· + 1) mc364
theorem mz365 : Zr mm365 := mz364.cnt
def mm366 : Mem := setR mm365 64 7 223
theorem mc366 : mm366.2.2.2 = 160 := mc365
theorem mz366 : Zr mm366 := mz365.R (by rw [mc365]; decide)
def mm367 : Mem := cnt mm366
theorem mc367 : mm367.2.2.2 = 161 := congrArg (· + 1) mc366
theorem mz367 : Zr mm367 := mz366.cnt
def mm368 : Mem := setR mm367 64 10 224
theorem mc368 : mm368.2.2.2 = 161 := mc367
theorem mz368 : Zr mm368 := mz367.R (by rw [mc367]; decide)
def mm369 : Mem := cnt mm368
theorem mc369 : mm369.2.2.2 = 162 := congrArg (· + 1) mc368
theorem mz369 : Zr mm369 := mz368.cnt
def mm370 : Mem := setR mm369 64 11 225
theorem mc370 : mm370.2.2.2 = 162 := mc369
theorem mz370 : Zr mm370 := mz369.R (by rw [mc369]; decide)
def mm371 : Mem := cnt mm370
theorem mc371 : mm371.2.2.2 = 163 := congrArg (· + 1) mc370
theorem mz371 : Zr mm371 := mz370.cnt
def mm372 : Mem := setR mm371 64 12 226
theorem mc372 : mm372.2.2.2 = 163 := mc371
theorem mz372 : Zr mm372 := mz371.R (by rw [mc371]; decide)
def mm373 : Mem := cnt mm372
theorem mc373 : mm373.2.2.2 = 164 := congrArg (· + 1) mc372
theorem mz373 : Zr mm373 := mz372.cnt
def mm374 : Mem := cnt mm373
theorem mc374 : mm374.2.2.2 = 165 := congrArg (· + 1) mc373
theorem mz374 : Zr mm374 := mz373.cnt
def mm375 : Mem := setR mm374 227 4 228
theorem mc375 : mm375.2.2.2 = 165 := mc374
theorem mz375 : Zr mm375 := mz374.R (by rw [mc374]; decide)
def mm376 : Mem := cnt mm375
theorem mc376 : mm376.2.2.2 = 166 := congrArg (· + 1) mc375
theorem mz376 : Zr mm376 := mz375.cnt
def mm377 : Mem := setR mm376 227 5 229
theorem mc377 : mm377.2.2.2 = 166 := mc376
theorem mz377 : Zr mm377 := mz376.R (by rw [mc376]; decide)
def mm378 : Mem := cnt mm377
theorem mc378 : mm378.2.2.2 = 167 := congrArg (· + 1) mc377
theorem mz378 : Zr mm378 := mz377.cnt
def mm379 : Mem := setR mm378 227 6 230
theorem mc379 : mm379.2.2.2 = 167 := mc378
theorem mz379 : Zr mm379 := mz378.R (by rw [mc378]; decide)
def mm380 : Mem := cnt mm379
theorem mc380 : mm380.2.2.2 = 168 := congrArg (· + 1) mc379
theorem mz380 : Zr mm380 := mz379.cnt
def mm381 : Mem := setR mm380 227 7 231
theorem mc381 : mm381.2.2.2 = 168 := mc380
theorem mz381 : Zr mm381 := mz380.R (by rw [mc380]; decide)
def mm382 : Mem := cnt mm381
theorem mc382 : mm382.2.2.2 = 169 := congrArg (· + 1) mc381
theorem mz382 : Zr mm382 := mz381.cnt
def mm383 : Mem := setR mm382 227 8 232
theorem mc383 : mm383.2.2.2 = 169 := mc382
theorem mz383 : Zr mm383 := mz382.R (by rw [mc382]; decide)
def mm384 : Mem := setR mm383 223 0 227
theorem mc384 : mm384.2.2.2 = 169 := mc383
theorem mz384 : Zr mm384 := mz383.R (by rw [mc383]; decide)
def mm385 : Mem := cnt mm384
theorem mc385 : mm385.2.2.2 = 170 := congrArg (· + 1) mc384
theorem mz385 : Zr mm385 := mz384.cnt
def mm386 : Mem := cnt mm385
theorem mc386 : mm386.2.2.2 = 171 := congrArg (· + 1) mc385
theorem mz386 : Zr mm386 := mz385.cnt
def mm387 : Mem := setR mm386 233 4 234
theorem mc387 : mm387.2.2.2 = 171 := mc386
theorem mz387 : Zr mm387 := mz386.R (by rw [mc386]; decide)
def mm388 : Mem := cnt mm387
theorem mc388 : mm388.2.2.2 = 172 := congrArg (· + 1) mc387
theorem mz388 : Zr mm388 := mz387.cnt
def mm389 : Mem := setR mm388 233 5 235
theorem mc389 : mm389.2.2.2 = 172 := mc388
theorem mz389 : Zr mm389 := mz388.R (by rw [mc388]; decide)
def mm390 : Mem := cnt mm389
theorem mc390 : mm390.2.2.2 = 173 := congrArg (· + 1) mc389
theorem mz390 : Zr mm390 := mz389.cnt
def mm391 : Mem := setR mm390 233 6 236
theorem mc391 : mm391.2.2.2 = 173 := mc390
theorem mz391 : Zr mm391 := mz390.R (by rw [mc390]; decide)
def mm392 : Mem := cnt mm391
theorem mc392 : mm392.2.2.2 = 174 := congrArg (· + 1) mc391
theorem mz392 : Zr mm392 := mz391.cnt
def mm393 : Mem := setR mm392 233 7 237
theorem mc393 : mm393.2.2.2 = 174 := mc392
theorem mz393 : Zr mm393 := mz392.R (by rw [mc392]; decide)
def mm394 : Mem := cnt mm393
theorem mc394 : mm394.2.2.2 = 175 := congrArg (· + 1) mc393
theorem mz394 : Zr mm394 := mz393.cnt
def mm395 : Mem := setR mm394 233 8 238
theorem mc395 : mm395.2.2.2 = 175 := mc394
theorem mz395 : Zr mm395 := mz394.R (by rw [mc394]; decide)
def mm396 : Mem := setR mm395 223 1 233
theorem mc396 : mm396.2.2.2 = 175 := mc395
theorem mz396 : Zr mm396 := mz395.R (by rw [mc395]; decide)
def mm397 : Mem := cnt mm396
theorem mc397 : mm397.2.2.2 = 176 := congrArg (· + 1) mc396
theorem mz397 : Zr mm397 := mz396.cnt
def mm398 : Mem := cnt mm397
theorem mc398 : mm398.2.2.2 = 177 := congrArg (· + 1) mc397
theorem mz398 : Zr mm398 := mz397.cnt
def mm399 : Mem := setR mm398 239 4 240
theorem mc399 : mm399.2.2.2 = 177 := mc398
theorem mz399 : Zr mm399 := mz398.R (by rw [mc398]; decide)
def mm400 : Mem := cnt mm399
theorem mc400 : mm400.2.2.2 = 178 := congrArg (· + 1) mc399
theorem mz400 : Zr mm400 := mz399.cnt
def mm401 : Mem := setR mm400 239 5 241
theorem mc401 : mm401.2.2.2 = 178 := mc400
theorem mz401 : Zr mm401 := mz400.R (by rw [mc400]; decide)
def mm402 : Mem := cnt mm401
theorem mc402 : mm402.2.2.2 = 179 := congrArg (· + 1) mc401
theorem mz402 : Zr mm402 := mz401.cnt
def mm403 : Mem := setR mm402 239 6 242
theorem mc403 : mm403.2.2.2 = 179 := mc402
theorem mz403 : Zr mm403 := mz402.R (by rw [mc402]; decide)
def mm404 : Mem := cnt mm403
theorem mc404 : mm404.2.2.2 = 180 := congrArg (· + 1) mc403
theorem mz404 : Zr mm404 := mz403.cnt
def mm405 : Mem := setR mm404 239 7 243
theorem mc405 : mm405.2.2.2 = 180 := mc404
theorem mz405 : Zr mm405 := mz404.R (by rw [mc404]; decide)
def mm406 : Mem := cnt mm405
theorem mc406 : mm406.2.2.2 = 181 := congrArg (· + 1) mc405
theorem mz406 : Zr mm406 := mz405.cnt
def mm407 : Mem := setR mm406 239 8 244
theorem mc407 : mm407.2.2.2 = 181 := mc406
theorem mz407 : Zr mm407 := mz406.R (by rw [mc406]; decide)
def mm408 : Mem := setR mm407 223 2 239
theorem mc408 : mm408.2.2.2 = 181 := mc407
theorem mz408 : Zr mm408 := mz407.R (by rw [mc407]; decide)
def mm409 : Mem := cnt mm408
theorem mc409 : mm409.2.2.2 = 182 := congrArg (· + 1) mc408
theorem mz409 : Zr mm409 := mz408.cnt
def mm410 : Mem := cnt mm409
theorem mc410 : mm410.2.2.2 = 183 := congrArg (· + 1) mc409
theorem mz410 : Zr mm410 := mz409.cnt
def mm411 : Mem := setR mm410 245 4 246
theorem mc411 : mm411.2.2.2 = 183 := mc410
theorem mz411 : Zr mm411 := mz410.R (by rw [mc410]; decide)
def mm412 : Mem := cnt mm411
theorem mc412 : mm412.2.2.2 = 184 := congrArg (· + 1) mc411
theorem mz412 : Zr mm412 := mz411.cnt
def mm413 : Mem := setR mm412 245 5 247
theorem mc413 : mm413.2.2.2 = 184 := mc412
theorem mz413 : Zr mm413 := mz412.R (by rw [mc412]; decide)
def mm414 : Mem := cnt mm413
theorem mc414 : mm414.2.2.2 = 185 := congrArg (· + 1) mc413
theorem mz414 : Zr mm414 := mz413.cnt
def mm415 : Mem := setR mm414 245 6 248
theorem mc415 : mm415.2.2.2 = 185 := mc414
theorem mz415 : Zr mm415 := mz414.R (by rw [mc414]; decide)
def mm416 : Mem := cnt mm415
theorem mc416 : mm416.2.2.2 = 186 := congrArg (· + 1) mc415
theorem mz416 : Zr mm416 := mz415.cnt
def mm417 : Mem := setR mm416 245 7 249
theorem mc417 : mm417.2.2.2 = 186 := mc416
theorem mz417 : Zr mm417 := mz416.R (by rw [mc416]; decide)
def mm418 : Mem := cnt mm417
theorem mc418 : mm418.2.2.2 = 187 := congrArg (· + 1) mc417
theorem mz418 : Zr mm418 := mz417.cnt
def mm419 : Mem := setR mm418 245 8 250
theorem mc419 : mm419.2.2.2 = 187 := mc418
theorem mz419 : Zr mm419 := mz418.R (by rw [mc418]; decide)
def mm420 : Mem := setR mm419 223 3 245
theorem mc420 : mm420.2.2.2 = 187 := mc419
theorem mz420 : Zr mm420 := mz419.R (by rw [mc419]; decide)
def mm421 : Mem := cnt mm420
theorem mc421 : mm421.2.2.2 = 188 := congrArg (· + 1) mc420
theorem mz421 : Zr mm421 := mz420.cnt
def mm422 : Mem := cnt mm421
theorem mc422 : mm422.2.2.2 = 189 := congrArg (· + 1) mc421
theorem mz422 : Zr mm422 := mz421.cnt
def mm423 : Mem := setR mm422 251 4 252
theorem mc423 : mm423.2.2.2 = 189 := mc422
theorem mz423 : Zr mm423 := mz422.R (by rw [mc422]; decide)
def mm424 : Mem := cnt mm423
theorem mc424 : mm424.2.2.2 = 190 := congrArg (· + 1) mc423
theorem mz424 : Zr mm424 := mz423.cnt
def mm425 : Mem := setR mm424 251 5 253
theorem mc425 : mm425.2.2.2 = 190 := mc424
theorem mz425 : Zr mm425 := mz424.R (by rw [mc424]; decide)
def mm426 : Mem := cnt mm425
theorem mc426 : mm426.2.2.2 = 191 := congrArg (· + 1) mc425
theorem mz426 : Zr mm426 := mz425.cnt
def mm427 : Mem := setR mm426 251 6 254
theorem mc427 : mm427.2.2.2 = 191 := mc426
theorem mz427 : Zr mm427 := mz426.R (by rw [mc426]; decide)
def mm428 : Mem := cnt mm427
theorem mc428 : mm428.2.2.2 = 192 := congrArg (· + 1) mc427
theorem mz428 : Zr mm428 := mz427.cnt
def mm429 : Mem := setR mm428 251 7 255
theorem mc429 : mm429.2.2.2 = 192 := mc428
theorem mz429 : Zr mm429 := mz428.R (by rw [mc428]; decide)
def mm430 : Mem := cnt mm429
theorem mc430 : mm430.2.2.2 = 193 := congrArg (· + 1) mc429
theorem mz430 : Zr mm430 := mz429.cnt
def mm431 : Mem := setR mm430 251 8 256
theorem mc431 : mm431.2.2.2 = 193 := mc430
theorem mz431 : Zr mm431 := mz430.R (by rw [mc430]; decide)
def mm432 : Mem := setR mm431 223 4 251
theorem mc432 : mm432.2.2.2 = 193 := mc431
theorem mz432 : Zr mm432 := mz431.R (by rw [mc431]; decide)
def mm433 : Mem := cnt mm432
theorem mc433 : mm433.2.2.2 = 194 := congrArg (· + 1) mc432
theorem mz433 : Zr mm433 := mz432.cnt
def mm434 : Mem := cnt mm433
theorem mc434 : mm434.2.2.2 = 195 := congrArg (· + 1) mc433
theorem mz434 : Zr mm434 := mz433.cnt
def mm435 : Mem := setR mm434 257 4 258
theorem mc435 : mm435.2.2.2 = 195 := mc434
theorem mz435 : Zr mm435 := mz434.R (by rw [mc434]; decide)
def mm436 : Mem := cnt mm435
theorem mc436 : mm436.2.2.2 = 196 := congrArg (· + 1) mc435
theorem mz436 : Zr mm436 := mz435.cnt
def mm437 : Mem := setR mm436 257 5 259
theorem mc437 : mm437.2.2.2 = 196 := mc436
theorem mz437 : Zr mm437 := mz436.R (by rw [mc436]; decide)
def mm438 : Mem := cnt mm437
theorem mc438 : mm438.2.2.2 = 197 := congrArg (· + 1) mc437
theorem mz438 : Zr mm438 := mz437.cnt
def mm439 : Mem := setR mm438 257 6 260
theorem mc439 : mm439.2.2.2 = 197 := mc438
theorem mz439 : Zr mm439 := mz438.R (by rw [mc438]; decide)
def mm440 : Mem := cnt mm439
theorem mc440 : mm440.2.2.2 = 198 := congrArg (· + 1) mc439
theorem mz440 : Zr mm440 := mz439.cnt
def mm441 : Mem := setR mm440 257 7 261
theorem mc441 : mm441.2.2.2 = 198 := mc440
theorem mz441 : Zr mm441 := mz440.R (by rw [mc440]; decide)
def mm442 : Mem := cnt mm441
theorem mc442 : mm442.2.2.2 = 199 := congrArg (· + 1) mc441
theorem mz442 : Zr mm442 := mz441.cnt
def mm443 : Mem := setR mm442 257 8 262
theorem mc443 : mm443.2.2.2 = 199 := mc442
theorem mz443 : Zr mm443 := mz442.R (by rw [mc442]; decide)
def mm444 : Mem := setR mm443 223 5 257
theorem mc444 : mm444.2.2.2 = 199 := mc443
theorem mz444 : Zr mm444 := mz443.R (by rw [mc443]; decide)
def mm445 : Mem := cnt mm444
theorem mc445 : mm445.2.2.2 = 200 := congrArg (· + 1) mc444
theorem mz445 : Zr mm445 := mz444.cnt
def mm446 : Mem := cnt mm445
theorem mc446 : mm446.2.2.2 = 201 := congrArg (· + 1) mc445
theorem mz446 : Zr mm446 := mz445.cnt
def mm447 : Mem := setR mm446 263 4 264
theorem mc447 : mm447.2.2.2 = 201 := mc446
theorem mz447 : Zr mm447 := mz446.R (by rw [mc446]; decide)
def mm448 : Mem := cnt mm447
theorem mc448 : mm448.2.2.2 = 202 := congrArg (· + 1) mc447
theorem mz448 : Zr mm448 := mz447.cnt
def mm449 : Mem := setR mm448 263 5 265
theorem mc449 : mm449.2.2.2 = 202 := mc448
theorem mz449 : Zr mm449 := mz448.R (by rw [mc448]; decide)
def mm450 : Mem := cnt mm449
theorem mc450 : mm450.2.2.2 = 203 := congrArg (· + 1) mc449
theorem mz450 : Zr mm450 := mz449.cnt
def mm451 : Mem := setR mm450 263 6 266
theorem mc451 : mm451.2.2.2 = 203 := mc450
theorem mz451 : Zr mm451 := mz450.R (by rw [mc450]; decide)
def mm452 : Mem := cnt mm451
theorem mc452 : mm452.2.2.2 = 204 := congrArg (· + 1) mc451
theorem mz452 : Zr mm452 := mz451.cnt
def mm453 : Mem := setR mm452 263 7 267
theorem mc453 : mm453.2.2.2 = 204 := mc452
theorem mz453 : Zr mm453 := mz452.R (by rw [mc452]; decide)
def mm454 : Mem := cnt mm453
theorem mc454 : mm454.2.2.2 = 205 := congrArg (· + 1) mc453
theorem mz454 : Zr mm454 := mz453.cnt
def mm455 : Mem := setR mm454 263 8 268
theorem mc455 : mm455.2.2.2 = 205 := mc454
theorem mz455 : Zr mm455 := mz454.R (by rw [mc454]; decide)
def mm456 : Mem := setR mm455 223 6 263
theorem mc456 : mm456.2.2.2 = 205 := mc455
theorem mz456 : Zr mm456 := mz455.R (by rw [mc455]; decide)
def mm457 : Mem := cnt mm456
theorem mc457 : mm457.2.2.2 = 206 := congrArg (· + 1) mc456
theorem mz457 : Zr mm457 := mz456.cnt
def mm458 : Mem := cnt mm457
theorem mc458 : mm458.2.2.2 = 207 := congrArg (· + 1) mc457
theorem mz458 : Zr mm458 := mz457.cnt
def mm459 : Mem := setR mm458 269 4 270
theorem mc459 : mm459.2.2.2 = 207 := mc458
theorem mz459 : Zr mm459 := mz458.R (by rw [mc458]; decide)
def mm460 : Mem := cnt mm459
theorem mc460 : mm460.2.2.2 = 208 := congrArg (· + 1) mc459
theorem mz460 : Zr mm460 := mz459.cnt
def mm461 : Mem := setR mm460 269 5 271
theorem mc461 : mm461.2.2.2 = 208 := mc460
theorem mz461 : Zr mm461 := mz460.R (by rw [mc460]; decide)
def mm462 : Mem := cnt mm461
theorem mc462 : mm462.2.2.2 = 209 := congrArg (· + 1) mc461
theorem mz462 : Zr mm462 := mz461.cnt
def mm463 : Mem := setR mm462 269 6 272
theorem mc463 : mm463.2.2.2 = 209 := mc462
theorem mz463 : Zr mm463 := mz462.R (by rw [mc462]; decide)
def mm464 : Mem := cnt mm463
theorem mc464 : mm464.2.2.2 = 210 := congrArg (· + 1) mc463
theorem mz464 : Zr mm464 := mz463.cnt
def mm465 : Mem := setR mm464 269 7 273
theorem mc465 : mm465.2.2.2 = 210 := mc464
theorem mz465 : Zr mm465 := mz464.R (by rw [mc464]; decide)
def mm466 : Mem := cnt mm465
theorem mc466 : mm466.2.2.2 = 211 := congrArg (· + 1) mc465
theorem mz466 : Zr mm466 := mz465.cnt
def mm467 : Mem := setR mm466 269 8 274
theorem mc467 : mm467.2.2.2 = 211 := mc466
theorem mz467 : Zr mm467 := mz466.R (by rw [mc466]; decide)
def mm468 : Mem := setR mm467 223 7 269
theorem mc468 : mm468.2.2.2 = 211 := mc467
theorem mz468 : Zr mm468 := mz467.R (by rw [mc467]; decide)
def mm469 : Mem := cnt mm468
theorem mc469 : mm469.2.2.2 = 212 := congrArg (· + 1) mc468
theorem mz469 : Zr mm469 := mz468.cnt
def mm470 : Mem := cnt mm469
theorem mc470 : mm470.2.2.2 = 213 := congrArg (· + 1) mc469
theorem mz470 : Zr mm470 := mz469.cnt
def mm471 : Mem := setR mm470 275 4 276
theorem mc471 : mm471.2.2.2 = 213 := mc470
theorem mz471 : Zr mm471 := mz470.R (by rw [mc470]; decide)
def mm472 : Mem := cnt mm471
theorem mc472 : mm472.2.2.2 = 214 := congrArg (· + 1) mc471
theorem mz472 : Zr mm472 := mz471.cnt
def mm473 : Mem := setR mm472 275 5 277
theorem mc473 : mm473.2.2.2 = 214 := mc472
theorem mz473 : Zr mm473 := mz472.R (by rw [mc472]; decide)
def mm474 : Mem := cnt mm473
theorem mc474 : mm474.2.2.2 = 215 := congrArg (· + 1) mc473
theorem mz474 : Zr mm474 := mz473.cnt
def mm475 : Mem := setR mm474 275 6 278
theorem mc475 : mm475.2.2.2 = 215 := mc474
theorem mz475 : Zr mm475 := mz474.R (by rw [mc474]; decide)
def mm476 : Mem := cnt mm475
theorem mc476 : mm476.2.2.2 = 216 := congrArg (· + 1) mc475
theorem mz476 : Zr mm476 := mz475.cnt
def mm477 : Mem := setR mm476 275 7 279
theorem mc477 : mm477.2.2.2 = 216 := mc476
theorem mz477 : Zr mm477 := mz476.R (by rw [mc476]; decide)
def mm478 : Mem := cnt mm477
theorem mc478 : mm478.2.2.2 = 217 := congrArg (· + 1) mc477
theorem mz478 : Zr mm478 := mz477.cnt
def mm479 : Mem := setR mm478 275 8 280
theorem mc479 : mm479.2.2.2 = 217 := mc478
theorem mz479 : Zr mm479 := mz478.R (by rw [mc478]; decide)
def mm480 : Mem := setR mm479 223 8 275
theorem mc480 : mm480.2.2.2 = 217 := mc479
theorem mz480 : Zr mm480 := mz479.R (by rw [mc479]; decide)
def mm481 : Mem := cnt mm480
theorem mc481 : mm481.2.2.2 = 218 := congrArg (· + 1) mc480
theorem mz481 : Zr mm481 := mz480.cnt
def mm482 : Mem := cnt mm481
theorem mc482 : mm482.2.2.2 = 219 := congrArg (· + 1) mc481
theorem mz482 : Zr mm482 := mz481.cnt
def mm483 : Mem := setR mm482 281 4 282
theorem mc483 : mm483.2.2.2 = 219 := mc482
theorem mz483 : Zr mm483 := mz482.R (by rw [mc482]; decide)
def mm484 : Mem := cnt mm483
theorem mc484 : mm484.2.2.2 = 220 := congrArg (· + 1) mc483
theorem mz484 : Zr mm484 := mz483.cnt
def mm485 : Mem := setR mm484 281 5 283
theorem mc485 : mm485.2.2.2 = 220 := mc484
theorem mz485 : Zr mm485 := mz484.R (by rw [mc484]; decide)
def mm486 : Mem := cnt mm485
theorem mc486 : mm486.2.2.2 = 221 := congrArg (· + 1) mc485
theorem mz486 : Zr mm486 := mz485.cnt
def mm487 : Mem := setR mm486 281 6 284
theorem mc487 : mm487.2.2.2 = 221 := mc486
theorem mz487 : Zr mm487 := mz486.R (by rw [mc486]; decide)
def mm488 : Mem := cnt mm487
theorem mc488 : mm488.2.2.2 = 222 := congrArg (· + 1) mc487
theorem mz488 : Zr mm488 := mz487.cnt
def mm489 : Mem := setR mm488 281 7 285
theorem mc489 : mm489.2.2.2 = 222 := mc488
theorem mz489 : Zr mm489 := mz488.R (by rw [mc488]; decide)
def mm490 : Mem := cnt mm489
theorem mc490 : mm490.2.2.2 = 223 := congrArg (· + 1) mc489
theorem mz490 : Zr mm490 := mz489.cnt
def mm491 : Mem := setR mm490 281 8 286
theorem mc491 : mm491.2.2.2 = 223 := mc490
theorem mz491 : Zr mm491 := mz490.R (by rw [mc490]; decide)
def mm492 : Mem := setR mm491 223 9 281
theorem mc492 : mm492.2.2.2 = 223 := mc491
theorem mz492 : Zr mm492 := mz491.R (by rw [mc491]; decide)
def mm493 : Mem := cnt mm492
theorem mc493 : mm493.2.2.2 = 224 := congrArg (· + 1) mc492
theorem mz493 : Zr mm493 := mz492.cnt
def mm494 : Mem := cnt mm493
theorem mc494 : mm494.2.2.2 = 225 := congrArg (· + 1) mc493
theorem mz494 : Zr mm494 := mz493.cnt
def mm495 : Mem := setR mm494 287 4 288
theorem mc495 : mm495.2.2.2 = 225 := mc494
theorem mz495 : Zr mm495 := mz494.R (by rw [mc494]; decide)
def mm496 : Mem := cnt mm495
theorem mc496 : mm496.2.2.2 = 226 := congrArg (· + 1) mc495
theorem mz496 : Zr mm496 := mz495.cnt
def mm497 : Mem := setR mm496 287 5 289
theorem mc497 : mm497.2.2.2 = 226 := mc496
theorem mz497 : Zr mm497 := mz496.R (by rw [mc496]; decide)
def mm498 : Mem := cnt mm497
theorem mc498 : mm498.2.2.2 = 227 := congrArg (· + 1) mc497
theorem mz498 : Zr mm498 := mz497.cnt
def mm499 : Mem := setR mm498 287 6 290
theorem mc499 : mm499.2.2.2 = 227 := mc498
theorem mz499 : Zr mm499 := mz498.R (by rw [mc498]; decide)
def mm500 : Mem := cnt mm499
theorem mc500 : mm500.2.2.2 = 228 := congrArg (· + 1) mc499
theorem mz500 : Zr mm500 := mz499.cnt
def mm501 : Mem := setR mm500 287 7 291
theorem mc501 : mm501.2.2.2 = 228 := mc500
theorem mz501 : Zr mm501 := mz500.R (by rw [mc500]; decide)
def mm502 : Mem := cnt mm501
theorem mc502 : mm502.2.2.2 = 229 := congrArg (· + 1) mc501
theorem mz502 : Zr mm502 := mz501.cnt
def mm503 : Mem := setR mm502 287 8 292
theorem mc503 : mm503.2.2.2 = 229 := mc502
theorem mz503 : Zr mm503 := mz502.R (by rw [mc502]; decide)
def mm504 : Mem := setR mm503 223 10 287
theorem mc504 : mm504.2.2.2 = 229 := mc503
theorem mz504 : Zr mm504 := mz503.R (by rw [mc503]; decide)
def mm505 : Mem := cnt mm504
theorem mc505 : mm505.2.2.2 = 230 := congrArg (· + 1) mc504
theorem mz505 : Zr mm505 := mz504.cnt
def mm506 : Mem := cnt mm505
theorem mc506 : mm506.2.2.2 = 231 := congrArg (· + 1) mc505
theorem mz506 : Zr mm506 := mz505.cnt
def mm507 : Mem := setR mm506 293 4 294
theorem mc507 : mm507.2.2.2 = 231 := mc506
theorem mz507 : Zr mm507 := mz506.R (by rw [mc506]; decide)
def mm508 : Mem := cnt mm507
theorem mc508 : mm508.2.2.2 = 232 := congrArg (· + 1) mc507
theorem mz508 : Zr mm508 := mz507.cnt
def mm509 : Mem := setR mm508 293 5 295
theorem mc509 : mm509.2.2.2 = 232 := mc508
theorem mz509 : Zr mm509 := mz508.R (by rw [mc508]; decide)
def mm510 : Mem := cnt mm509
theorem mc510 : mm510.2.2.2 = 233 := congrArg (· + 1) mc509
theorem mz510 : Zr mm510 := mz509.cnt
def mm511 : Mem := setR mm510 293 6 296
theorem mc511 : mm511.2.2.2 = 233 := mc510
theorem mz511 : Zr mm511 := mz510.R (by rw [mc510]; decide)
def mm512 : Mem := cnt mm511
theorem mc512 : mm512.2.2.2 = 234 := congrArg (· + 1) mc511
theorem mz512 : Zr mm512 := mz511.cnt
def mm513 : Mem := setR mm512 293 7 297
theorem mc513 : mm513.2.2.2 = 234 := mc512
theorem mz513 : Zr mm513 := mz512.R (by rw [mc512]; decide)
def mm514 : Mem := cnt mm513
theorem mc514 : mm514.2.2.2 = 235 := congrArg (· + 1) mc513
theorem mz514 : Zr mm514 := mz513.cnt
def mm515 : Mem := setR mm514 293 8 298
theorem mc515 : mm515.2.2.2 = 235 := mc514
theorem mz515 : Zr mm515 := mz514.R (by rw [mc514]; decide)
def mm516 : Mem := setR mm515 223 11 293
theorem mc516 : mm516.2.2.2 = 235 := mc515
theorem mz516 : Zr mm516 := mz515.R (by rw [mc515]; decide)
def mm517 : Mem := cnt mm516
theorem mc517 : mm517.2.2.2 = 236 := congrArg (· + 1) mc516
theorem mz517 : Zr mm517 := mz516.cnt
def mm518 : Mem := cnt mm517
theorem mc518 : mm518.2.2.2 = 237 := congrArg (· + 1) mc517
theorem mz518 : Zr mm518 := mz517.cnt
def mm519 : Mem := setR mm518 299 4 300
theorem mc519 : mm519.2.2.2 = 237 := mc518
theorem mz519 : Zr mm519 := mz518.R (by rw [mc518]; decide)
def mm520 : Mem := cnt mm519
theorem mc520 : mm520.2.2.2 = 238 := congrArg (· + 1) mc519
theorem mz520 : Zr mm520 := mz519.cnt
def mm521 : Mem := setR mm520 299 5 301
theorem mc521 : mm521.2.2.2 = 238 := mc520
theorem mz521 : Zr mm521 := mz520.R (by rw [mc520]; decide)
def mm522 : Mem := cnt mm521
theorem mc522 : mm522.2.2.2 = 239 := congrArg (· + 1) mc521
theorem mz522 : Zr mm522 := mz521.cnt
def mm523 : Mem := setR mm522 299 6 302
theorem mc523 : mm523.2.2.2 = 239 := mc522
theorem mz523 : Zr mm523 := mz522.R (by rw [mc522]; decide)
def mm524 : Mem := cnt mm523
theorem mc524 : mm524.2.2.2 = 240 := congrArg (· + 1) mc523
theorem mz524 : Zr mm524 := mz523.cnt
def mm525 : Mem := setR mm524 299 7 303
theorem mc525 : mm525.2.2.2 = 240 := mc524
theorem mz525 : Zr mm525 := mz524.R (by rw [mc524]; decide)
def mm526 : Mem := cnt mm525
theorem mc526 : mm526.2.2.2 = 241 := congrArg (· + 1) mc525
theorem mz526 : Zr mm526 := mz525.cnt
def mm527 : Mem := setR mm526 299 8 304
theorem mc527 : mm527.2.2.2 = 241 := mc526
theorem mz527 : Zr mm527 := mz526.R (by rw [mc526]; decide)
def mm528 : Mem := setR mm527 224 0 299
theorem mc528 : mm528.2.2.2 = 241 := mc527
theorem mz528 : Zr mm528 := mz527.R (by rw [mc527]; decide)
def mm529 : Mem := cnt mm528
theorem mc529 : mm529.2.2.2 = 242 := congrArg (· + 1) mc528
theorem mz529 : Zr mm529 := mz528.cnt
def mm530 : Mem := cnt mm529
theorem mc530 : mm530.2.2.2 = 243 := congrArg (· + 1) mc529
theorem mz530 : Zr mm530 := mz529.cnt
def mm531 : Mem := setR mm530 305 4 306
theorem mc531 : mm531.2.2.2 = 243 := mc530
theorem mz531 : Zr mm531 := mz530.R (by rw [mc530]; decide)
def mm532 : Mem := cnt mm531
theorem mc532 : mm532.2.2.2 = 244 := congrArg (· + 1) mc531
theorem mz532 : Zr mm532 := mz531.cnt
def mm533 : Mem := setR mm532 305 5 307
theorem mc533 : mm533.2.2.2 = 244 := mc532
theorem mz533 : Zr mm533 := mz532.R (by rw [mc532]; decide)
def mm534 : Mem := cnt mm533
theorem mc534 : mm534.2.2.2 = 245 := congrArg (· + 1) mc533
theorem mz534 : Zr mm534 := mz533.cnt
def mm535 : Mem := setR mm534 305 6 308
theorem mc535 : mm535.2.2.2 = 245 := mc534
theorem mz535 : Zr mm535 := mz534.R (by rw [mc534]; decide)
def mm536 : Mem := cnt mm535
theorem mc536 : mm536.2.2.2 = 246 := congrArg (· + 1) mc535
theorem mz536 : Zr mm536 := mz535.cnt
def mm537 : Mem := setR mm536 305 7 309
theorem mc537 : mm537.2.2.2 = 246 := mc536
theorem mz537 : Zr mm537 := mz536.R (by rw [mc536]; decide)
def mm538 : Mem := cnt mm537
theorem mc538 : mm538.2.2.2 = 247 := congrArg (· + 1) mc537
theorem mz538 : Zr mm538 := mz537.cnt
def mm539 : Mem := setR mm538 305 8 310
theorem mc539 : mm539.2.2.2 = 247 := mc538
theorem mz539 : Zr mm539 := mz538.R (by rw [mc538]; decide)
def mm540 : Mem := setR mm539 224 1 305
theorem mc540 : mm540.2.2.2 = 247 := mc539
theorem mz540 : Zr mm540 := mz539.R (by rw [mc539]; decide)
def mm541 : Mem := cnt mm540
theorem mc541 : mm541.2.2.2 = 248 := congrArg (· + 1) mc540
theorem mz541 : Zr mm541 := mz540.cnt
def mm542 : Mem := cnt mm541
theorem mc542 : mm542.2.2.2 = 249 := congrArg (· + 1) mc541
theorem mz542 : Zr mm542 := mz541.cnt
def mm543 : Mem := setR mm542 311 1 312
theorem mc543 : mm543.2.2.2 = 249 := mc542
theorem mz543 : Zr mm543 := mz542.R (by rw [mc542]; decide)
def mm544 : Mem := cnt mm543
theorem mc544 : mm544.2.2.2 = 250 := congrArg (· + 1) mc543
theorem mz544 : Zr mm544 := mz543.cnt
def mm545 : Mem := setR mm544 311 11 313
theorem mc545 : mm545.2.2.2 = 250 := mc544
theorem mz545 : Zr mm545 := mz544.R (by rw [mc544]; decide)
def mm546 : Mem := cnt mm545
theorem mc546 : mm546.2.2.2 = 251 := congrArg (· + 1) mc545
theorem mz546 : Zr mm546 := mz545.cnt
def mm547 : Mem := setR mm546 311 12 314
theorem mc547 : mm547.2.2.2 = 251 := mc546
theorem mz547 : Zr mm547 := mz546.R (by rw [mc546]; decide)
def mm548 : Mem := cnt mm547
theorem mc548 : mm548.2.2.2 = 252 := congrArg (· + 1) mc547
theorem mz548 : Zr mm548 := mz547.cnt
def mm549 : Mem := setR mm548 311 13 315
theorem mc549 : mm549.2.2.2 = 252 := mc548
theorem mz549 : Zr mm549 := mz548.R (by rw [mc548]; decide)
def mm550 : Mem := cnt mm549
theorem mc550 : mm550.2.2.2 = 253 := congrArg (· + 1) mc549
theorem mz550 : Zr mm550 := mz549.cnt
def mm551 : Mem := setR mm550 311 14 316
theorem mc551 : mm551.2.2.2 = 253 := mc550
theorem mz551 : Zr mm551 := mz550.R (by rw [mc550]; decide)
def mm552 : Mem := cnt mm551
theorem mc552 : mm552.2.2.2 = 254 := congrArg (· + 1) mc551
theorem mz552 : Zr mm552 := mz551.cnt
def mm553 : Mem := setR mm552 311 15 317
theorem mc553 : mm553.2.2.2 = 254 := mc552
theorem mz553 : Zr mm553 := mz552.R (by rw [mc552]; decide)
def mm554 : Mem := cnt mm553
theorem mc554 : mm554.2.2.2 = 255 := congrArg (· + 1) mc553
theorem mz554 : Zr mm554 := mz553.cnt
def mm555 : Mem := setR mm554 311 16 318
theorem mc555 : mm555.2.2.2 = 255 := mc554
theorem mz555 : Zr mm555 := mz554.R (by rw [mc554]; decide)
def mm556 : Mem := cnt mm555
theorem mc556 : mm556.2.2.2 = 256 := congrArg (· + 1) mc555
theorem mz556 : Zr mm556 := mz555.cnt
def mm557 : Mem := setR mm556 311 17 319
theorem mc557 : mm557.2.2.2 = 256 := mc556
theorem mz557 : Zr mm557 := mz556.R (by rw [mc556]; decide)
def mm558 : Mem := cnt mm557
theorem mc558 : mm558.2.2.2 = 257 := congrArg (· + 1) mc557
theorem mz558 : Zr mm558 := mz557.cnt
def mm559 : Mem := setR mm558 311 18 320
theorem mc559 : mm559.2.2.2 = 257 := mc558
theorem mz559 : Zr mm559 := mz558.R (by rw [mc558]; decide)
def mm560 : Mem := cnt mm559
theorem mc560 : mm560.2.2.2 = 258 := congrArg (· + 1) mc559
theorem mz560 : Zr mm560 := mz559.cnt
def mm561 : Mem := setR mm560 311 19 321
theorem mc561 : mm561.2.2.2 = 258 := mc560
theorem mz561 : Zr mm561 := mz560.R (by rw [mc560]; decide)
def mm562 : Mem := cnt mm561
theorem mc562 : mm562.2.2.2 = 259 := congrArg (· + 1) mc561
theorem mz562 : Zr mm562 := mz561.cnt
def mm563 : Mem := setR mm562 311 20 322
theorem mc563 : mm563.2.2.2 = 259 := mc562
theorem mz563 : Zr mm563 := mz562.R (by rw [mc562]; decide)
def mm564 : Mem := cnt mm563
theorem mc564 : mm564.2.2.2 = 260 := congrArg (· + 1) mc563
theorem mz564 : Zr mm564 := mz563.cnt
def mm565 : Mem := setR mm564 311 21 323
theorem mc565 : mm565.2.2.2 = 260 := mc564
theorem mz565 : Zr mm565 := mz564.R (by rw [mc564]; decide)
def mm566 : Mem := cnt mm565
theorem mc566 : mm566.2.2.2 = 261 := congrArg (· + 1) mc565
theorem mz566 : Zr mm566 := mz565.cnt
def mm567 : Mem := setR mm566 311 22 324
theorem mc567 : mm567.2.2.2 = 261 := mc566
theorem mz567 : Zr mm567 := mz566.R (by rw [mc566]; decide)
def mm568 : Mem := cnt mm567
theorem mc568 : mm568.2.2.2 = 262 := congrArg (· + 1) mc567
theorem mz568 : Zr mm568 := mz567.cnt
def mm569 : Mem := setR mm568 311 23 325
theorem mc569 : mm569.2.2.2 = 262 := mc568
theorem mz569 : Zr mm569 := mz568.R (by rw [mc568]; decide)
def mm570 : Mem := cnt mm569
theorem mc570 : mm570.2.2.2 = 263 := congrArg (· + 1) mc569
theorem mz570 : Zr mm570 := mz569.cnt
def mm571 : Mem := setR mm570 311 24 326
theorem mc571 : mm571.2.2.2 = 263 := mc570
theorem mz571 : Zr mm571 := mz570.R (by rw [mc570]; decide)
def mm572 : Mem := cnt mm571
theorem mc572 : mm572.2.2.2 = 264 := congrArg (· + 1) mc571
theorem mz572 : Zr mm572 := mz571.cnt
def mm573 : Mem := setR mm572 311 25 327
theorem mc573 : mm573.2.2.2 = 264 := mc572
theorem mz573 : Zr mm573 := mz572.R (by rw [mc572]; decide)
def mm574 : Mem := cnt mm573
theorem mc574 : mm574.2.2.2 = 265 := congrArg (· + 1) mc573
theorem mz574 : Zr mm574 := mz573.cnt
def mm575 : Mem := setR mm574 311 26 328
theorem mc575 : mm575.2.2.2 = 265 := mc574
theorem mz575 : Zr mm575 := mz574.R (by rw [mc574]; decide)
def mm576 : Mem := cnt mm575
theorem mc576 : mm576.2.2.2 = 266 := congrArg (· + 1) mc575
theorem mz576 : Zr mm576 := mz575.cnt
def mm577 : Mem := setR mm576 311 27 329
theorem mc577 : mm577.2.2.2 = 266 := mc576
theorem mz577 : Zr mm577 := mz576.R (by rw [mc576]; decide)
def mm578 : Mem := cnt mm577
theorem mc578 : mm578.2.2.2 = 267 := congrArg (· + 1) mc577
theorem mz578 : Zr mm578 := mz577.cnt
def mm579 : Mem := setR mm578 311 28 330
theorem mc579 : mm579.2.2.2 = 267 := mc578
theorem mz579 : Zr mm579 := mz578.R (by rw [mc578]; decide)
def mm580 : Mem := cnt mm579
theorem mc580 : mm580.2.2.2 = 268 := congrArg (· + 1) mc579
theorem mz580 : Zr mm580 := mz579.cnt
def mm581 : Mem := setR mm580 311 29 331
theorem mc581 : mm581.2.2.2 = 268 := mc580
theorem mz581 : Zr mm581 := mz580.R (by rw [mc580]; decide)
def mm582 : Mem := cnt mm581
theorem mc582 : mm582.2.2.2 = 269 := congrArg (· + 1) mc581
theorem mz582 : Zr mm582 := mz581.cnt
def mm583 : Mem := setR mm582 311 30 332
theorem mc583 : mm583.2.2.2 = 269 := mc582
theorem mz583 : Zr mm583 := mz582.R (by rw [mc582]; decide)
def mm584 : Mem := cnt mm583
theorem mc584 : mm584.2.2.2 = 270 := congrArg (· + 1) mc583
theorem mz584 : Zr mm584 := mz583.cnt
def mm585 : Mem := setR mm584 311 31 333
theorem mc585 : mm585.2.2.2 = 270 := mc584
theorem mz585 : Zr mm585 := mz584.R (by rw [mc584]; decide)
def mm586 : Mem := cnt mm585
theorem mc586 : mm586.2.2.2 = 271 := congrArg (· + 1) mc585
theorem mz586 : Zr mm586 := mz585.cnt
def mm587 : Mem := setR mm586 311 32 334
theorem mc587 : mm587.2.2.2 = 271 := mc586
theorem mz587 : Zr mm587 := mz586.R (by rw [mc586]; decide)
def mm588 : Mem := cnt mm587
theorem mc588 : mm588.2.2.2 = 272 := congrArg (· + 1) mc587
theorem mz588 : Zr mm588 := mz587.cnt
def mm589 : Mem := setR mm588 311 33 335
theorem mc589 : mm589.2.2.2 = 272 := mc588
theorem mz589 : Zr mm589 := mz588.R (by rw [mc588]; decide)
def mm590 : Mem := cnt mm589
theorem mc590 : mm590.2.2.2 = 273 := congrArg (· + 1) mc589
theorem mz590 : Zr mm590 := mz589.cnt
def mm591 : Mem := setR mm590 311 34 336
theorem mc591 : mm591.2.2.2 = 273 := mc590
theorem mz591 : Zr mm591 := mz590.R (by rw [mc590]; decide)
def mm592 : Mem := cnt mm591
theorem mc592 : mm592.2.2.2 = 274 := congrArg (· + 1) mc591
theorem mz592 : Zr mm592 := mz591.cnt
def mm593 : Mem := setR mm592 311 35 337
theorem mc593 : mm593.2.2.2 = 274 := mc592
theorem mz593 : Zr mm593 := mz592.R (by rw [mc592]; decide)
def mm594 : Mem := cnt mm593
theorem mc594 : mm594.2.2.2 = 275 := congrArg (· + 1) mc593
theorem mz594 : Zr mm594 := mz593.cnt
def mm595 : Mem := setR mm594 311 36 338
theorem mc595 : mm595.2.2.2 = 275 := mc594
theorem mz595 : Zr mm595 := mz594.R (by rw [mc594]; decide)
def mm596 : Mem := cnt mm595
theorem mc596 : mm596.2.2.2 = 276 := congrArg (· + 1) mc595
theorem mz596 : Zr mm596 := mz595.cnt
def mm597 : Mem := setR mm596 311 37 339
theorem mc597 : mm597.2.2.2 = 276 := mc596
theorem mz597 : Zr mm597 := mz596.R (by rw [mc596]; decide)
def mm598 : Mem := cnt mm597
theorem mc598 : mm598.2.2.2 = 277 := congrArg (· + 1) mc597
theorem mz598 : Zr mm598 := mz597.cnt
def mm599 : Mem := setR mm598 311 38 340
theorem mc599 : mm599.2.2.2 = 277 := mc598
theorem mz599 : Zr mm599 := mz598.R (by rw [mc598]; decide)
def mm600 : Mem := cnt mm599
theorem mc600 : mm600.2.2.2 = 278 := congrArg (· + 1) mc599
theorem mz600 : Zr mm600 := mz599.cnt
def mm601 : Mem := setR mm600 311 39 341
theorem mc601 : mm601.2.2.2 = 278 := mc600
theorem mz601 : Zr mm601 := mz600.R (by rw [mc600]; decide)
def mm602 : Mem := cnt mm601
theorem mc602 : mm602.2.2.2 = 279 := congrArg (· + 1) mc601
theorem mz602 : Zr mm602 := mz601.cnt
def mm603 : Mem := setR mm602 311 41 342
theorem mc603 : mm603.2.2.2 = 279 := mc602
theorem mz603 : Zr mm603 := mz602.R (by rw [mc602]; decide)
def mm604 : Mem := cnt mm603
theorem mc604 : mm604.2.2.2 = 280 := congrArg (· + 1) mc603
theorem mz604 : Zr mm604 := mz603.cnt
def mm605 : Mem := setR mm604 311 42 343
theorem mc605 : mm605.2.2.2 = 280 := mc604
theorem mz605 : Zr mm605 := mz604.R (by rw [mc604]; decide)
def mm606 : Mem := cnt mm605
theorem mc606 : mm606.2.2.2 = 281 := congrArg (· + 1) mc605
theorem mz606 : Zr mm606 := mz605.cnt
def mm607 : Mem := setR mm606 311 43 344
theorem mc607 : mm607.2.2.2 = 281 := mc606
theorem mz607 : Zr mm607 := mz606.R (by rw [mc606]; decide)
def mm608 : Mem := cnt mm607
theorem mc608 : mm608.2.2.2 = 282 := congrArg (· + 1) mc607
theorem mz608 : Zr mm608 := mz607.cnt
def mm609 : Mem := setR mm608 311 45 345
theorem mc609 : mm609.2.2.2 = 282 := mc608
theorem mz609 : Zr mm609 := mz608.R (by rw [mc608]; decide)
def mm610 : Mem := setI mm609 314 0 60
theorem mc610 : mm610.2.2.2 = 282 := mc609
theorem mz610 : Zr mm610 := mz609.I (by rw [mc609]; decide)
def mm611 : Mem := setI mm610 314 1 0
theorem mc611 : mm611.2.2.2 = 282 := mc610
theorem mz611 : Zr mm611 := mz610.I (by rw [mc610]; decide)
def mm612 : Mem := setI mm611 314 2 1000
theorem mc612 : mm612.2.2.2 = 282 := mc611
theorem mz612 : Zr mm612 := mz611.I (by rw [mc611]; decide)
def mm613 : Mem := setI mm612 314 3 1
theorem mc613 : mm613.2.2.2 = 282 := mc612
theorem mz613 : Zr mm613 := mz612.I (by rw [mc612]; decide)
def mm614 : Mem := setI mm613 313 0 0
theorem mc614 : mm614.2.2.2 = 282 := mc613
theorem mz614 : Zr mm614 := mz613.I (by rw [mc613]; decide)
def mm615 : Mem := setI mm614 313 1 0
theorem mc615 : mm615.2.2.2 = 282 := mc614
theorem mz615 : Zr mm615 := mz614.I (by rw [mc614]; decide)
def mm616 : Mem := setI mm615 313 2 0
theorem mc616 : mm616.2.2.2 = 282 := mc615
theorem mz616 : Zr mm616 := mz615.I (by rw [mc615]; decide)
def mm617 : Mem := setI mm616 313 3 0
theorem mc617 : mm617.2.2.2 = 282 := mc616
theorem mz617 : Zr mm617 := mz616.I (by rw [mc616]; decide)
def mm618 : Mem := setI mm617 313 4 0
theorem mc618 : mm618.2.2.2 = 282 := mc617
theorem mz618 : Zr mm618 := mz617.I (by rw [mc617]; decide)
def mm619 : Mem := setI mm618 313 5 0
theorem mc619 : mm619.2.2.2 = 282 := mc618
theorem mz619 : Zr mm619 := mz618.I (by rw [mc618]; decide)
def mm620 : Mem := setI mm619 315 0 0
theorem mc620 : mm620.2.2.2 = 282 := mc619
theorem mz620 : Zr mm620 := mz619.I (by rw [mc619]; decide)
def mm621 : Mem := setI mm620 315 1 0
theorem mc621 : mm621.2.2.2 = 282 := mc620
theorem mz621 : Zr mm621 := mz620.I (by rw [mc620]; decide)
def mm622 : Mem := setI mm621 315 2 0
theorem mc622 : mm622.2.2.2 = 282 := mc621
theorem mz622 : Zr mm622 := mz621.I (by rw [mc621]; decide)
def mm623 : Mem := setI mm622 315 3 0
theorem mc623 : mm623.2.2.2 = 282 := mc622
theorem mz623 : Zr mm623 := mz622.I (by rw [mc622]; decide)
def mm624 : Mem := cnt mm623
theorem mc624 : mm624.2.2.2 = 283 := congrArg (· + 1) mc623
theorem mz624 : Zr mm624 := mz623.cnt
