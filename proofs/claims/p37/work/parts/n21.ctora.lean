/-! constructors: facts -/
theorem q_oc : Cond.code Lib.objectInit ⟨#[0xb1]⟩ 1 none ∈ tblG := tblG_of 44 (by decide +kernel) rfl
theorem dz_X10 : ∀ j, j < 14 → defaultValue (tyX10 j) = vp_V ((kd 8).map dfv) j := by decide +kernel
theorem q_37 : Cond.classLink RL 26 RX10 ∈ tblG := tblG_of 37 (by decide +kernel) rfl
theorem q_38 : Cond.instantiable RX10 14 ∈ tblG := tblG_of 38 (by decide +kernel) rfl
theorem q_42 : Cond.methodLink RX10 1 ⟨"java/lang/Object", "<init>", "()V"⟩ ∈ tblG := tblG_of 42 (by decide +kernel) rfl
theorem q_43 : Cond.instanceMethod ⟨"java/lang/Object", "<init>", "()V"⟩ ∈ tblG := tblG_of 43 (by decide +kernel) rfl
theorem dz_X9 : ∀ j, j < 14 → defaultValue (tyX9 j) = vp_V ((kd 7).map dfv) j := by decide +kernel
theorem q_45 : Cond.classLink RX10 13 RX9 ∈ tblG := tblG_of 45 (by decide +kernel) rfl
theorem q_46 : Cond.instantiable RX9 14 ∈ tblG := tblG_of 46 (by decide +kernel) rfl
theorem sh_66 : shc 66 = 8 := by decide +kernel
theorem q_50 : Cond.methodLink RX9 3 ⟨"java/lang/Object", "<init>", "()V"⟩ ∈ tblG := tblG_of 50 (by decide +kernel) rfl
theorem sh_67 : shc 67 = 20 := by decide +kernel
theorem sl_67 : shl 67 = 5 := by decide +kernel
theorem q_200 : Cond.fieldLink RX9 9 "ReplayBooth$Told" "lateLeast" "[I" ∈ tblG := tblG_of 200 (by decide +kernel) rfl
theorem sh_68 : shc 68 = 20 := by decide +kernel
theorem sl_68 : shl 68 = 5 := by decide +kernel
theorem q_203 : Cond.fieldLink RX9 15 "ReplayBooth$Told" "lateMost" "[I" ∈ tblG := tblG_of 203 (by decide +kernel) rfl
theorem dz_X2 : ∀ j, j < 2 → defaultValue (tyX2 j) = vp_V ((kd 1).map dfv) j := by decide +kernel
theorem q_51 : Cond.classLink RX9 18 RX2 ∈ tblG := tblG_of 51 (by decide +kernel) rfl
theorem q_52 : Cond.instantiable RX2 2 ∈ tblG := tblG_of 52 (by decide +kernel) rfl
theorem sh_69 : shc 69 = 2 := by decide +kernel
theorem q_56 : Cond.methodLink RX2 5 ⟨"java/lang/Object", "<init>", "()V"⟩ ∈ tblG := tblG_of 56 (by decide +kernel) rfl
theorem sh_70 : shc 70 = 20 := by decide +kernel
theorem sl_70 : shl 70 = 100 := by decide +kernel
theorem q_55 : Cond.code yX2_init cX2_init 1 none ∈ tblG := tblG_of 55 (by decide +kernel) rfl
theorem q_54 : Cond.instanceMethod yX2_init ∈ tblG := tblG_of 54 (by decide +kernel) rfl
theorem sh_71 : shc 71 = 20 := by decide +kernel
theorem sl_71 : shl 71 = 4 := by decide +kernel
theorem q_217 : Cond.fieldLink RX9 25 "ReplayBooth$Told" "challenges" "[I" ∈ tblG := tblG_of 217 (by decide +kernel) rfl
theorem q_68 : Cond.classLink RX9 28 RX5 ∈ tblG := tblG_of 68 (by decide +kernel) rfl
theorem sh_72 : shc 72 = 24 := by decide +kernel
theorem sl_72 : shl 72 = 5 := by decide +kernel
theorem q_223 : Cond.fieldLink RX9 30 "ReplayBooth$Told" "kind" "[LReplayBooth$Kind;" ∈ tblG := tblG_of 223 (by decide +kernel) rfl
theorem q_70 : Cond.classLink RX9 34 RX1 ∈ tblG := tblG_of 70 (by decide +kernel) rfl
theorem sh_73 : shc 73 = 25 := by decide +kernel
theorem sl_73 : shl 73 = 3 := by decide +kernel
theorem q_229 : Cond.fieldLink RX9 36 "ReplayBooth$Told" "board" "[LReplayBooth$Board;" ∈ tblG := tblG_of 229 (by decide +kernel) rfl
theorem q_72 : Cond.classLink RX9 40 RX6 ∈ tblG := tblG_of 72 (by decide +kernel) rfl
theorem sh_74 : shc 74 = 26 := by decide +kernel
theorem sl_74 : shl 74 = 8 := by decide +kernel
theorem q_234 : Cond.fieldLink RX9 42 "ReplayBooth$Told" "play" "[LReplayBooth$Play;" ∈ tblG := tblG_of 234 (by decide +kernel) rfl
theorem sh_75 : shc 75 = 20 := by decide +kernel
theorem sl_75 : shl 75 = 4 := by decide +kernel
theorem dz_X5 : ∀ j, j < 6 → defaultValue (tyX5 j) = vp_V ((kd 4).map dfv) j := by decide +kernel
theorem q_74 : Cond.instantiable RX5 6 ∈ tblG := tblG_of 74 (by decide +kernel) rfl
theorem q_12 : Cond.initialized RX5 ∈ tblG := tblG_of 12 (by decide +kernel) rfl
theorem sh_76 : shc 76 = 5 := by decide +kernel
theorem q_78 : Cond.methodLink RX5 3 ⟨"java/lang/Object", "<init>", "()V"⟩ ∈ tblG := tblG_of 78 (by decide +kernel) rfl
theorem sh_77 : shc 77 = 20 := by decide +kernel
theorem sl_77 : shl 77 = 3 := by decide +kernel
theorem q_84 : Cond.fieldLink RX5 9 "ReplayBooth$Kind" "first" "[I" ∈ tblG := tblG_of 84 (by decide +kernel) rfl
theorem sh_78 : shc 78 = 20 := by decide +kernel
theorem sl_78 : shl 78 = 3 := by decide +kernel
theorem q_87 : Cond.fieldLink RX5 15 "ReplayBooth$Kind" "second" "[I" ∈ tblG := tblG_of 87 (by decide +kernel) rfl
theorem q_77 : Cond.code yX5_init cX5_init 1 none ∈ tblG := tblG_of 77 (by decide +kernel) rfl
theorem q_76 : Cond.instanceMethod yX5_init ∈ tblG := tblG_of 76 (by decide +kernel) rfl
theorem sh_79 : shc 79 = 5 := by decide +kernel
theorem sh_80 : shc 80 = 20 := by decide +kernel
theorem sl_80 : shl 80 = 3 := by decide +kernel
theorem sh_81 : shc 81 = 20 := by decide +kernel
theorem sl_81 : shl 81 = 3 := by decide +kernel
theorem sh_82 : shc 82 = 5 := by decide +kernel
theorem sh_83 : shc 83 = 20 := by decide +kernel
theorem sl_83 : shl 83 = 3 := by decide +kernel
theorem sh_84 : shc 84 = 20 := by decide +kernel
theorem sl_84 : shl 84 = 3 := by decide +kernel
theorem sh_85 : shc 85 = 5 := by decide +kernel
theorem sh_86 : shc 86 = 20 := by decide +kernel
theorem sl_86 : shl 86 = 3 := by decide +kernel
theorem sh_87 : shc 87 = 20 := by decide +kernel
theorem sl_87 : shl 87 = 3 := by decide +kernel
theorem sh_88 : shc 88 = 5 := by decide +kernel
theorem sh_89 : shc 89 = 20 := by decide +kernel
theorem sl_89 : shl 89 = 3 := by decide +kernel
theorem sh_90 : shc 90 = 20 := by decide +kernel
theorem sl_90 : shl 90 = 3 := by decide +kernel
theorem dz_X1 : ∀ j, j < 3 → defaultValue (tyX1 j) = vp_V ((kd 0).map dfv) j := by decide +kernel
theorem q_103 : Cond.instantiable RX1 3 ∈ tblG := tblG_of 103 (by decide +kernel) rfl
theorem q_13 : Cond.initialized RX1 ∈ tblG := tblG_of 13 (by decide +kernel) rfl
theorem sh_91 : shc 91 = 1 := by decide +kernel
theorem q_107 : Cond.methodLink RX1 3 ⟨"java/lang/Object", "<init>", "()V"⟩ ∈ tblG := tblG_of 107 (by decide +kernel) rfl
theorem sh_92 : shc 92 = 20 := by decide +kernel
theorem sl_92 : shl 92 = 7 := by decide +kernel
theorem q_110 : Cond.fieldLink RX1 9 "ReplayBooth$Board" "cameras" "[I" ∈ tblG := tblG_of 110 (by decide +kernel) rfl
theorem q_106 : Cond.code yX1_init cX1_init 1 none ∈ tblG := tblG_of 106 (by decide +kernel) rfl
theorem q_105 : Cond.instanceMethod yX1_init ∈ tblG := tblG_of 105 (by decide +kernel) rfl
theorem sh_93 : shc 93 = 1 := by decide +kernel
theorem sh_94 : shc 94 = 20 := by decide +kernel
theorem sl_94 : shl 94 = 7 := by decide +kernel
theorem sh_95 : shc 95 = 1 := by decide +kernel
theorem sh_96 : shc 96 = 20 := by decide +kernel
theorem sl_96 : shl 96 = 7 := by decide +kernel
theorem dz_X6 : ∀ j, j < 12 → defaultValue (tyX6 j) = vp_V ((kd 5).map dfv) j := by decide +kernel
theorem q_119 : Cond.instantiable RX6 12 ∈ tblG := tblG_of 119 (by decide +kernel) rfl
theorem sh_97 : shc 97 = 6 := by decide +kernel
theorem q_123 : Cond.methodLink RX6 3 ⟨"java/lang/Object", "<init>", "()V"⟩ ∈ tblG := tblG_of 123 (by decide +kernel) rfl
theorem sh_98 : shc 98 = 20 := by decide +kernel
theorem sl_98 : shl 98 = 10 := by decide +kernel
theorem sh_99 : shc 99 = 20 := by decide +kernel
theorem sl_99 : shl 99 = 10 := by decide +kernel
theorem q_143 : Cond.fieldLink RX6 15 "ReplayBooth$Play" "tick" "[I" ∈ tblG := tblG_of 143 (by decide +kernel) rfl
theorem sh_100 : shc 100 = 20 := by decide +kernel
theorem sl_100 : shl 100 = 10 := by decide +kernel
theorem q_147 : Cond.fieldLink RX6 18 "ReplayBooth$Play" "there" "[I" ∈ tblG := tblG_of 147 (by decide +kernel) rfl
theorem sh_101 : shc 101 = 20 := by decide +kernel
theorem sl_101 : shl 101 = 10 := by decide +kernel
theorem q_151 : Cond.fieldLink RX6 21 "ReplayBooth$Play" "notYet" "[I" ∈ tblG := tblG_of 151 (by decide +kernel) rfl
theorem q_122 : Cond.code yX6_init cX6_init 1 none ∈ tblG := tblG_of 122 (by decide +kernel) rfl
theorem q_121 : Cond.instanceMethod yX6_init ∈ tblG := tblG_of 121 (by decide +kernel) rfl
theorem sh_102 : shc 102 = 6 := by decide +kernel
theorem sh_103 : shc 103 = 20 := by decide +kernel
theorem sl_103 : shl 103 = 10 := by decide +kernel
theorem sh_104 : shc 104 = 20 := by decide +kernel
theorem sl_104 : shl 104 = 10 := by decide +kernel
theorem sh_105 : shc 105 = 20 := by decide +kernel
theorem sl_105 : shl 105 = 10 := by decide +kernel
theorem sh_106 : shc 106 = 20 := by decide +kernel
theorem sl_106 : shl 106 = 10 := by decide +kernel
theorem sh_107 : shc 107 = 6 := by decide +kernel
theorem sh_108 : shc 108 = 20 := by decide +kernel
theorem sl_108 : shl 108 = 10 := by decide +kernel
theorem sh_109 : shc 109 = 20 := by decide +kernel
theorem sl_109 : shl 109 = 10 := by decide +kernel
theorem sh_110 : shc 110 = 20 := by decide +kernel
theorem sl_110 : shl 110 = 10 := by decide +kernel
theorem sh_111 : shc 111 = 20 := by decide +kernel
theorem sl_111 : shl 111 = 10 := by decide +kernel
theorem sh_112 : shc 112 = 6 := by decide +kernel
theorem sh_113 : shc 113 = 20 := by decide +kernel
theorem sl_113 : shl 113 = 10 := by decide +kernel
theorem sh_114 : shc 114 = 20 := by decide +kernel
theorem sl_114 : shl 114 = 10 := by decide +kernel
theorem sh_115 : shc 115 = 20 := by decide +kernel
theorem sl_115 : shl 115 = 10 := by decide +kernel
theorem sh_116 : shc 116 = 20 := by decide +kernel
theorem sl_116 : shl 116 = 10 := by decide +kernel
theorem sh_117 : shc 117 = 6 := by decide +kernel
theorem sh_118 : shc 118 = 20 := by decide +kernel
theorem sl_118 : shl 118 = 10 := by decide +kernel
theorem sh_119 : shc 119 = 20 := by decide +kernel
theorem sl_119 : shl 119 = 10 := by decide +kernel
theorem sh_120 : shc 120 = 20 := by decide +kernel
theorem sl_120 : shl 120 = 10 := by decide +kernel
theorem sh_121 : shc 121 = 20 := by decide +kernel
theorem sl_121 : shl 121 = 10 := by decide +kernel
theorem sh_122 : shc 122 = 6 := by decide +kernel
theorem sh_123 : shc 123 = 20 := by decide +kernel
theorem sl_123 : shl 123 = 10 := by decide +kernel
theorem sh_124 : shc 124 = 20 := by decide +kernel
theorem sl_124 : shl 124 = 10 := by decide +kernel
theorem sh_125 : shc 125 = 20 := by decide +kernel
theorem sl_125 : shl 125 = 10 := by decide +kernel
theorem sh_126 : shc 126 = 20 := by decide +kernel
theorem sl_126 : shl 126 = 10 := by decide +kernel
theorem sh_127 : shc 127 = 6 := by decide +kernel
theorem sh_128 : shc 128 = 20 := by decide +kernel
theorem sl_128 : shl 128 = 10 := by decide +kernel
theorem sh_129 : shc 129 = 20 := by decide +kernel
theorem sl_129 : shl 129 = 10 := by decide +kernel
theorem sh_130 : shc 130 = 20 := by decide +kernel
theorem sl_130 : shl 130 = 10 := by decide +kernel
theorem sh_131 : shc 131 = 20 := by decide +kernel
theorem sl_131 : shl 131 = 10 := by decide +kernel
theorem sh_132 : shc 132 = 6 := by decide +kernel
theorem sh_133 : shc 133 = 20 := by decide +kernel
theorem sl_133 : shl 133 = 10 := by decide +kernel
theorem sh_134 : shc 134 = 20 := by decide +kernel
theorem sl_134 : shl 134 = 10 := by decide +kernel
theorem sh_135 : shc 135 = 20 := by decide +kernel
theorem sl_135 : shl 135 = 10 := by decide +kernel
theorem sh_136 : shc 136 = 20 := by decide +kernel
theorem sl_136 : shl 136 = 10 := by decide +kernel
theorem q_184 : Cond.methodLink RX9 52 yX9_clear ∈ tblG := tblG_of 184 (by decide +kernel) rfl
theorem cw_X9_52 : CWs RX9 52 RX9 yX9_clear cX9_clear 1 none 0 := ⟨q_184, q_10, q_187, rfl, by decide +kernel, by decide +kernel⟩
theorem q_47 : Cond.methodLink RX10 15 yX9_init ∈ tblG := tblG_of 47 (by decide +kernel) rfl
theorem q_49 : Cond.code yX9_init cX9_init 2 none ∈ tblG := tblG_of 49 (by decide +kernel) rfl
theorem cw_X10_15 : CWs RX10 15 RX9 yX9_init cX9_init 2 none 0 := ⟨q_47, q_10, q_49, rfl, by decide +kernel, by decide +kernel⟩
theorem q_48 : Cond.instanceMethod yX9_init ∈ tblG := tblG_of 48 (by decide +kernel) rfl
theorem sh_137 : shc 137 = 8 := by decide +kernel
theorem sh_138 : shc 138 = 20 := by decide +kernel
theorem sl_138 : shl 138 = 5 := by decide +kernel
theorem sh_139 : shc 139 = 20 := by decide +kernel
theorem sl_139 : shl 139 = 5 := by decide +kernel
theorem sh_140 : shc 140 = 2 := by decide +kernel
theorem sh_141 : shc 141 = 20 := by decide +kernel
theorem sl_141 : shl 141 = 100 := by decide +kernel
theorem sh_142 : shc 142 = 20 := by decide +kernel
theorem sl_142 : shl 142 = 4 := by decide +kernel
theorem sh_143 : shc 143 = 24 := by decide +kernel
theorem sl_143 : shl 143 = 5 := by decide +kernel
theorem sh_144 : shc 144 = 25 := by decide +kernel
theorem sl_144 : shl 144 = 3 := by decide +kernel
theorem sh_145 : shc 145 = 26 := by decide +kernel
theorem sl_145 : shl 145 = 8 := by decide +kernel
theorem sh_146 : shc 146 = 20 := by decide +kernel
theorem sl_146 : shl 146 = 4 := by decide +kernel
theorem sh_147 : shc 147 = 5 := by decide +kernel
theorem sh_148 : shc 148 = 20 := by decide +kernel
theorem sl_148 : shl 148 = 3 := by decide +kernel
theorem sh_149 : shc 149 = 20 := by decide +kernel
theorem sl_149 : shl 149 = 3 := by decide +kernel
theorem sh_150 : shc 150 = 5 := by decide +kernel
theorem sh_151 : shc 151 = 20 := by decide +kernel
theorem sl_151 : shl 151 = 3 := by decide +kernel
theorem sh_152 : shc 152 = 20 := by decide +kernel
theorem sl_152 : shl 152 = 3 := by decide +kernel
theorem sh_153 : shc 153 = 5 := by decide +kernel
theorem sh_154 : shc 154 = 20 := by decide +kernel
theorem sl_154 : shl 154 = 3 := by decide +kernel
theorem sh_155 : shc 155 = 20 := by decide +kernel
theorem sl_155 : shl 155 = 3 := by decide +kernel
theorem sh_156 : shc 156 = 5 := by decide +kernel
theorem sh_157 : shc 157 = 20 := by decide +kernel
theorem sl_157 : shl 157 = 3 := by decide +kernel
theorem sh_158 : shc 158 = 20 := by decide +kernel
theorem sl_158 : shl 158 = 3 := by decide +kernel
theorem sh_159 : shc 159 = 5 := by decide +kernel
theorem sh_160 : shc 160 = 20 := by decide +kernel
theorem sl_160 : shl 160 = 3 := by decide +kernel
theorem sh_161 : shc 161 = 20 := by decide +kernel
theorem sl_161 : shl 161 = 3 := by decide +kernel
theorem sh_162 : shc 162 = 1 := by decide +kernel
theorem sh_163 : shc 163 = 20 := by decide +kernel
theorem sl_163 : shl 163 = 7 := by decide +kernel
theorem sh_164 : shc 164 = 1 := by decide +kernel
theorem sh_165 : shc 165 = 20 := by decide +kernel
theorem sl_165 : shl 165 = 7 := by decide +kernel
theorem sh_166 : shc 166 = 1 := by decide +kernel
theorem sh_167 : shc 167 = 20 := by decide +kernel
theorem sl_167 : shl 167 = 7 := by decide +kernel
theorem sh_168 : shc 168 = 6 := by decide +kernel
theorem sh_169 : shc 169 = 20 := by decide +kernel
theorem sl_169 : shl 169 = 10 := by decide +kernel
theorem sh_170 : shc 170 = 20 := by decide +kernel
theorem sl_170 : shl 170 = 10 := by decide +kernel
theorem sh_171 : shc 171 = 20 := by decide +kernel
theorem sl_171 : shl 171 = 10 := by decide +kernel
theorem sh_172 : shc 172 = 20 := by decide +kernel
theorem sl_172 : shl 172 = 10 := by decide +kernel
theorem sh_173 : shc 173 = 6 := by decide +kernel
theorem sh_174 : shc 174 = 20 := by decide +kernel
theorem sl_174 : shl 174 = 10 := by decide +kernel
theorem sh_175 : shc 175 = 20 := by decide +kernel
theorem sl_175 : shl 175 = 10 := by decide +kernel
theorem sh_176 : shc 176 = 20 := by decide +kernel
theorem sl_176 : shl 176 = 10 := by decide +kernel
theorem sh_177 : shc 177 = 20 := by decide +kernel
theorem sl_177 : shl 177 = 10 := by decide +kernel
theorem sh_178 : shc 178 = 6 := by decide +kernel
theorem sh_179 : shc 179 = 20 := by decide +kernel
theorem sl_179 : shl 179 = 10 := by decide +kernel
theorem sh_180 : shc 180 = 20 := by decide +kernel
theorem sl_180 : shl 180 = 10 := by decide +kernel
theorem sh_181 : shc 181 = 20 := by decide +kernel
theorem sl_181 : shl 181 = 10 := by decide +kernel
theorem sh_182 : shc 182 = 20 := by decide +kernel
theorem sl_182 : shl 182 = 10 := by decide +kernel
theorem sh_183 : shc 183 = 6 := by decide +kernel
theorem sh_184 : shc 184 = 20 := by decide +kernel
theorem sl_184 : shl 184 = 10 := by decide +kernel
theorem sh_185 : shc 185 = 20 := by decide +kernel
theorem sl_185 : shl 185 = 10 := by decide +kernel
theorem sh_186 : shc 186 = 20 := by decide +kernel
theorem sl_186 : shl 186 = 10 := by decide +kernel
theorem sh_187 : shc 187 = 20 := by decide +kernel
theorem sl_187 : shl 187 = 10 := by decide +kernel
theorem sh_188 : shc 188 = 6 := by decide +kernel
theorem sh_189 : shc 189 = 20 := by decide +kernel
theorem sl_189 : shl 189 = 10 := by decide +kernel
theorem sh_190 : shc 190 = 20 := by decide +kernel
theorem sl_190 : shl 190 = 10 := by decide +kernel
theorem sh_191 : shc 191 = 20 := by decide +kernel
theorem sl_191 : shl 191 = 10 := by decide +kernel
theorem sh_192 : shc 192 = 20 := by decide +kernel
theorem sl_192 : shl 192 = 10 := by decide +kernel
theorem sh_193 : shc 193 = 6 := by decide +kernel
theorem sh_194 : shc 194 = 20 := by decide +kernel
theorem sl_194 : shl 194 = 10 := by decide +kernel
theorem sh_195 : shc 195 = 20 := by decide +kernel
theorem sl_195 : shl 195 = 10 := by decide +kernel
theorem sh_196 : shc 196 = 20 := by decide +kernel
theorem sl_196 : shl 196 = 10 := by decide +kernel
theorem sh_197 : shc 197 = 20 := by decide +kernel
theorem sl_197 : shl 197 = 10 := by decide +kernel
theorem sh_198 : shc 198 = 6 := by decide +kernel
theorem sh_199 : shc 199 = 20 := by decide +kernel
theorem sl_199 : shl 199 = 10 := by decide +kernel
theorem sh_200 : shc 200 = 20 := by decide +kernel
theorem sl_200 : shl 200 = 10 := by decide +kernel
theorem sh_201 : shc 201 = 20 := by decide +kernel
theorem sl_201 : shl 201 = 10 := by decide +kernel
theorem sh_202 : shc 202 = 20 := by decide +kernel
theorem sl_202 : shl 202 = 10 := by decide +kernel
theorem sh_203 : shc 203 = 6 := by decide +kernel
theorem sh_204 : shc 204 = 20 := by decide +kernel
theorem sl_204 : shl 204 = 10 := by decide +kernel
theorem sh_205 : shc 205 = 20 := by decide +kernel
theorem sl_205 : shl 205 = 10 := by decide +kernel
theorem sh_206 : shc 206 = 20 := by decide +kernel
theorem sl_206 : shl 206 = 10 := by decide +kernel
theorem sh_207 : shc 207 = 20 := by decide +kernel
theorem sl_207 : shl 207 = 10 := by decide +kernel
theorem dz_X7 : ∀ j, j < 14 → defaultValue (tyX7 j) = vp_V ((kd 6).map dfv) j := by decide +kernel
theorem q_269 : Cond.classLink RX10 23 RX7 ∈ tblG := tblG_of 269 (by decide +kernel) rfl
theorem q_270 : Cond.instantiable RX7 14 ∈ tblG := tblG_of 270 (by decide +kernel) rfl
theorem q_274 : Cond.methodLink RX7 3 ⟨"java/lang/Object", "<init>", "()V"⟩ ∈ tblG := tblG_of 274 (by decide +kernel) rfl
theorem q_277 : Cond.classLink RX7 10 RX8 ∈ tblG := tblG_of 277 (by decide +kernel) rfl
theorem q_271 : Cond.methodLink RX10 25 yX7_init ∈ tblG := tblG_of 271 (by decide +kernel) rfl
theorem q_273 : Cond.code yX7_init cX7_init 3 none ∈ tblG := tblG_of 273 (by decide +kernel) rfl
theorem cw_X10_25 : CWs RX10 25 RX7 yX7_init cX7_init 3 none 2 := ⟨q_271, q_16, q_273, rfl, by decide +kernel, by decide +kernel⟩
theorem q_272 : Cond.instanceMethod yX7_init ∈ tblG := tblG_of 272 (by decide +kernel) rfl
theorem dz_X4 : ∀ j, j < 4 → defaultValue (tyX4 j) = vp_V ((kd 3).map dfv) j := by decide +kernel
theorem q_324 : Cond.classLink RX10 32 RX4 ∈ tblG := tblG_of 324 (by decide +kernel) rfl
theorem q_325 : Cond.instantiable RX4 4 ∈ tblG := tblG_of 325 (by decide +kernel) rfl
theorem q_329 : Cond.methodLink RX4 3 ⟨"java/lang/Object", "<init>", "()V"⟩ ∈ tblG := tblG_of 329 (by decide +kernel) rfl
theorem q_330 : Cond.classLink RX4 9 RX2 ∈ tblG := tblG_of 330 (by decide +kernel) rfl
theorem sh_214 : shc 214 = 20 := by decide +kernel
theorem sl_214 : shl 214 = 100 := by decide +kernel
theorem sh_216 : shc 216 = 20 := by decide +kernel
theorem sl_216 : shl 216 = 100 := by decide +kernel
theorem q_328 : Cond.code yX4_init cX4_init 1 none ∈ tblG := tblG_of 328 (by decide +kernel) rfl
theorem q_327 : Cond.instanceMethod yX4_init ∈ tblG := tblG_of 327 (by decide +kernel) rfl
theorem dz_X3 : ∀ j, j < 10 → defaultValue (tyX3 j) = vp_V ((kd 2).map dfv) j := by decide +kernel
theorem q_343 : Cond.classLink RX10 39 RX3 ∈ tblG := tblG_of 343 (by decide +kernel) rfl
theorem q_344 : Cond.instantiable RX3 10 ∈ tblG := tblG_of 344 (by decide +kernel) rfl
theorem q_348 : Cond.methodLink RX3 3 ⟨"java/lang/Object", "<init>", "()V"⟩ ∈ tblG := tblG_of 348 (by decide +kernel) rfl
theorem q_354 : Cond.fieldLink RX3 9 "ReplayBooth$Day" "goneBy" "[I" ∈ tblG := tblG_of 354 (by decide +kernel) rfl
theorem ff_X3_4 : FF 2 4 2 "ReplayBooth$Day" "goneBy" "[I" true := ⟨RX3, TX3, 10, tyX3, rfl, inG_X3, by decide, by decide +kernel, rfl, tyX3_ok, nmX3, by decide +kernel⟩
theorem q_358 : Cond.fieldLink RX3 24 "ReplayBooth$Day" "log" "[I" ∈ tblG := tblG_of 358 (by decide +kernel) rfl
theorem ff_X3_8 : FF 2 8 2 "ReplayBooth$Day" "log" "[I" true := ⟨RX3, TX3, 10, tyX3, rfl, inG_X3, by decide, by decide +kernel, rfl, tyX3_ok, nmX3, by decide +kernel⟩
theorem q_347 : Cond.code yX3_init cX3_init 1 none ∈ tblG := tblG_of 347 (by decide +kernel) rfl
theorem q_346 : Cond.instanceMethod yX3_init ∈ tblG := tblG_of 346 (by decide +kernel) rfl
theorem q_390 : Cond.fieldLink RX10 46 "ReplayBooth" "ahead" "[LReplayBooth$Day;" ∈ tblG := tblG_of 390 (by decide +kernel) rfl
theorem ff_X10_7 : FF 8 7 2 "ReplayBooth" "ahead" "[LReplayBooth$Day;" true := ⟨RX10, TX10, 14, tyX10, rfl, inG_X10, by decide, by decide +kernel, rfl, tyX10_ok, nmX10, by decide +kernel⟩
theorem q_392 : Cond.fieldLink RX10 50 "ReplayBooth" "kept" "[LReplayBooth$Day;" ∈ tblG := tblG_of 392 (by decide +kernel) rfl
theorem ff_X10_10 : FF 8 10 2 "ReplayBooth" "kept" "[LReplayBooth$Day;" true := ⟨RX10, TX10, 14, tyX10, rfl, inG_X10, by decide, by decide +kernel, rfl, tyX10_ok, nmX10, by decide +kernel⟩
theorem q_394 : Cond.fieldLink RX10 57 "ReplayBooth" "row" "[I" ∈ tblG := tblG_of 394 (by decide +kernel) rfl
theorem ff_X10_12 : FF 8 12 2 "ReplayBooth" "row" "[I" true := ⟨RX10, TX10, 14, tyX10, rfl, inG_X10, by decide, by decide +kernel, rfl, tyX10_ok, nmX10, by decide +kernel⟩
theorem sh_227 : shc 227 = 3 := by decide +kernel
theorem sh_228 : shc 228 = 20 := by decide +kernel
theorem sl_228 : shl 228 = 8 := by decide +kernel
theorem sh_229 : shc 229 = 20 := by decide +kernel
theorem sl_229 : shl 229 = 4 := by decide +kernel
theorem sh_230 : shc 230 = 20 := by decide +kernel
theorem sl_230 : shl 230 = 4 := by decide +kernel
theorem sh_231 : shc 231 = 20 := by decide +kernel
theorem sl_231 : shl 231 = 8 := by decide +kernel
theorem sh_232 : shc 232 = 20 := by decide +kernel
theorem sl_232 : shl 232 = 64 := by decide +kernel
theorem sh_233 : shc 233 = 3 := by decide +kernel
theorem sh_234 : shc 234 = 20 := by decide +kernel
theorem sl_234 : shl 234 = 8 := by decide +kernel
theorem sh_235 : shc 235 = 20 := by decide +kernel
theorem sl_235 : shl 235 = 4 := by decide +kernel
theorem sh_236 : shc 236 = 20 := by decide +kernel
theorem sl_236 : shl 236 = 4 := by decide +kernel
theorem sh_237 : shc 237 = 20 := by decide +kernel
theorem sl_237 : shl 237 = 8 := by decide +kernel
theorem sh_238 : shc 238 = 20 := by decide +kernel
theorem sl_238 : shl 238 = 64 := by decide +kernel
theorem sh_239 : shc 239 = 3 := by decide +kernel
theorem sh_240 : shc 240 = 20 := by decide +kernel
theorem sl_240 : shl 240 = 8 := by decide +kernel
theorem sh_241 : shc 241 = 20 := by decide +kernel
theorem sl_241 : shl 241 = 4 := by decide +kernel
theorem sh_242 : shc 242 = 20 := by decide +kernel
theorem sl_242 : shl 242 = 4 := by decide +kernel
theorem sh_243 : shc 243 = 20 := by decide +kernel
theorem sl_243 : shl 243 = 8 := by decide +kernel
theorem sh_244 : shc 244 = 20 := by decide +kernel
theorem sl_244 : shl 244 = 64 := by decide +kernel
theorem sh_245 : shc 245 = 3 := by decide +kernel
theorem sh_246 : shc 246 = 20 := by decide +kernel
theorem sl_246 : shl 246 = 8 := by decide +kernel
theorem sh_247 : shc 247 = 20 := by decide +kernel
theorem sl_247 : shl 247 = 4 := by decide +kernel
theorem sh_248 : shc 248 = 20 := by decide +kernel
theorem sl_248 : shl 248 = 4 := by decide +kernel
theorem sh_249 : shc 249 = 20 := by decide +kernel
theorem sl_249 : shl 249 = 8 := by decide +kernel
theorem sh_250 : shc 250 = 20 := by decide +kernel
theorem sl_250 : shl 250 = 64 := by decide +kernel
theorem sh_251 : shc 251 = 3 := by decide +kernel
theorem sh_252 : shc 252 = 20 := by decide +kernel
theorem sl_252 : shl 252 = 8 := by decide +kernel
theorem sh_253 : shc 253 = 20 := by decide +kernel
theorem sl_253 : shl 253 = 4 := by decide +kernel
theorem sh_254 : shc 254 = 20 := by decide +kernel
theorem sl_254 : shl 254 = 4 := by decide +kernel
theorem sh_255 : shc 255 = 20 := by decide +kernel
theorem sl_255 : shl 255 = 8 := by decide +kernel
theorem sh_256 : shc 256 = 20 := by decide +kernel
theorem sl_256 : shl 256 = 64 := by decide +kernel
theorem sh_257 : shc 257 = 3 := by decide +kernel
theorem sh_258 : shc 258 = 20 := by decide +kernel
theorem sl_258 : shl 258 = 8 := by decide +kernel
theorem sh_259 : shc 259 = 20 := by decide +kernel
theorem sl_259 : shl 259 = 4 := by decide +kernel
theorem sh_260 : shc 260 = 20 := by decide +kernel
theorem sl_260 : shl 260 = 4 := by decide +kernel
theorem sh_261 : shc 261 = 20 := by decide +kernel
theorem sl_261 : shl 261 = 8 := by decide +kernel
theorem sh_262 : shc 262 = 20 := by decide +kernel
theorem sl_262 : shl 262 = 64 := by decide +kernel
theorem sh_263 : shc 263 = 3 := by decide +kernel
theorem sh_264 : shc 264 = 20 := by decide +kernel
theorem sl_264 : shl 264 = 8 := by decide +kernel
theorem sh_265 : shc 265 = 20 := by decide +kernel
theorem sl_265 : shl 265 = 4 := by decide +kernel
theorem sh_266 : shc 266 = 20 := by decide +kernel
theorem sl_266 : shl 266 = 4 := by decide +kernel
theorem sh_267 : shc 267 = 20 := by decide +kernel
theorem sl_267 : shl 267 = 8 := by decide +kernel
theorem sh_268 : shc 268 = 20 := by decide +kernel
theorem sl_268 : shl 268 = 64 := by decide +kernel
theorem sh_269 : shc 269 = 3 := by decide +kernel
theorem sh_270 : shc 270 = 20 := by decide +kernel
theorem sl_270 : shl 270 = 8 := by decide +kernel
theorem sh_271 : shc 271 = 20 := by decide +kernel
theorem sl_271 : shl 271 = 4 := by decide +kernel
theorem sh_272 : shc 272 = 20 := by decide +kernel
theorem sl_272 : shl 272 = 4 := by decide +kernel
theorem sh_273 : shc 273 = 20 := by decide +kernel
theorem sl_273 : shl 273 = 8 := by decide +kernel
theorem sh_274 : shc 274 = 20 := by decide +kernel
theorem sl_274 : shl 274 = 64 := by decide +kernel
theorem sh_275 : shc 275 = 3 := by decide +kernel
theorem sh_276 : shc 276 = 20 := by decide +kernel
theorem sl_276 : shl 276 = 8 := by decide +kernel
theorem sh_277 : shc 277 = 20 := by decide +kernel
theorem sl_277 : shl 277 = 4 := by decide +kernel
theorem sh_278 : shc 278 = 20 := by decide +kernel
theorem sl_278 : shl 278 = 4 := by decide +kernel
theorem sh_279 : shc 279 = 20 := by decide +kernel
theorem sl_279 : shl 279 = 8 := by decide +kernel
theorem sh_280 : shc 280 = 20 := by decide +kernel
theorem sl_280 : shl 280 = 64 := by decide +kernel
theorem sh_281 : shc 281 = 3 := by decide +kernel
theorem sh_282 : shc 282 = 20 := by decide +kernel
theorem sl_282 : shl 282 = 8 := by decide +kernel
theorem sh_283 : shc 283 = 20 := by decide +kernel
theorem sl_283 : shl 283 = 4 := by decide +kernel
theorem sh_284 : shc 284 = 20 := by decide +kernel
theorem sl_284 : shl 284 = 4 := by decide +kernel
theorem sh_285 : shc 285 = 20 := by decide +kernel
theorem sl_285 : shl 285 = 8 := by decide +kernel
theorem sh_286 : shc 286 = 20 := by decide +kernel
theorem sl_286 : shl 286 = 64 := by decide +kernel
theorem sh_287 : shc 287 = 3 := by decide +kernel
theorem sh_288 : shc 288 = 20 := by decide +kernel
theorem sl_288 : shl 288 = 8 := by decide +kernel
theorem sh_289 : shc 289 = 20 := by decide +kernel
theorem sl_289 : shl 289 = 4 := by decide +kernel
theorem sh_290 : shc 290 = 20 := by decide +kernel
theorem sl_290 : shl 290 = 4 := by decide +kernel
theorem sh_291 : shc 291 = 20 := by decide +kernel
theorem sl_291 : shl 291 = 8 := by decide +kernel
theorem sh_292 : shc 292 = 20 := by decide +kernel
theorem sl_292 : shl 292 = 64 := by decide +kernel
theorem sh_293 : shc 293 = 3 := by decide +kernel
theorem sh_294 : shc 294 = 20 := by decide +kernel
theorem sl_294 : shl 294 = 8 := by decide +kernel
theorem sh_295 : shc 295 = 20 := by decide +kernel
theorem sl_295 : shl 295 = 4 := by decide +kernel
theorem sh_296 : shc 296 = 20 := by decide +kernel
theorem sl_296 : shl 296 = 4 := by decide +kernel
theorem sh_297 : shc 297 = 20 := by decide +kernel
theorem sl_297 : shl 297 = 8 := by decide +kernel
theorem sh_298 : shc 298 = 20 := by decide +kernel
theorem sl_298 : shl 298 = 64 := by decide +kernel
theorem sh_299 : shc 299 = 3 := by decide +kernel
theorem sh_300 : shc 300 = 20 := by decide +kernel
theorem sl_300 : shl 300 = 8 := by decide +kernel
theorem sh_301 : shc 301 = 20 := by decide +kernel
theorem sl_301 : shl 301 = 4 := by decide +kernel
theorem sh_302 : shc 302 = 20 := by decide +kernel
theorem sl_302 : shl 302 = 4 := by decide +kernel
theorem sh_303 : shc 303 = 20 := by decide +kernel
theorem sl_303 : shl 303 = 8 := by decide +kernel
theorem sh_304 : shc 304 = 20 := by decide +kernel
theorem sl_304 : shl 304 = 64 := by decide +kernel
theorem sh_305 : shc 305 = 3 := by decide +kernel
theorem sh_306 : shc 306 = 20 := by decide +kernel
theorem sl_306 : shl 306 = 8 := by decide +kernel
theorem sh_307 : shc 307 = 20 := by decide +kernel
theorem sl_307 : shl 307 = 4 := by decide +kernel
theorem sh_308 : shc 308 = 20 := by decide +kernel
theorem sl_308 : shl 308 = 4 := by decide +kernel
theorem sh_309 : shc 309 = 20 := by decide +kernel
theorem sl_309 : shl 309 = 8 := by decide +kernel
theorem sh_310 : shc 310 = 20 := by decide +kernel
theorem sl_310 : shl 310 = 64 := by decide +kernel
theorem q_39 : Cond.methodLink RL 115 yX10_init ∈ tblG := tblG_of 39 (by decide +kernel) rfl
theorem q_41 : Cond.code yX10_init cX10_init 2 none ∈ tblG := tblG_of 41 (by decide +kernel) rfl
theorem cw_L_115 : CWs RL 115 RX10 yX10_init cX10_init 2 none 0 := ⟨q_39, q_9, q_41, rfl, by decide +kernel, by decide +kernel⟩
theorem q_40 : Cond.instanceMethod yX10_init ∈ tblG := tblG_of 40 (by decide +kernel) rfl
/-- what the start gives for the making -/
def KBd (K : Kt) : Prop := KTok K ∧ (va_Nw (.methodLinkNest RX9 20 yX2_init RX10) (kS K) ∧ va_Nw (.methodLinkNest RX9 49 yX5_init RX10) (kS K) ∧ va_Nw (.methodLinkNest RX9 50 yX1_init RX10) (kS K) ∧ va_Nw (.methodLinkNest RX9 51 yX6_init RX10) (kS K) ∧ va_Nw (.methodLinkNest RX10 34 yX4_init RX10) (kS K) ∧ va_Nw (.methodLinkNest RX4 11 yX2_init RX10) (kS K) ∧ va_Nw (.methodLinkNest RX10 41 yX3_init RX10) (kS K)) ∧ (va_AO "ReplayBooth$Kind" (kS K) ∧ va_AO "ReplayBooth$Board" (kS K) ∧ va_AO "ReplayBooth$Play" (kS K) ∧ va_AO "ReplayBooth$Token" (kS K) ∧ va_AO "ReplayBooth$Day" (kS K))
