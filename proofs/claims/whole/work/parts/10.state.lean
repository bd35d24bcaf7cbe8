abbrev am_N : Nat := 266
/-- the references of the world behind the constructors; two of them move: the life that is talked of, the rule that is read -/
def am_rl : List (List (Option Nat)) := [[some 1, none, some 2, some 6, some 14, none, some 246, some 247, some 15, some 30, some 31, some 32, some 134, some 135, some 137, none, some 142], [], [some 3, some 4, some 5], [], [], [], [none, none, none, none, some 7, some 8, none, some 9, some 10, some 11, none, some 12, none, some 13], [], [], [], [], [], [], [], [some 144, some 151, some 158, some 165, some 172, some 179], [some 16, some 24, none, none, none, some 29], [none, none, none, none, some 17, some 18, none, some 19, some 20, some 21, none, some 22, none, some 23], [], [], [], [], [], [], [], [some 25, some 26, some 27, some 28], [], [], [], [], [], [some 186, some 201, some 216, some 231], [], [some 33], [some 34, some 39, some 44, some 49, some 54, some 59, some 64, some 69, some 74, some 79, some 84, some 89, some 94, some 99, some 104, some 109, some 114, some 119, some 124, some 129], [some 35, some 36, some 37, some 38], [], [], [], [], [some 40, some 41, some 42, some 43], [], [], [], [], [some 45, some 46, some 47, some 48], [], [], [], [], [some 50, some 51, some 52, some 53], [], [], [], [], [some 55, some 56, some 57, some 58], [], [], [], [], [some 60, some 61, some 62, some 63], [], [], [], [], [some 65, some 66, some 67, some 68], [], [], [], [], [some 70, some 71, some 72, some 73], [], [], [], [], [some 75, some 76, some 77, some 78], [], [], [], [], [some 80, some 81, some 82, some 83], [], [], [], [], [some 85, some 86, some 87, some 88], [], [], [], [], [some 90, some 91, some 92, some 93], [], [], [], [], [some 95, some 96, some 97, some 98], [], [], [], [], [some 100, some 101, some 102, some 103], [], [], [], [], [some 105, some 106, some 107, some 108], [], [], [], [], [some 110, some 111, some 112, some 113], [], [], [], [], [some 115, some 116, some 117, some 118], [], [], [], [], [some 120, some 121, some 122, some 123], [], [], [], [], [some 125, some 126, some 127, some 128], [], [], [], [], [some 130, some 131, some 132, some 133], [], [], [], [], [some 16, some 24], [none, none, none, none, none, some 136], [], [some 138, some 139, some 140, some 141], [], [], [], [], [], [], [some 143, some 145, some 146, none, some 147, some 148, some 149, some 150], [], [], [], [], [], [], [some 143, some 152, some 153, none, some 154, some 155, some 156, some 157], [], [], [], [], [], [], [some 143, some 159, some 160, none, some 161, some 162, some 163, some 164], [], [], [], [], [], [], [some 143, some 166, some 167, none, some 168, some 169, some 170, some 171], [], [], [], [], [], [], [some 143, some 173, some 174, none, some 175, some 176, some 177, some 178], [], [], [], [], [], [], [some 143, some 180, some 181, none, some 182, some 183, some 184, some 185], [], [], [], [], [], [], [some 187, some 195, none, none, none, some 200], [none, none, none, none, some 188, some 189, none, some 190, some 191, some 192, none, some 193, none, some 194], [], [], [], [], [], [], [], [some 196, some 197, some 198, some 199], [], [], [], [], [], [some 202, some 210, none, none, none, some 215], [none, none, none, none, some 203, some 204, none, some 205, some 206, some 207, none, some 208, none, some 209], [], [], [], [], [], [], [], [some 211, some 212, some 213, some 214], [], [], [], [], [], [some 217, some 225, none, none, none, some 230], [none, none, none, none, some 218, some 219, none, some 220, some 221, some 222, none, some 223, none, some 224], [], [], [], [], [], [], [], [some 226, some 227, some 228, some 229], [], [], [], [], [], [some 232, some 240, none, none, none, some 245], [none, none, none, none, some 233, some 234, none, some 235, some 236, some 237, none, some 238, none, some 239], [], [], [], [], [], [], [], [some 241, some 242, some 243, some 244], [], [], [], [], [], [some 2, some 6], [some 2, some 144], [some 249, none, none, some 250, some 251, some 252, some 253, some 254, none, none, none, none, none, none, none, some 255, none, some 256, none, some 257, some 258, none, none, some 259, some 260, none, some 261, none, some 262, some 263, some 264, some 265], [], [], [], [], [], [], [], [], [], [], [], [], [], [], [], [], []]
def am_r0 (t u : Nat) : Nat → Nat → Option Nat := fun a k => if a = 134 ∧ k = 1 then some t else if a = 247 ∧ k = 1 then some u else (am_rl.getD a []).getD k none
theorem am_r0_o (t u : Nat) {a k : Nat} (h1 : ¬ (a = 134 ∧ k = 1)) (h2 : ¬ (a = 247 ∧ k = 1)) : am_r0 t u a k = (am_rl.getD a []).getD k none := by
  unfold am_r0
  rw [if_neg h1, if_neg h2]
abbrev am_S : Type := (Nat → Nat → Int32) × (Nat → Nat → Int64) × Nat × Nat
def am_h (s : am_S) : am_H := (s.1, s.2.1, am_r0 s.2.2.1 s.2.2.2)
def as_i (s : am_S) (a k : Nat) (v : Int32) : am_S := (am_up s.1 a k v, s.2)
def as_j (s : am_S) (a k : Nat) (v : Int64) : am_S := (s.1, am_up s.2.1 a k v, s.2.2)
def as_w (s : am_S) (a : Nat) (g : Nat → Int32) : am_S := (am_rw s.1 a g, s.2)
def as_t (s : am_S) (t : Nat) : am_S := (s.1, s.2.1, t, s.2.2.2)
def as_u (s : am_S) (u : Nat) : am_S := (s.1, s.2.1, s.2.2.1, u)
theorem am_r0_t (t u v : Nat) : am_up (am_r0 t u) 134 1 (some v) = am_r0 v u := by
  funext a k
  simp only [am_up, am_r0]
  split <;> rfl
theorem am_r0_u (t u v : Nat) : am_up (am_r0 t u) 247 1 (some v) = am_r0 t v := by
  funext a k
  simp only [am_up, am_r0]
  by_cases h1 : a = 247 ∧ k = 1
  · obtain ⟨rfl, rfl⟩ := h1
    simp
  · simp only [if_neg h1]
theorem am_r0_w (t u : Nat) : am_up (am_r0 t u) 246 1 (some 6) = am_r0 t u := by
  funext a k
  by_cases h1 : a = 246 ∧ k = 1
  · obtain ⟨rfl, rfl⟩ := h1
    simp [am_up, am_r0]
    decide
  · simp only [am_up, if_neg h1]
theorem sh_0 : am_sh 0 = (10, 0) := by decide +kernel
theorem sh_1 : am_sh 1 = (12, 400) := by decide +kernel
theorem sh_2 : am_sh 2 = (6, 0) := by decide +kernel
theorem sh_3 : am_sh 3 = (13, 401) := by decide +kernel
theorem sh_4 : am_sh 4 = (13, 401) := by decide +kernel
theorem sh_5 : am_sh 5 = (13, 401) := by decide +kernel
theorem sh_6 : am_sh 6 = (7, 0) := by decide +kernel
theorem sh_7 : am_sh 7 = (13, 7) := by decide +kernel
theorem sh_8 : am_sh 8 = (13, 49) := by decide +kernel
theorem sh_9 : am_sh 9 = (13, 10) := by decide +kernel
theorem sh_10 : am_sh 10 = (13, 10) := by decide +kernel
theorem sh_11 : am_sh 11 = (13, 7) := by decide +kernel
theorem sh_12 : am_sh 12 = (13, 40) := by decide +kernel
theorem sh_13 : am_sh 13 = (13, 30) := by decide +kernel
theorem sh_14 : am_sh 14 = (17, 6) := by decide +kernel
theorem sh_15 : am_sh 15 = (4, 0) := by decide +kernel
theorem sh_16 : am_sh 16 = (7, 0) := by decide +kernel
theorem sh_17 : am_sh 17 = (13, 7) := by decide +kernel
theorem sh_18 : am_sh 18 = (13, 49) := by decide +kernel
theorem sh_19 : am_sh 19 = (13, 10) := by decide +kernel
theorem sh_20 : am_sh 20 = (13, 10) := by decide +kernel
theorem sh_21 : am_sh 21 = (13, 7) := by decide +kernel
theorem sh_22 : am_sh 22 = (13, 40) := by decide +kernel
theorem sh_23 : am_sh 23 = (13, 30) := by decide +kernel
theorem sh_24 : am_sh 24 = (1, 0) := by decide +kernel
theorem sh_25 : am_sh 25 = (13, 56) := by decide +kernel
theorem sh_26 : am_sh 26 = (13, 56) := by decide +kernel
theorem sh_27 : am_sh 27 = (13, 56) := by decide +kernel
theorem sh_28 : am_sh 28 = (13, 7) := by decide +kernel
theorem sh_29 : am_sh 29 = (13, 36) := by decide +kernel
theorem sh_30 : am_sh 30 = (18, 4) := by decide +kernel
theorem sh_31 : am_sh 31 = (15, 4) := by decide +kernel
theorem sh_32 : am_sh 32 = (0, 0) := by decide +kernel
theorem sh_33 : am_sh 33 = (16, 20) := by decide +kernel
theorem sh_34 : am_sh 34 = (1, 0) := by decide +kernel
theorem sh_35 : am_sh 35 = (13, 56) := by decide +kernel
theorem sh_36 : am_sh 36 = (13, 56) := by decide +kernel
theorem sh_37 : am_sh 37 = (13, 56) := by decide +kernel
theorem sh_38 : am_sh 38 = (13, 7) := by decide +kernel
theorem sh_39 : am_sh 39 = (1, 0) := by decide +kernel
theorem sh_40 : am_sh 40 = (13, 56) := by decide +kernel
theorem sh_41 : am_sh 41 = (13, 56) := by decide +kernel
theorem sh_42 : am_sh 42 = (13, 56) := by decide +kernel
theorem sh_43 : am_sh 43 = (13, 7) := by decide +kernel
theorem sh_44 : am_sh 44 = (1, 0) := by decide +kernel
theorem sh_45 : am_sh 45 = (13, 56) := by decide +kernel
theorem sh_46 : am_sh 46 = (13, 56) := by decide +kernel
theorem sh_47 : am_sh 47 = (13, 56) := by decide +kernel
theorem sh_48 : am_sh 48 = (13, 7) := by decide +kernel
theorem sh_49 : am_sh 49 = (1, 0) := by decide +kernel
theorem sh_50 : am_sh 50 = (13, 56) := by decide +kernel
theorem sh_51 : am_sh 51 = (13, 56) := by decide +kernel
theorem sh_52 : am_sh 52 = (13, 56) := by decide +kernel
theorem sh_53 : am_sh 53 = (13, 7) := by decide +kernel
theorem sh_54 : am_sh 54 = (1, 0) := by decide +kernel
theorem sh_55 : am_sh 55 = (13, 56) := by decide +kernel
theorem sh_56 : am_sh 56 = (13, 56) := by decide +kernel
theorem sh_57 : am_sh 57 = (13, 56) := by decide +kernel
theorem sh_58 : am_sh 58 = (13, 7) := by decide +kernel
theorem sh_59 : am_sh 59 = (1, 0) := by decide +kernel
theorem sh_60 : am_sh 60 = (13, 56) := by decide +kernel
theorem sh_61 : am_sh 61 = (13, 56) := by decide +kernel
theorem sh_62 : am_sh 62 = (13, 56) := by decide +kernel
theorem sh_63 : am_sh 63 = (13, 7) := by decide +kernel
theorem sh_64 : am_sh 64 = (1, 0) := by decide +kernel
theorem sh_65 : am_sh 65 = (13, 56) := by decide +kernel
theorem sh_66 : am_sh 66 = (13, 56) := by decide +kernel
theorem sh_67 : am_sh 67 = (13, 56) := by decide +kernel
theorem sh_68 : am_sh 68 = (13, 7) := by decide +kernel
theorem sh_69 : am_sh 69 = (1, 0) := by decide +kernel
theorem sh_70 : am_sh 70 = (13, 56) := by decide +kernel
theorem sh_71 : am_sh 71 = (13, 56) := by decide +kernel
theorem sh_72 : am_sh 72 = (13, 56) := by decide +kernel
theorem sh_73 : am_sh 73 = (13, 7) := by decide +kernel
theorem sh_74 : am_sh 74 = (1, 0) := by decide +kernel
theorem sh_75 : am_sh 75 = (13, 56) := by decide +kernel
theorem sh_76 : am_sh 76 = (13, 56) := by decide +kernel
theorem sh_77 : am_sh 77 = (13, 56) := by decide +kernel
theorem sh_78 : am_sh 78 = (13, 7) := by decide +kernel
theorem sh_79 : am_sh 79 = (1, 0) := by decide +kernel
theorem sh_80 : am_sh 80 = (13, 56) := by decide +kernel
theorem sh_81 : am_sh 81 = (13, 56) := by decide +kernel
theorem sh_82 : am_sh 82 = (13, 56) := by decide +kernel
theorem sh_83 : am_sh 83 = (13, 7) := by decide +kernel
theorem sh_84 : am_sh 84 = (1, 0) := by decide +kernel
theorem sh_85 : am_sh 85 = (13, 56) := by decide +kernel
theorem sh_86 : am_sh 86 = (13, 56) := by decide +kernel
theorem sh_87 : am_sh 87 = (13, 56) := by decide +kernel
theorem sh_88 : am_sh 88 = (13, 7) := by decide +kernel
theorem sh_89 : am_sh 89 = (1, 0) := by decide +kernel
theorem sh_90 : am_sh 90 = (13, 56) := by decide +kernel
theorem sh_91 : am_sh 91 = (13, 56) := by decide +kernel
theorem sh_92 : am_sh 92 = (13, 56) := by decide +kernel
theorem sh_93 : am_sh 93 = (13, 7) := by decide +kernel
theorem sh_94 : am_sh 94 = (1, 0) := by decide +kernel
theorem sh_95 : am_sh 95 = (13, 56) := by decide +kernel
theorem sh_96 : am_sh 96 = (13, 56) := by decide +kernel
theorem sh_97 : am_sh 97 = (13, 56) := by decide +kernel
theorem sh_98 : am_sh 98 = (13, 7) := by decide +kernel
theorem sh_99 : am_sh 99 = (1, 0) := by decide +kernel
theorem sh_100 : am_sh 100 = (13, 56) := by decide +kernel
theorem sh_101 : am_sh 101 = (13, 56) := by decide +kernel
theorem sh_102 : am_sh 102 = (13, 56) := by decide +kernel
theorem sh_103 : am_sh 103 = (13, 7) := by decide +kernel
theorem sh_104 : am_sh 104 = (1, 0) := by decide +kernel
theorem sh_105 : am_sh 105 = (13, 56) := by decide +kernel
theorem sh_106 : am_sh 106 = (13, 56) := by decide +kernel
theorem sh_107 : am_sh 107 = (13, 56) := by decide +kernel
theorem sh_108 : am_sh 108 = (13, 7) := by decide +kernel
theorem sh_109 : am_sh 109 = (1, 0) := by decide +kernel
theorem sh_110 : am_sh 110 = (13, 56) := by decide +kernel
theorem sh_111 : am_sh 111 = (13, 56) := by decide +kernel
theorem sh_112 : am_sh 112 = (13, 56) := by decide +kernel
theorem sh_113 : am_sh 113 = (13, 7) := by decide +kernel
theorem sh_114 : am_sh 114 = (1, 0) := by decide +kernel
theorem sh_115 : am_sh 115 = (13, 56) := by decide +kernel
theorem sh_116 : am_sh 116 = (13, 56) := by decide +kernel
theorem sh_117 : am_sh 117 = (13, 56) := by decide +kernel
theorem sh_118 : am_sh 118 = (13, 7) := by decide +kernel
theorem sh_119 : am_sh 119 = (1, 0) := by decide +kernel
theorem sh_120 : am_sh 120 = (13, 56) := by decide +kernel
theorem sh_121 : am_sh 121 = (13, 56) := by decide +kernel
theorem sh_122 : am_sh 122 = (13, 56) := by decide +kernel
theorem sh_123 : am_sh 123 = (13, 7) := by decide +kernel
theorem sh_124 : am_sh 124 = (1, 0) := by decide +kernel
theorem sh_125 : am_sh 125 = (13, 56) := by decide +kernel
theorem sh_126 : am_sh 126 = (13, 56) := by decide +kernel
theorem sh_127 : am_sh 127 = (13, 56) := by decide +kernel
theorem sh_128 : am_sh 128 = (13, 7) := by decide +kernel
theorem sh_129 : am_sh 129 = (1, 0) := by decide +kernel
theorem sh_130 : am_sh 130 = (13, 56) := by decide +kernel
theorem sh_131 : am_sh 131 = (13, 56) := by decide +kernel
theorem sh_132 : am_sh 132 = (13, 56) := by decide +kernel
theorem sh_133 : am_sh 133 = (13, 7) := by decide +kernel
theorem sh_134 : am_sh 134 = (5, 0) := by decide +kernel
theorem sh_135 : am_sh 135 = (9, 0) := by decide +kernel
theorem sh_136 : am_sh 136 = (13, 8) := by decide +kernel
theorem sh_137 : am_sh 137 = (1, 0) := by decide +kernel
theorem sh_138 : am_sh 138 = (13, 56) := by decide +kernel
theorem sh_139 : am_sh 139 = (13, 56) := by decide +kernel
theorem sh_140 : am_sh 140 = (13, 56) := by decide +kernel
theorem sh_141 : am_sh 141 = (13, 7) := by decide +kernel
theorem sh_142 : am_sh 142 = (13, 8) := by decide +kernel
theorem sh_143 : am_sh 143 = (14, 64) := by decide +kernel
theorem sh_144 : am_sh 144 = (2, 0) := by decide +kernel
theorem sh_145 : am_sh 145 = (13, 400) := by decide +kernel
theorem sh_146 : am_sh 146 = (13, 400) := by decide +kernel
theorem sh_147 : am_sh 147 = (15, 12) := by decide +kernel
theorem sh_148 : am_sh 148 = (13, 12) := by decide +kernel
theorem sh_149 : am_sh 149 = (13, 12) := by decide +kernel
theorem sh_150 : am_sh 150 = (13, 12) := by decide +kernel
theorem sh_151 : am_sh 151 = (2, 0) := by decide +kernel
theorem sh_152 : am_sh 152 = (13, 400) := by decide +kernel
theorem sh_153 : am_sh 153 = (13, 400) := by decide +kernel
theorem sh_154 : am_sh 154 = (15, 12) := by decide +kernel
theorem sh_155 : am_sh 155 = (13, 12) := by decide +kernel
theorem sh_156 : am_sh 156 = (13, 12) := by decide +kernel
theorem sh_157 : am_sh 157 = (13, 12) := by decide +kernel
theorem sh_158 : am_sh 158 = (2, 0) := by decide +kernel
theorem sh_159 : am_sh 159 = (13, 400) := by decide +kernel
theorem sh_160 : am_sh 160 = (13, 400) := by decide +kernel
theorem sh_161 : am_sh 161 = (15, 12) := by decide +kernel
theorem sh_162 : am_sh 162 = (13, 12) := by decide +kernel
theorem sh_163 : am_sh 163 = (13, 12) := by decide +kernel
theorem sh_164 : am_sh 164 = (13, 12) := by decide +kernel
theorem sh_165 : am_sh 165 = (2, 0) := by decide +kernel
theorem sh_166 : am_sh 166 = (13, 400) := by decide +kernel
theorem sh_167 : am_sh 167 = (13, 400) := by decide +kernel
theorem sh_168 : am_sh 168 = (15, 12) := by decide +kernel
theorem sh_169 : am_sh 169 = (13, 12) := by decide +kernel
theorem sh_170 : am_sh 170 = (13, 12) := by decide +kernel
theorem sh_171 : am_sh 171 = (13, 12) := by decide +kernel
theorem sh_172 : am_sh 172 = (2, 0) := by decide +kernel
theorem sh_173 : am_sh 173 = (13, 400) := by decide +kernel
theorem sh_174 : am_sh 174 = (13, 400) := by decide +kernel
theorem sh_175 : am_sh 175 = (15, 12) := by decide +kernel
theorem sh_176 : am_sh 176 = (13, 12) := by decide +kernel
theorem sh_177 : am_sh 177 = (13, 12) := by decide +kernel
theorem sh_178 : am_sh 178 = (13, 12) := by decide +kernel
theorem sh_179 : am_sh 179 = (2, 0) := by decide +kernel
theorem sh_180 : am_sh 180 = (13, 400) := by decide +kernel
theorem sh_181 : am_sh 181 = (13, 400) := by decide +kernel
theorem sh_182 : am_sh 182 = (15, 12) := by decide +kernel
theorem sh_183 : am_sh 183 = (13, 12) := by decide +kernel
theorem sh_184 : am_sh 184 = (13, 12) := by decide +kernel
theorem sh_185 : am_sh 185 = (13, 12) := by decide +kernel
theorem sh_186 : am_sh 186 = (4, 0) := by decide +kernel
theorem sh_187 : am_sh 187 = (7, 0) := by decide +kernel
theorem sh_188 : am_sh 188 = (13, 7) := by decide +kernel
theorem sh_189 : am_sh 189 = (13, 49) := by decide +kernel
theorem sh_190 : am_sh 190 = (13, 10) := by decide +kernel
theorem sh_191 : am_sh 191 = (13, 10) := by decide +kernel
theorem sh_192 : am_sh 192 = (13, 7) := by decide +kernel
theorem sh_193 : am_sh 193 = (13, 40) := by decide +kernel
theorem sh_194 : am_sh 194 = (13, 30) := by decide +kernel
theorem sh_195 : am_sh 195 = (1, 0) := by decide +kernel
theorem sh_196 : am_sh 196 = (13, 56) := by decide +kernel
theorem sh_197 : am_sh 197 = (13, 56) := by decide +kernel
theorem sh_198 : am_sh 198 = (13, 56) := by decide +kernel
theorem sh_199 : am_sh 199 = (13, 7) := by decide +kernel
theorem sh_200 : am_sh 200 = (13, 36) := by decide +kernel
theorem sh_201 : am_sh 201 = (4, 0) := by decide +kernel
theorem sh_202 : am_sh 202 = (7, 0) := by decide +kernel
theorem sh_203 : am_sh 203 = (13, 7) := by decide +kernel
theorem sh_204 : am_sh 204 = (13, 49) := by decide +kernel
theorem sh_205 : am_sh 205 = (13, 10) := by decide +kernel
theorem sh_206 : am_sh 206 = (13, 10) := by decide +kernel
theorem sh_207 : am_sh 207 = (13, 7) := by decide +kernel
theorem sh_208 : am_sh 208 = (13, 40) := by decide +kernel
theorem sh_209 : am_sh 209 = (13, 30) := by decide +kernel
theorem sh_210 : am_sh 210 = (1, 0) := by decide +kernel
theorem sh_211 : am_sh 211 = (13, 56) := by decide +kernel
theorem sh_212 : am_sh 212 = (13, 56) := by decide +kernel
theorem sh_213 : am_sh 213 = (13, 56) := by decide +kernel
theorem sh_214 : am_sh 214 = (13, 7) := by decide +kernel
theorem sh_215 : am_sh 215 = (13, 36) := by decide +kernel
theorem sh_216 : am_sh 216 = (4, 0) := by decide +kernel
theorem sh_217 : am_sh 217 = (7, 0) := by decide +kernel
theorem sh_218 : am_sh 218 = (13, 7) := by decide +kernel
theorem sh_219 : am_sh 219 = (13, 49) := by decide +kernel
theorem sh_220 : am_sh 220 = (13, 10) := by decide +kernel
theorem sh_221 : am_sh 221 = (13, 10) := by decide +kernel
theorem sh_222 : am_sh 222 = (13, 7) := by decide +kernel
theorem sh_223 : am_sh 223 = (13, 40) := by decide +kernel
theorem sh_224 : am_sh 224 = (13, 30) := by decide +kernel
theorem sh_225 : am_sh 225 = (1, 0) := by decide +kernel
theorem sh_226 : am_sh 226 = (13, 56) := by decide +kernel
theorem sh_227 : am_sh 227 = (13, 56) := by decide +kernel
theorem sh_228 : am_sh 228 = (13, 56) := by decide +kernel
theorem sh_229 : am_sh 229 = (13, 7) := by decide +kernel
theorem sh_230 : am_sh 230 = (13, 36) := by decide +kernel
theorem sh_231 : am_sh 231 = (4, 0) := by decide +kernel
theorem sh_232 : am_sh 232 = (7, 0) := by decide +kernel
theorem sh_233 : am_sh 233 = (13, 7) := by decide +kernel
theorem sh_234 : am_sh 234 = (13, 49) := by decide +kernel
theorem sh_235 : am_sh 235 = (13, 10) := by decide +kernel
theorem sh_236 : am_sh 236 = (13, 10) := by decide +kernel
theorem sh_237 : am_sh 237 = (13, 7) := by decide +kernel
theorem sh_238 : am_sh 238 = (13, 40) := by decide +kernel
theorem sh_239 : am_sh 239 = (13, 30) := by decide +kernel
theorem sh_240 : am_sh 240 = (1, 0) := by decide +kernel
theorem sh_241 : am_sh 241 = (13, 56) := by decide +kernel
theorem sh_242 : am_sh 242 = (13, 56) := by decide +kernel
theorem sh_243 : am_sh 243 = (13, 56) := by decide +kernel
theorem sh_244 : am_sh 244 = (13, 7) := by decide +kernel
theorem sh_245 : am_sh 245 = (13, 36) := by decide +kernel
theorem sh_246 : am_sh 246 = (8, 0) := by decide +kernel
theorem sh_247 : am_sh 247 = (3, 0) := by decide +kernel
theorem sh_248 : am_sh 248 = (11, 0) := by decide +kernel
theorem sh_249 : am_sh 249 = (12, 400) := by decide +kernel
theorem sh_250 : am_sh 250 = (13, 2400) := by decide +kernel
theorem sh_251 : am_sh 251 = (13, 7) := by decide +kernel
theorem sh_252 : am_sh 252 = (13, 360) := by decide +kernel
theorem sh_253 : am_sh 253 = (13, 6) := by decide +kernel
theorem sh_254 : am_sh 254 = (13, 270) := by decide +kernel
theorem sh_255 : am_sh 255 = (13, 400) := by decide +kernel
theorem sh_256 : am_sh 256 = (14, 64) := by decide +kernel
theorem sh_257 : am_sh 257 = (14, 14) := by decide +kernel
theorem sh_258 : am_sh 258 = (13, 328) := by decide +kernel
theorem sh_259 : am_sh 259 = (13, 8) := by decide +kernel
theorem sh_260 : am_sh 260 = (13, 2600) := by decide +kernel
theorem sh_261 : am_sh 261 = (13, 130) := by decide +kernel
theorem sh_262 : am_sh 262 = (13, 1312) := by decide +kernel
theorem sh_263 : am_sh 263 = (13, 4) := by decide +kernel
theorem sh_264 : am_sh 264 = (13, 4) := by decide +kernel
theorem sh_265 : am_sh 265 = (15, 4) := by decide +kernel
theorem rf_0_0 (t u : Nat) : am_r0 t u 0 0 = some 1 := (am_r0_o t u (by decide) (by decide)).trans (by decide +kernel)
theorem rf_0_2 (t u : Nat) : am_r0 t u 0 2 = some 2 := (am_r0_o t u (by decide) (by decide)).trans (by decide +kernel)
theorem rf_0_3 (t u : Nat) : am_r0 t u 0 3 = some 6 := (am_r0_o t u (by decide) (by decide)).trans (by decide +kernel)
theorem rf_0_4 (t u : Nat) : am_r0 t u 0 4 = some 14 := (am_r0_o t u (by decide) (by decide)).trans (by decide +kernel)
theorem rf_0_6 (t u : Nat) : am_r0 t u 0 6 = some 246 := (am_r0_o t u (by decide) (by decide)).trans (by decide +kernel)
theorem rf_0_7 (t u : Nat) : am_r0 t u 0 7 = some 247 := (am_r0_o t u (by decide) (by decide)).trans (by decide +kernel)
theorem rf_0_8 (t u : Nat) : am_r0 t u 0 8 = some 15 := (am_r0_o t u (by decide) (by decide)).trans (by decide +kernel)
theorem rf_0_9 (t u : Nat) : am_r0 t u 0 9 = some 30 := (am_r0_o t u (by decide) (by decide)).trans (by decide +kernel)
theorem rf_0_10 (t u : Nat) : am_r0 t u 0 10 = some 31 := (am_r0_o t u (by decide) (by decide)).trans (by decide +kernel)
theorem rf_0_11 (t u : Nat) : am_r0 t u 0 11 = some 32 := (am_r0_o t u (by decide) (by decide)).trans (by decide +kernel)
theorem rf_0_12 (t u : Nat) : am_r0 t u 0 12 = some 134 := (am_r0_o t u (by decide) (by decide)).trans (by decide +kernel)
theorem rf_0_13 (t u : Nat) : am_r0 t u 0 13 = some 135 := (am_r0_o t u (by decide) (by decide)).trans (by decide +kernel)
theorem rf_0_14 (t u : Nat) : am_r0 t u 0 14 = some 137 := (am_r0_o t u (by decide) (by decide)).trans (by decide +kernel)
theorem rf_0_16 (t u : Nat) : am_r0 t u 0 16 = some 142 := (am_r0_o t u (by decide) (by decide)).trans (by decide +kernel)
theorem rf_2_0 (t u : Nat) : am_r0 t u 2 0 = some 3 := (am_r0_o t u (by decide) (by decide)).trans (by decide +kernel)
theorem rf_2_1 (t u : Nat) : am_r0 t u 2 1 = some 4 := (am_r0_o t u (by decide) (by decide)).trans (by decide +kernel)
theorem rf_2_2 (t u : Nat) : am_r0 t u 2 2 = some 5 := (am_r0_o t u (by decide) (by decide)).trans (by decide +kernel)
theorem rf_6_4 (t u : Nat) : am_r0 t u 6 4 = some 7 := (am_r0_o t u (by decide) (by decide)).trans (by decide +kernel)
theorem rf_6_5 (t u : Nat) : am_r0 t u 6 5 = some 8 := (am_r0_o t u (by decide) (by decide)).trans (by decide +kernel)
theorem rf_6_7 (t u : Nat) : am_r0 t u 6 7 = some 9 := (am_r0_o t u (by decide) (by decide)).trans (by decide +kernel)
theorem rf_6_8 (t u : Nat) : am_r0 t u 6 8 = some 10 := (am_r0_o t u (by decide) (by decide)).trans (by decide +kernel)
theorem rf_6_9 (t u : Nat) : am_r0 t u 6 9 = some 11 := (am_r0_o t u (by decide) (by decide)).trans (by decide +kernel)
theorem rf_6_11 (t u : Nat) : am_r0 t u 6 11 = some 12 := (am_r0_o t u (by decide) (by decide)).trans (by decide +kernel)
theorem rf_6_13 (t u : Nat) : am_r0 t u 6 13 = some 13 := (am_r0_o t u (by decide) (by decide)).trans (by decide +kernel)
theorem rf_15_0 (t u : Nat) : am_r0 t u 15 0 = some 16 := (am_r0_o t u (by decide) (by decide)).trans (by decide +kernel)
theorem rf_15_1 (t u : Nat) : am_r0 t u 15 1 = some 24 := (am_r0_o t u (by decide) (by decide)).trans (by decide +kernel)
theorem rf_15_5 (t u : Nat) : am_r0 t u 15 5 = some 29 := (am_r0_o t u (by decide) (by decide)).trans (by decide +kernel)
theorem rf_16_4 (t u : Nat) : am_r0 t u 16 4 = some 17 := (am_r0_o t u (by decide) (by decide)).trans (by decide +kernel)
theorem rf_16_5 (t u : Nat) : am_r0 t u 16 5 = some 18 := (am_r0_o t u (by decide) (by decide)).trans (by decide +kernel)
theorem rf_16_7 (t u : Nat) : am_r0 t u 16 7 = some 19 := (am_r0_o t u (by decide) (by decide)).trans (by decide +kernel)
theorem rf_16_8 (t u : Nat) : am_r0 t u 16 8 = some 20 := (am_r0_o t u (by decide) (by decide)).trans (by decide +kernel)
theorem rf_16_9 (t u : Nat) : am_r0 t u 16 9 = some 21 := (am_r0_o t u (by decide) (by decide)).trans (by decide +kernel)
theorem rf_16_11 (t u : Nat) : am_r0 t u 16 11 = some 22 := (am_r0_o t u (by decide) (by decide)).trans (by decide +kernel)
theorem rf_16_13 (t u : Nat) : am_r0 t u 16 13 = some 23 := (am_r0_o t u (by decide) (by decide)).trans (by decide +kernel)
theorem rf_24_0 (t u : Nat) : am_r0 t u 24 0 = some 25 := (am_r0_o t u (by decide) (by decide)).trans (by decide +kernel)
theorem rf_24_1 (t u : Nat) : am_r0 t u 24 1 = some 26 := (am_r0_o t u (by decide) (by decide)).trans (by decide +kernel)
theorem rf_24_2 (t u : Nat) : am_r0 t u 24 2 = some 27 := (am_r0_o t u (by decide) (by decide)).trans (by decide +kernel)
theorem rf_24_3 (t u : Nat) : am_r0 t u 24 3 = some 28 := (am_r0_o t u (by decide) (by decide)).trans (by decide +kernel)
theorem rf_32_0 (t u : Nat) : am_r0 t u 32 0 = some 33 := (am_r0_o t u (by decide) (by decide)).trans (by decide +kernel)
theorem rf_134_0 (t u : Nat) : am_r0 t u 134 0 = some 16 := (am_r0_o t u (by decide) (by decide)).trans (by decide +kernel)
theorem rf_135_5 (t u : Nat) : am_r0 t u 135 5 = some 136 := (am_r0_o t u (by decide) (by decide)).trans (by decide +kernel)
theorem rf_137_0 (t u : Nat) : am_r0 t u 137 0 = some 138 := (am_r0_o t u (by decide) (by decide)).trans (by decide +kernel)
theorem rf_137_1 (t u : Nat) : am_r0 t u 137 1 = some 139 := (am_r0_o t u (by decide) (by decide)).trans (by decide +kernel)
theorem rf_137_2 (t u : Nat) : am_r0 t u 137 2 = some 140 := (am_r0_o t u (by decide) (by decide)).trans (by decide +kernel)
theorem rf_137_3 (t u : Nat) : am_r0 t u 137 3 = some 141 := (am_r0_o t u (by decide) (by decide)).trans (by decide +kernel)
theorem rf_246_0 (t u : Nat) : am_r0 t u 246 0 = some 2 := (am_r0_o t u (by decide) (by decide)).trans (by decide +kernel)
theorem rf_246_1 (t u : Nat) : am_r0 t u 246 1 = some 6 := (am_r0_o t u (by decide) (by decide)).trans (by decide +kernel)
theorem rf_247_0 (t u : Nat) : am_r0 t u 247 0 = some 2 := (am_r0_o t u (by decide) (by decide)).trans (by decide +kernel)
theorem rf_248_0 (t u : Nat) : am_r0 t u 248 0 = some 249 := (am_r0_o t u (by decide) (by decide)).trans (by decide +kernel)
theorem rf_248_3 (t u : Nat) : am_r0 t u 248 3 = some 250 := (am_r0_o t u (by decide) (by decide)).trans (by decide +kernel)
theorem rf_248_4 (t u : Nat) : am_r0 t u 248 4 = some 251 := (am_r0_o t u (by decide) (by decide)).trans (by decide +kernel)
theorem rf_248_5 (t u : Nat) : am_r0 t u 248 5 = some 252 := (am_r0_o t u (by decide) (by decide)).trans (by decide +kernel)
theorem rf_248_6 (t u : Nat) : am_r0 t u 248 6 = some 253 := (am_r0_o t u (by decide) (by decide)).trans (by decide +kernel)
theorem rf_248_7 (t u : Nat) : am_r0 t u 248 7 = some 254 := (am_r0_o t u (by decide) (by decide)).trans (by decide +kernel)
theorem rf_248_15 (t u : Nat) : am_r0 t u 248 15 = some 255 := (am_r0_o t u (by decide) (by decide)).trans (by decide +kernel)
theorem rf_248_17 (t u : Nat) : am_r0 t u 248 17 = some 256 := (am_r0_o t u (by decide) (by decide)).trans (by decide +kernel)
theorem rf_248_19 (t u : Nat) : am_r0 t u 248 19 = some 257 := (am_r0_o t u (by decide) (by decide)).trans (by decide +kernel)
theorem rf_248_20 (t u : Nat) : am_r0 t u 248 20 = some 258 := (am_r0_o t u (by decide) (by decide)).trans (by decide +kernel)
theorem rf_248_23 (t u : Nat) : am_r0 t u 248 23 = some 259 := (am_r0_o t u (by decide) (by decide)).trans (by decide +kernel)
theorem rf_248_24 (t u : Nat) : am_r0 t u 248 24 = some 260 := (am_r0_o t u (by decide) (by decide)).trans (by decide +kernel)
theorem rf_248_26 (t u : Nat) : am_r0 t u 248 26 = some 261 := (am_r0_o t u (by decide) (by decide)).trans (by decide +kernel)
theorem rf_248_28 (t u : Nat) : am_r0 t u 248 28 = some 262 := (am_r0_o t u (by decide) (by decide)).trans (by decide +kernel)
theorem rf_248_29 (t u : Nat) : am_r0 t u 248 29 = some 263 := (am_r0_o t u (by decide) (by decide)).trans (by decide +kernel)
theorem rf_248_30 (t u : Nat) : am_r0 t u 248 30 = some 264 := (am_r0_o t u (by decide) (by decide)).trans (by decide +kernel)
theorem rf_248_31 (t u : Nat) : am_r0 t u 248 31 = some 265 := (am_r0_o t u (by decide) (by decide)).trans (by decide +kernel)
theorem rf_134_1 (t u : Nat) : am_r0 t u 134 1 = some t := rfl
theorem rf_247_1 (t u : Nat) : am_r0 t u 247 1 = some u := rfl
def am_isL : List Nat := [24, 34, 39, 44, 49, 54, 59, 64, 69, 74, 79, 84, 89, 94, 99, 104, 109, 114, 119, 124, 129, 137, 195, 210, 225, 240]
theorem iL_lt : ∀ a ∈ am_isL, a + 15 < 279 := by decide +kernel
theorem iL_sh : ∀ a ∈ am_isL, am_sh a = (1, 0) := by decide +kernel
theorem iL_r0 (t u : Nat) : ∀ a ∈ am_isL, am_r0 t u a 0 = some (a + 1) := by
  intro a ha
  have h1 : a ≠ 134 ∧ a ≠ 247 := by revert a; decide +kernel
  simp only [am_r0, h1.1, h1.2, false_and, if_false]
  revert a
  decide +kernel
theorem iL_r1 (t u : Nat) : ∀ a ∈ am_isL, am_r0 t u a 1 = some (a + 2) := by
  intro a ha
  have h1 : a ≠ 134 ∧ a ≠ 247 := by revert a; decide +kernel
  simp only [am_r0, h1.1, h1.2, false_and, if_false]
  revert a
  decide +kernel
theorem iL_r2 (t u : Nat) : ∀ a ∈ am_isL, am_r0 t u a 2 = some (a + 3) := by
  intro a ha
  have h1 : a ≠ 134 ∧ a ≠ 247 := by revert a; decide +kernel
  simp only [am_r0, h1.1, h1.2, false_and, if_false]
  revert a
  decide +kernel
theorem iL_r3 (t u : Nat) : ∀ a ∈ am_isL, am_r0 t u a 3 = some (a + 4) := by
  intro a ha
  have h1 : a ≠ 134 ∧ a ≠ 247 := by revert a; decide +kernel
  simp only [am_r0, h1.1, h1.2, false_and, if_false]
  revert a
  decide +kernel
theorem iL_s1 : ∀ a ∈ am_isL, am_sh (a + 1) = (13, 56) := by decide +kernel
theorem iL_l1 : ∀ a ∈ am_isL, a + 1 < am_N := by decide +kernel
theorem iL_s2 : ∀ a ∈ am_isL, am_sh (a + 2) = (13, 56) := by decide +kernel
theorem iL_l2 : ∀ a ∈ am_isL, a + 2 < am_N := by decide +kernel
theorem iL_s3 : ∀ a ∈ am_isL, am_sh (a + 3) = (13, 56) := by decide +kernel
theorem iL_l3 : ∀ a ∈ am_isL, a + 3 < am_N := by decide +kernel
theorem iL_s4 : ∀ a ∈ am_isL, am_sh (a + 4) = (13, 7) := by decide +kernel
theorem iL_l4 : ∀ a ∈ am_isL, a + 4 < am_N := by decide +kernel
theorem iL_l0 : ∀ a ∈ am_isL, a < am_N := by decide +kernel
def am_isR : List Nat := [144, 151, 158, 165, 172, 179]
theorem iR_lt : ∀ a ∈ am_isR, a + 15 < 279 := by decide +kernel
theorem iR_sh : ∀ a ∈ am_isR, am_sh a = (2, 0) := by decide +kernel
theorem iR_r0 (t u : Nat) : ∀ a ∈ am_isR, am_r0 t u a 0 = some 143 := by
  intro a ha
  have h1 : a ≠ 134 ∧ a ≠ 247 := by revert a; decide +kernel
  simp only [am_r0, h1.1, h1.2, false_and, if_false]
  revert a
  decide +kernel
theorem iR_r1 (t u : Nat) : ∀ a ∈ am_isR, am_r0 t u a 1 = some (a + 1) := by
  intro a ha
  have h1 : a ≠ 134 ∧ a ≠ 247 := by revert a; decide +kernel
  simp only [am_r0, h1.1, h1.2, false_and, if_false]
  revert a
  decide +kernel
theorem iR_r2 (t u : Nat) : ∀ a ∈ am_isR, am_r0 t u a 2 = some (a + 2) := by
  intro a ha
  have h1 : a ≠ 134 ∧ a ≠ 247 := by revert a; decide +kernel
  simp only [am_r0, h1.1, h1.2, false_and, if_false]
  revert a
  decide +kernel
theorem iR_r4 (t u : Nat) : ∀ a ∈ am_isR, am_r0 t u a 4 = some (a + 3) := by
  intro a ha
  have h1 : a ≠ 134 ∧ a ≠ 247 := by revert a; decide +kernel
  simp only [am_r0, h1.1, h1.2, false_and, if_false]
  revert a
  decide +kernel
theorem iR_r5 (t u : Nat) : ∀ a ∈ am_isR, am_r0 t u a 5 = some (a + 4) := by
  intro a ha
  have h1 : a ≠ 134 ∧ a ≠ 247 := by revert a; decide +kernel
  simp only [am_r0, h1.1, h1.2, false_and, if_false]
  revert a
  decide +kernel
theorem iR_r6 (t u : Nat) : ∀ a ∈ am_isR, am_r0 t u a 6 = some (a + 5) := by
  intro a ha
  have h1 : a ≠ 134 ∧ a ≠ 247 := by revert a; decide +kernel
  simp only [am_r0, h1.1, h1.2, false_and, if_false]
  revert a
  decide +kernel
theorem iR_r7 (t u : Nat) : ∀ a ∈ am_isR, am_r0 t u a 7 = some (a + 6) := by
  intro a ha
  have h1 : a ≠ 134 ∧ a ≠ 247 := by revert a; decide +kernel
  simp only [am_r0, h1.1, h1.2, false_and, if_false]
  revert a
  decide +kernel
theorem iR_s1 : ∀ a ∈ am_isR, am_sh (a + 1) = (13, 400) := by decide +kernel
theorem iR_l1 : ∀ a ∈ am_isR, a + 1 < am_N := by decide +kernel
theorem iR_s2 : ∀ a ∈ am_isR, am_sh (a + 2) = (13, 400) := by decide +kernel
theorem iR_l2 : ∀ a ∈ am_isR, a + 2 < am_N := by decide +kernel
theorem iR_s3 : ∀ a ∈ am_isR, am_sh (a + 3) = (15, 12) := by decide +kernel
theorem iR_l3 : ∀ a ∈ am_isR, a + 3 < am_N := by decide +kernel
theorem iR_s4 : ∀ a ∈ am_isR, am_sh (a + 4) = (13, 12) := by decide +kernel
theorem iR_l4 : ∀ a ∈ am_isR, a + 4 < am_N := by decide +kernel
theorem iR_s5 : ∀ a ∈ am_isR, am_sh (a + 5) = (13, 12) := by decide +kernel
theorem iR_l5 : ∀ a ∈ am_isR, a + 5 < am_N := by decide +kernel
theorem iR_s6 : ∀ a ∈ am_isR, am_sh (a + 6) = (13, 12) := by decide +kernel
theorem iR_l6 : ∀ a ∈ am_isR, a + 6 < am_N := by decide +kernel
theorem iR_l0 : ∀ a ∈ am_isR, a < am_N := by decide +kernel
def am_isS : List Nat := [15, 186, 201, 216, 231]
theorem iS_lt : ∀ a ∈ am_isS, a + 15 < 279 := by decide +kernel
theorem iS_sh : ∀ a ∈ am_isS, am_sh a = (4, 0) := by decide +kernel
theorem iS_r0 (t u : Nat) : ∀ a ∈ am_isS, am_r0 t u a 0 = some (a + 1) := by
  intro a ha
  have h1 : a ≠ 134 ∧ a ≠ 247 := by revert a; decide +kernel
  simp only [am_r0, h1.1, h1.2, false_and, if_false]
  revert a
  decide +kernel
theorem iS_r1 (t u : Nat) : ∀ a ∈ am_isS, am_r0 t u a 1 = some (a + 9) := by
  intro a ha
  have h1 : a ≠ 134 ∧ a ≠ 247 := by revert a; decide +kernel
  simp only [am_r0, h1.1, h1.2, false_and, if_false]
  revert a
  decide +kernel
theorem iS_r5 (t u : Nat) : ∀ a ∈ am_isS, am_r0 t u a 5 = some (a + 14) := by
  intro a ha
  have h1 : a ≠ 134 ∧ a ≠ 247 := by revert a; decide +kernel
  simp only [am_r0, h1.1, h1.2, false_and, if_false]
  revert a
  decide +kernel
theorem iS_s1 : ∀ a ∈ am_isS, am_sh (a + 1) = (7, 0) := by decide +kernel
theorem iS_l1 : ∀ a ∈ am_isS, a + 1 < am_N := by decide +kernel
theorem iS_s9 : ∀ a ∈ am_isS, am_sh (a + 9) = (1, 0) := by decide +kernel
theorem iS_l9 : ∀ a ∈ am_isS, a + 9 < am_N := by decide +kernel
theorem iS_s14 : ∀ a ∈ am_isS, am_sh (a + 14) = (13, 36) := by decide +kernel
theorem iS_l14 : ∀ a ∈ am_isS, a + 14 < am_N := by decide +kernel
theorem iS_l0 : ∀ a ∈ am_isS, a < am_N := by decide +kernel
def am_isT : List Nat := [6, 16, 187, 202, 217, 232]
theorem iT_lt : ∀ a ∈ am_isT, a + 15 < 279 := by decide +kernel
theorem iT_sh : ∀ a ∈ am_isT, am_sh a = (7, 0) := by decide +kernel
theorem iT_r4 (t u : Nat) : ∀ a ∈ am_isT, am_r0 t u a 4 = some (a + 1) := by
  intro a ha
  have h1 : a ≠ 134 ∧ a ≠ 247 := by revert a; decide +kernel
  simp only [am_r0, h1.1, h1.2, false_and, if_false]
  revert a
  decide +kernel
theorem iT_r5 (t u : Nat) : ∀ a ∈ am_isT, am_r0 t u a 5 = some (a + 2) := by
  intro a ha
  have h1 : a ≠ 134 ∧ a ≠ 247 := by revert a; decide +kernel
  simp only [am_r0, h1.1, h1.2, false_and, if_false]
  revert a
  decide +kernel
theorem iT_r7 (t u : Nat) : ∀ a ∈ am_isT, am_r0 t u a 7 = some (a + 3) := by
  intro a ha
  have h1 : a ≠ 134 ∧ a ≠ 247 := by revert a; decide +kernel
  simp only [am_r0, h1.1, h1.2, false_and, if_false]
  revert a
  decide +kernel
theorem iT_r8 (t u : Nat) : ∀ a ∈ am_isT, am_r0 t u a 8 = some (a + 4) := by
  intro a ha
  have h1 : a ≠ 134 ∧ a ≠ 247 := by revert a; decide +kernel
  simp only [am_r0, h1.1, h1.2, false_and, if_false]
  revert a
  decide +kernel
theorem iT_r9 (t u : Nat) : ∀ a ∈ am_isT, am_r0 t u a 9 = some (a + 5) := by
  intro a ha
  have h1 : a ≠ 134 ∧ a ≠ 247 := by revert a; decide +kernel
  simp only [am_r0, h1.1, h1.2, false_and, if_false]
  revert a
  decide +kernel
theorem iT_r11 (t u : Nat) : ∀ a ∈ am_isT, am_r0 t u a 11 = some (a + 6) := by
  intro a ha
  have h1 : a ≠ 134 ∧ a ≠ 247 := by revert a; decide +kernel
  simp only [am_r0, h1.1, h1.2, false_and, if_false]
  revert a
  decide +kernel
theorem iT_r13 (t u : Nat) : ∀ a ∈ am_isT, am_r0 t u a 13 = some (a + 7) := by
  intro a ha
  have h1 : a ≠ 134 ∧ a ≠ 247 := by revert a; decide +kernel
  simp only [am_r0, h1.1, h1.2, false_and, if_false]
  revert a
  decide +kernel
theorem iT_s1 : ∀ a ∈ am_isT, am_sh (a + 1) = (13, 7) := by decide +kernel
theorem iT_l1 : ∀ a ∈ am_isT, a + 1 < am_N := by decide +kernel
theorem iT_s2 : ∀ a ∈ am_isT, am_sh (a + 2) = (13, 49) := by decide +kernel
theorem iT_l2 : ∀ a ∈ am_isT, a + 2 < am_N := by decide +kernel
theorem iT_s3 : ∀ a ∈ am_isT, am_sh (a + 3) = (13, 10) := by decide +kernel
theorem iT_l3 : ∀ a ∈ am_isT, a + 3 < am_N := by decide +kernel
theorem iT_s4 : ∀ a ∈ am_isT, am_sh (a + 4) = (13, 10) := by decide +kernel
theorem iT_l4 : ∀ a ∈ am_isT, a + 4 < am_N := by decide +kernel
theorem iT_s5 : ∀ a ∈ am_isT, am_sh (a + 5) = (13, 7) := by decide +kernel
theorem iT_l5 : ∀ a ∈ am_isT, a + 5 < am_N := by decide +kernel
theorem iT_s6 : ∀ a ∈ am_isT, am_sh (a + 6) = (13, 40) := by decide +kernel
theorem iT_l6 : ∀ a ∈ am_isT, a + 6 < am_N := by decide +kernel
theorem iT_s7 : ∀ a ∈ am_isT, am_sh (a + 7) = (13, 30) := by decide +kernel
theorem iT_l7 : ∀ a ∈ am_isT, a + 7 < am_N := by decide +kernel
theorem iT_l0 : ∀ a ∈ am_isT, a < am_N := by decide +kernel
theorem iS_T : ∀ a ∈ am_isS, a + 1 ∈ am_isT := by decide +kernel
theorem iS_L : ∀ a ∈ am_isS, a + 9 ∈ am_isL := by decide +kernel
theorem ra_14 (t u : Nat) : ∀ j, j < 6 → am_r0 t u 14 j = some (144 + 7 * j) := by
  intro j hj
  simp only [am_r0, show ¬ ((14 : Nat) = 134 ∧ j = 1) from fun h => absurd h.1 (by decide), show ¬ ((14 : Nat) = 247 ∧ j = 1) from fun h => absurd h.1 (by decide), if_false]
  revert j
  decide +kernel
theorem rb_14 : ∀ j, j < 6 → (144 + 7 * j) ∈ am_isR := by decide +kernel
theorem ra_30 (t u : Nat) : ∀ j, j < 4 → am_r0 t u 30 j = some (186 + 15 * j) := by
  intro j hj
  simp only [am_r0, show ¬ ((30 : Nat) = 134 ∧ j = 1) from fun h => absurd h.1 (by decide), show ¬ ((30 : Nat) = 247 ∧ j = 1) from fun h => absurd h.1 (by decide), if_false]
  revert j
  decide +kernel
theorem rb_30 : ∀ j, j < 4 → (186 + 15 * j) ∈ am_isS := by decide +kernel
theorem ra_33 (t u : Nat) : ∀ j, j < 20 → am_r0 t u 33 j = some (34 + 5 * j) := by
  intro j hj
  simp only [am_r0, show ¬ ((33 : Nat) = 134 ∧ j = 1) from fun h => absurd h.1 (by decide), show ¬ ((33 : Nat) = 247 ∧ j = 1) from fun h => absurd h.1 (by decide), if_false]
  revert j
  decide +kernel
theorem rb_33 : ∀ j, j < 20 → (34 + 5 * j) ∈ am_isL := by decide +kernel
/-! the functions' combinators -/
def am_if {α : Type} (c : Prop) [Decidable c] (a b : Option α) : Option α := if c then a else b
def am_gd {α : Type} (c : Prop) [Decidable c] (a : Option α) : Option α := if c then a else none
def am_lt {α β : Type} (v : α) (k : α → Option β) : Option β := k v
def am_bd {α β : Type} (o : Option α) (k : α → Option β) : Option β := match o with
  | none => none
  | some y => k y
def am_b2 {α β : Type} (o : Option (α × am_S)) (k : α → am_S → Option β) : Option β := match o with
  | none => none
  | some y => k y.1 y.2
def am_lp {σ ε : Type} (body : σ → Option (σ ⊕ ε)) : Nat → σ → Option ε
  | 0, _ => none
  | n + 1, s => match body s with
    | none => none
    | some (.inl s2) => am_lp body n s2
    | some (.inr e) => some e
theorem am_ifT {α : Type} {c : Prop} [Decidable c] {a b : Option α} {z : α} (E : am_if c a b = some z) (h : c) : a = some z := by rwa [am_if, if_pos h] at E
theorem am_ifF {α : Type} {c : Prop} [Decidable c] {a b : Option α} {z : α} (E : am_if c a b = some z) (h : ¬ c) : b = some z := by rwa [am_if, if_neg h] at E
theorem am_gdE {α : Type} {c : Prop} [Decidable c] {a : Option α} {z : α} (E : am_gd c a = some z) : c ∧ a = some z := by
  by_cases h : c
  · exact ⟨h, by rwa [am_gd, if_pos h] at E⟩
  · rw [am_gd, if_neg h] at E
    cases E
theorem am_ltE {α β : Type} {v : α} {k : α → Option β} {z : β} (E : am_lt v k = some z) : ∃ y, y = v ∧ k y = some z := ⟨v, rfl, E⟩
theorem am_bdE {α β : Type} {o : Option α} {k : α → Option β} {z : β} (E : am_bd o k = some z) : ∃ y, o = some y ∧ k y = some z := by
  cases o with
  | none => cases E
  | some y => exact ⟨y, rfl, E⟩
theorem am_b2E {α β : Type} {o : Option (α × am_S)} {k : α → am_S → Option β} {z : β} (E : am_b2 o k = some z) : ∃ y s, o = some (y, s) ∧ k y s = some z := by
  cases o with
  | none => cases E
  | some y => exact ⟨y.1, y.2, rfl, E⟩
theorem am_lpE {σ ε : Type} {body : σ → Option (σ ⊕ ε)} {n : Nat} {s : σ} {e : ε} (E : am_lp body (n + 1) s = some e) : ∃ r, body s = some r ∧ ((∃ s2, r = .inl s2 ∧ am_lp body n s2 = some e) ∨ r = .inr e) := by
  unfold am_lp at E
  cases hb : body s with
  | none => rw [hb] at E; cases E
  | some r =>
    rw [hb] at E
    cases r with
    | inl s2 => exact ⟨_, rfl, Or.inl ⟨s2, rfl, E⟩⟩
    | inr e2 => cases E; exact ⟨_, rfl, Or.inr rfl⟩
theorem am_vin {i : Int32} {n : Nat} (h : ¬ i < 0 ∧ i.toNatClampNeg < n) : vp_in i n := fun q => q.elim h.1 (fun z => by have := h.2; omega)
theorem am_neI {u c : Int32} (h : ¬ u = c) (k : Int) (hk : c.toInt = k) : u.toInt ≠ k := fun e => h (Int32.toInt_inj.mp (e.trans hk.symm))
section AMV
variable {x : am_X} {own : String} {cc : ByteArray} {nL d0 : Nat} {lv : List (Nat × Value)} {st : List Value} {s s2 : am_S}
theorem AR.le {fr lo mc ms fr2 lo2 : Nat} (A : AR x fr lo mc ms) (h1 : fr2 ≤ fr) (h2 : lo2 ≤ lo) : AR x fr2 lo2 mc ms := by
  obtain ⟨p, l, e, R, s, m, args, below, meth, c, b, D, cs, Q⟩ := x
  exact ⟨Nat.le_trans h1 A.1, Nat.le_trans h2 A.2.1, A.2.2⟩
theorem as_nm {pc : Nat} {u v : Int32} (hv : v = u) (kk : AX x 0 0 pc lv (.int v :: st) am_N (am_h s)) : AX x 0 0 pc lv (.int u :: st) am_N (am_h s) := hv ▸ kk
theorem as_nml {pc : Nat} {u v : Int64} (hv : v = u) (kk : AX x 0 0 pc lv (.long v :: st) am_N (am_h s)) : AX x 0 0 pc lv (.long u :: st) am_N (am_h s) := hv ▸ kk
theorem as_nmr {pc : Nat} {u v : Nat} (hv : v = u) (kk : AX x 0 0 pc lv (.ref v :: st) am_N (am_h s)) : AX x 0 0 pc lv (.ref u :: st) am_N (am_h s) := hv ▸ kk
theorem as_geti (pc : Nat) {idx ci k a l : Nat} {ty : FieldType} {fin : Bool} (C : AC x own cc nL) (f : AF own idx ci k 0 ty fin) (d : decode cc pc = .ok (.getfield idx, 3)) (ha : a < am_N) (hs : am_sh a = (ci, l)) (kk : AX x 0 0 (pc + 3) lv (.int (s.1 a k) :: st) am_N (am_h s)) : AX x 0 0 pc lv (.ref a :: st) am_N (am_h s) := am_geti pc C f d ha (congrArg Prod.fst hs) kk
theorem as_getl (pc : Nat) {idx ci k a l : Nat} {ty : FieldType} {fin : Bool} (C : AC x own cc nL) (f : AF own idx ci k 1 ty fin) (d : decode cc pc = .ok (.getfield idx, 3)) (ha : a < am_N) (hs : am_sh a = (ci, l)) (kk : AX x 0 0 (pc + 3) lv (.long (s.2.1 a k) :: st) am_N (am_h s)) : AX x 0 0 pc lv (.ref a :: st) am_N (am_h s) := am_getl pc C f d ha (congrArg Prod.fst hs) kk
theorem as_getr (pc : Nat) {idx ci k a l q : Nat} {ty : FieldType} {fin : Bool} (C : AC x own cc nL) (f : AF own idx ci k 2 ty fin) (d : decode cc pc = .ok (.getfield idx, 3)) (ha : a < am_N) (hs : am_sh a = (ci, l)) (hq : am_r0 s.2.2.1 s.2.2.2 a k = some q) (kk : AX x 0 0 (pc + 3) lv (.ref q :: st) am_N (am_h s)) : AX x 0 0 pc lv (.ref a :: st) am_N (am_h s) := am_getr pc q C f d ha (congrArg Prod.fst hs) hq kk
theorem as_puti (pc : Nat) {idx ci k a l : Nat} {ty : FieldType} {v : Int32} (C : AC x own cc nL) (f : AF own idx ci k 0 ty false) (d : decode cc pc = .ok (.putfield idx, 3)) (ha : a < am_N) (hs : am_sh a = (ci, l)) (hn : narrow ty (.int v) = .int v) (hfit : fits ty (.int v) = true) (e : s2 = as_i s a k v) (kk : AX x 0 0 (pc + 3) lv st am_N (am_h s2)) : AX x 0 0 pc lv (.int v :: .ref a :: st) am_N (am_h s) := am_puti pc C f d ha (congrArg Prod.fst hs) hn hfit (by subst e; exact kk)
theorem as_putl (pc : Nat) {idx ci k a l : Nat} {v : Int64} (C : AC x own cc nL) (f : AF own idx ci k 1 .long false) (d : decode cc pc = .ok (.putfield idx, 3)) (ha : a < am_N) (hs : am_sh a = (ci, l)) (e : s2 = as_j s a k v) (kk : AX x 0 0 (pc + 3) lv st am_N (am_h s2)) : AX x 0 0 pc lv (.long v :: .ref a :: st) am_N (am_h s) := am_putl pc C f d ha (congrArg Prod.fst hs) (by subst e; exact kk)
theorem as_putt (pc : Nat) {idx l q : Nat} {C1 : String} (C : AC x own cc nL) (f : AF own idx 5 1 2 (.object C1) false) (d : decode cc pc = .ok (.putfield idx, 3)) (hs : am_sh 134 = (5, l)) (e : s2 = as_t s q) (kk : AX x 0 0 (pc + 3) lv st am_N (am_h s2)) : AX x 0 0 pc lv (.ref q :: .ref 134 :: st) am_N (am_h s) := am_putr pc C f d (by decide) (congrArg Prod.fst hs) (fun _ => rfl) (fun _ => rfl) (Or.inl rfl) (by
  subst e
  show AX x 0 0 (pc + 3) lv st am_N (s.1, s.2.1, am_up (am_r0 s.2.2.1 s.2.2.2) 134 1 (some q))
  rw [am_r0_t]
  exact kk)
theorem as_putu (pc : Nat) {idx l q : Nat} {C1 : String} (C : AC x own cc nL) (f : AF own idx 3 1 2 (.object C1) false) (d : decode cc pc = .ok (.putfield idx, 3)) (hs : am_sh 247 = (3, l)) (e : s2 = as_u s q) (kk : AX x 0 0 (pc + 3) lv st am_N (am_h s2)) : AX x 0 0 pc lv (.ref q :: .ref 247 :: st) am_N (am_h s) := am_putr pc C f d (by decide) (congrArg Prod.fst hs) (fun _ => rfl) (fun _ => rfl) (Or.inl rfl) (by
  subst e
  show AX x 0 0 (pc + 3) lv st am_N (s.1, s.2.1, am_up (am_r0 s.2.2.1 s.2.2.2) 247 1 (some q))
  rw [am_r0_u]
  exact kk)
theorem as_putw (pc : Nat) {idx l : Nat} {C1 : String} (C : AC x own cc nL) (f : AF own idx 8 1 2 (.object C1) false) (d : decode cc pc = .ok (.putfield idx, 3)) (hs : am_sh 246 = (8, l)) (kk : AX x 0 0 (pc + 3) lv st am_N (am_h s)) : AX x 0 0 pc lv (.ref 6 :: .ref 246 :: st) am_N (am_h s) := am_putr pc C f d (by decide) (congrArg Prod.fst hs) (fun _ => rfl) (fun _ => rfl) (Or.inl rfl) (by
  show AX x 0 0 (pc + 3) lv st am_N (s.1, s.2.1, am_up (am_r0 s.2.2.1 s.2.2.2) 246 1 (some 6))
  rw [am_r0_w]
  exact kk)
theorem as_iald (pc : Nat) {a len : Nat} {i : Int32} (C : AC x own cc nL) (d : decode cc pc = .ok (.iaload, 1)) (ha : a < am_N) (hs : am_sh a = (13, len)) (hin : ¬ i < 0 ∧ i.toNatClampNeg < len) (kk : AX x 0 0 (pc + 1) lv (.int (s.1 a i.toNatClampNeg) :: st) am_N (am_h s)) : AX x 0 0 pc lv (.int i :: .ref a :: st) am_N (am_h s) := am_iald pc C d ha hs (am_vin hin) kk
theorem as_bald (pc : Nat) {a len : Nat} {i : Int32} (C : AC x own cc nL) (d : decode cc pc = .ok (.baload, 1)) (ha : a < am_N) (hs : am_sh a = (12, len)) (hin : ¬ i < 0 ∧ i.toNatClampNeg < len) (kk : AX x 0 0 (pc + 1) lv (.int (s.1 a i.toNatClampNeg) :: st) am_N (am_h s)) : AX x 0 0 pc lv (.int i :: .ref a :: st) am_N (am_h s) := am_bald pc C d ha hs (am_vin hin) kk
theorem as_zald (pc : Nat) {a len : Nat} {i : Int32} (C : AC x own cc nL) (d : decode cc pc = .ok (.baload, 1)) (ha : a < am_N) (hs : am_sh a = (15, len)) (hin : ¬ i < 0 ∧ i.toNatClampNeg < len) (kk : AX x 0 0 (pc + 1) lv (.int (s.1 a i.toNatClampNeg) :: st) am_N (am_h s)) : AX x 0 0 pc lv (.int i :: .ref a :: st) am_N (am_h s) := am_zald pc C d ha hs (am_vin hin) kk
theorem as_lald (pc : Nat) {a len : Nat} {i : Int32} (C : AC x own cc nL) (d : decode cc pc = .ok (.laload, 1)) (ha : a < am_N) (hs : am_sh a = (14, len)) (hin : ¬ i < 0 ∧ i.toNatClampNeg < len) (kk : AX x 0 0 (pc + 1) lv (.long (s.2.1 a i.toNatClampNeg) :: st) am_N (am_h s)) : AX x 0 0 pc lv (.int i :: .ref a :: st) am_N (am_h s) := am_lald pc C d ha hs (am_vin hin) kk
theorem as_aald (pc : Nat) {a kd len q : Nat} {i : Int32} (C : AC x own cc nL) (d : decode cc pc = .ok (.aaload, 1)) (ha : a < am_N) (hs : am_sh a = (kd, len)) (hk : kd = 16 ∨ kd = 17 ∨ kd = 18) (hin : ¬ i < 0 ∧ i.toNatClampNeg < len) (hq : ∀ t u, am_r0 t u a i.toNatClampNeg = some q) (kk : AX x 0 0 (pc + 1) lv (.ref q :: st) am_N (am_h s)) : AX x 0 0 pc lv (.int i :: .ref a :: st) am_N (am_h s) := am_aald pc C d ha hs hk (am_vin hin) (hq _ _) kk
theorem as_iast (pc : Nat) {a len : Nat} {i v : Int32} (C : AC x own cc nL) (d : decode cc pc = .ok (.iastore, 1)) (ha : a < am_N) (hs : am_sh a = (13, len)) (hin : ¬ i < 0 ∧ i.toNatClampNeg < len) (e : s2 = as_i s a i.toNatClampNeg v) (kk : AX x 0 0 (pc + 1) lv st am_N (am_h s2)) : AX x 0 0 pc lv (.int v :: .int i :: .ref a :: st) am_N (am_h s) := am_iast pc C d ha hs (am_vin hin) (by subst e; exact kk)
theorem as_bast (pc : Nat) {a len : Nat} {i v : Int32} (C : AC x own cc nL) (d : decode cc pc = .ok (.bastore, 1)) (ha : a < am_N) (hs : am_sh a = (12, len)) (hin : ¬ i < 0 ∧ i.toNatClampNeg < len) (e : s2 = as_i s a i.toNatClampNeg (vp_nar .byte v)) (kk : AX x 0 0 (pc + 1) lv st am_N (am_h s2)) : AX x 0 0 pc lv (.int v :: .int i :: .ref a :: st) am_N (am_h s) := am_bast pc C d ha hs (am_vin hin) (by subst e; exact kk)
theorem as_zast (pc : Nat) {a len : Nat} {i v : Int32} (C : AC x own cc nL) (d : decode cc pc = .ok (.bastore, 1)) (ha : a < am_N) (hs : am_sh a = (15, len)) (hin : ¬ i < 0 ∧ i.toNatClampNeg < len) (e : s2 = as_i s a i.toNatClampNeg (vp_nar .boolean v)) (kk : AX x 0 0 (pc + 1) lv st am_N (am_h s2)) : AX x 0 0 pc lv (.int v :: .int i :: .ref a :: st) am_N (am_h s) := am_zast pc C d ha hs (am_vin hin) (by subst e; exact kk)
theorem as_last (pc : Nat) {a len : Nat} {i : Int32} {v : Int64} (C : AC x own cc nL) (d : decode cc pc = .ok (.lastore, 1)) (ha : a < am_N) (hs : am_sh a = (14, len)) (hin : ¬ i < 0 ∧ i.toNatClampNeg < len) (e : s2 = as_j s a i.toNatClampNeg v) (kk : AX x 0 0 (pc + 1) lv st am_N (am_h s2)) : AX x 0 0 pc lv (.long v :: .int i :: .ref a :: st) am_N (am_h s) := am_last pc C d ha hs (am_vin hin) (by subst e; exact kk)
theorem as_copy (pc : Nat) {idx a0 a1 n0 n1 : Nat} {sp dp k : Int32} (C : AC x own cc nL) (A : AR x d0 (64 * d0) 0 0) (hd : 1 ≤ d0) (L : Cond.methodLink own idx arraycopyName ∈ am_tbl) (ha0 : a0 < am_N) (ha1 : a1 < am_N) (hs0 : am_sh a0 = (13, n0)) (hs1 : am_sh a1 = (13, n1)) (hg : ¬ sp < 0 ∧ ¬ dp < 0 ∧ ¬ k < 0 ∧ sp.toNatClampNeg + k.toNatClampNeg ≤ n0 ∧ dp.toNatClampNeg + k.toNatClampNeg ≤ n1) (hsum : (st.map fun v => v.category).sum ≤ 8) (d : decode cc pc = .ok (.invokestatic idx, 3))
    (e : s2 = as_w s a1 (va_cpy (s.1 a0) (s.1 a1) sp.toNatClampNeg dp.toNatClampNeg k.toNatClampNeg)) (kk : AX x 0 0 (pc + 3) lv st am_N (am_h s2)) : AX x 0 0 pc lv (.int k :: .int dp :: .ref a1 :: .int sp :: .ref a0 :: st) am_N (am_h s) := am_copy pc C (A.le hd (by omega)) L jc_1 jc_2 jc_3 ha0 ha1 hs0 hs1 hg.1 hg.2.1 hg.2.2.1 hg.2.2.2.1 hg.2.2.2.2 hsum d (by subst e; exact kk)
theorem as_min (pc : Nat) {idx : Nat} {u v : Int32} (C : AC x own cc nL) (A : AR x d0 (64 * d0) 0 0) (hd : 1 ≤ d0) (L : Cond.methodLink own idx Lib.Math.min.name ∈ am_tbl) (hsum : (st.map fun v => v.category).sum ≤ 8) (d : decode cc pc = .ok (.invokestatic idx, 3)) (kk : AX x 0 0 (pc + 3) lv (.int (if v < u then v else u) :: st) am_N (am_h s)) : AX x 0 0 pc lv (.int v :: .int u :: st) am_N (am_h s) := am_min pc C (A.le hd (by omega)) L jm_min1 jm_0 jm_min2 hsum d kk
theorem as_max (pc : Nat) {idx : Nat} {u v : Int32} (C : AC x own cc nL) (A : AR x d0 (64 * d0) 0 0) (hd : 1 ≤ d0) (L : Cond.methodLink own idx Lib.Math.max.name ∈ am_tbl) (hsum : (st.map fun v => v.category).sum ≤ 8) (d : decode cc pc = .ok (.invokestatic idx, 3)) (kk : AX x 0 0 (pc + 3) lv (.int (if u < v then v else u) :: st) am_N (am_h s)) : AX x 0 0 pc lv (.int v :: .int u :: st) am_N (am_h s) := am_max pc C (A.le hd (by omega)) L jm_max1 jm_0 jm_max2 hsum d kk
/-- a method's contract behind the constructors -/
def AS (y : MethodName) (cc : ByteArray) (nL : Nat) (rt : Option FieldType) (d : Nat) (av : List Value) (s : am_S) (r : Option Value) (s2 : am_S) : Prop := AM y cc nL rt d 0 0 av am_N (am_h s) (r, am_N, am_h s2)
/-- the end of a walk -/
def AE (x : am_X) (rt : Option FieldType) (r : Option Value) (s2 : am_S) : Prop := AZ x rt 0 0 (r, am_N, am_h s2)
theorem as_met {y : MethodName} {cc : ByteArray} {nL : Nat} {rt : Option FieldType} {d : Nat} {av : List Value} {s s2 : am_S} {r : Option Value} {lv : List (Nat × Value)} (hy : plainName y.cls = true) (hl : (lg_sl av).length ≤ nL) (hlv : lv_args 0 av = lv)
    (core : ∀ x, AC x y.cls cc nL → AR x d (64 * d) 0 0 → AE x rt r s2 → AX x 0 0 0 lv [] am_N (am_h s)) : AS y cc nL rt d av s r s2 := am_met hy hl (fun x C A Z _ => by rw [hlv]; exact core x C A Z)
theorem as_iret (pc : Nat) {v : Int32} {ty : FieldType} (C : AC x own cc nL) (Z : AE x (some ty) (some (.int v)) s) (hn : narrow ty (.int v) = .int v) (d : decode cc pc = .ok (.ireturn, 1)) : AX x 0 0 pc lv [.int v] am_N (am_h s) := am_iret pc C Z hn d
theorem as_lret (pc : Nat) {v : Int64} (C : AC x own cc nL) (Z : AE x (some .long) (some (.long v)) s) (d : decode cc pc = .ok (.lreturn, 1)) : AX x 0 0 pc lv [.long v] am_N (am_h s) := am_lret pc C Z d
theorem as_vret (pc : Nat) (C : AC x own cc nL) (Z : AE x none none s) (d : decode cc pc = .ok (.return_, 1)) : AX x 0 0 pc lv [] am_N (am_h s) := am_vret pc C Z d
theorem as_callV (pc : Nat) {idx d2 a ci np l : Nat} {y : MethodName} {cc2 : ByteArray} {nL2 : Nat} {rt : Option FieldType} {r : Option Value} (As : List Value) {stk st2 : List Value} (C : AC x own cc nL) (A : AR x d0 (64 * d0) 0 0) (hd : d2 + 1 ≤ d0) (L : Cond.methodLink own idx y ∈ am_tbl) (Y : AYc y cc2 nL2 rt np) (V : AYv y ci) (hM : AS y cc2 nL2 rt d2 (.ref a :: As) s r s2) (ha : a < am_N) (hs : am_sh a = (ci, l)) (hnp : As.length = np) (hst : stk = As.reverse ++ .ref a :: st) (hsum : (st.map fun v => v.category).sum ≤ 8) (hst2 : r.toList ++ st = st2) (d : decode cc pc = .ok (.invokevirtual idx, 3)) (kk : AX x 0 0 (pc + 3) lv st2 am_N (am_h s2)) : AX x 0 0 pc lv stk am_N (am_h s) := am_callV pc As C (A.le hd (by omega)) L Y V hM rfl ha (congrArg Prod.fst hs) hnp hst hsum hst2 d kk
theorem as_callS (pc : Nat) {idx d2 np : Nat} {y : MethodName} {cc2 : ByteArray} {nL2 : Nat} {rt : Option FieldType} {r : Option Value} (As : List Value) {stk st2 : List Value} (C : AC x own cc nL) (A : AR x d0 (64 * d0) 0 0) (hd : d2 + 1 ≤ d0) (L : Cond.methodLink own idx y ∈ am_tbl) (Y : AYc y cc2 nL2 rt np) (V : Cond.static y ∈ am_tbl) (hM : AS y cc2 nL2 rt d2 As s r s2) (hnp : As.length = np) (hst : stk = As.reverse ++ st) (hsum : (st.map fun v => v.category).sum ≤ 8) (hst2 : r.toList ++ st = st2) (d : decode cc pc = .ok (.invokestatic idx, 3)) (kk : AX x 0 0 (pc + 3) lv st2 am_N (am_h s2)) : AX x 0 0 pc lv stk am_N (am_h s) := am_callS pc As C (A.le hd (by omega)) L Y V hM rfl hnp hst hsum hst2 d kk
theorem as_callSN (pc : Nat) {idx d2 np : Nat} {host : String} {y : MethodName} {cc2 : ByteArray} {nL2 : Nat} {rt : Option FieldType} {r : Option Value} (As : List Value) {stk st2 : List Value} (C : AC x own cc nL) (A : AR x d0 (64 * d0) 0 0) (hd : d2 + 1 ≤ d0) (L : Cond.methodLinkNest own idx y host ∈ am_nest) (Y : AYc y cc2 nL2 rt np) (V : Cond.static y ∈ am_tbl) (hM : AS y cc2 nL2 rt d2 As s r s2) (hnp : As.length = np) (hst : stk = As.reverse ++ st) (hsum : (st.map fun v => v.category).sum ≤ 8) (hst2 : r.toList ++ st = st2) (d : decode cc pc = .ok (.invokestatic idx, 3)) (kk : AX x 0 0 (pc + 3) lv st2 am_N (am_h s2)) : AX x 0 0 pc lv stk am_N (am_h s) := am_callSN pc As C (A.le hd (by omega)) L Y V hM rfl hnp hst hsum hst2 d kk
theorem as_callU (pc : Nat) {idx d2 a ci np l : Nat} {Cn owner : String} {xx y : MethodName} {cc2 : ByteArray} {nL2 : Nat} {rt : Option FieldType} {r : Option Value} (As : List Value) {stk st2 : List Value} (C : AC x own cc nL) (A : AR x d0 (64 * d0) 0 0) (hd : d2 + 1 ≤ d0) (Y : AYc y cc2 nL2 rt np)
    (V : Cond.methodLink own idx xx ∈ am_tbl ∧ Cond.sameMethod xx.cls owner xx.name xx.desc ∈ am_tbl ∧ Cond.selects Cn xx y ∈ am_tbl ∧ Cond.instanceMethod y ∈ am_tbl ∧ Cond.declares ⟨owner, xx.name, xx.desc⟩ ∈ am_nest ∧ (owner ≠ "java/lang/invoke/MethodHandle" ∧ owner ≠ "java/lang/invoke/VarHandle" ∧ (parseMethodDescriptor xx.desc).map (fun d => d.parameters.length) = some np) ∧ ∃ q : vw_C, vwCl[ci]? = some q ∧ q.1 = Cn ∧ ci < 12)
    (hM : AS y cc2 nL2 rt d2 (.ref a :: As) s r s2) (ha : a < am_N) (hs : am_sh a = (ci, l)) (hnp : As.length = np) (hst : stk = As.reverse ++ .ref a :: st) (hsum : (st.map fun v => v.category).sum ≤ 8) (hst2 : r.toList ++ st = st2) (d : decode cc pc = .ok (.invokevirtual idx, 3)) (kk : AX x 0 0 (pc + 3) lv st2 am_N (am_h s2)) : AX x 0 0 pc lv stk am_N (am_h s) := am_callU pc As C (A.le hd (by omega)) Y V hM rfl ha (congrArg Prod.fst hs) hnp hst hsum hst2 d kk
end AMV
theorem am_lp0 {σ ε : Type} {body : σ → Option (σ ⊕ ε)} {s : σ} {e : ε} (E : am_lp body 0 s = some e) : False := by cases E
theorem am_exR {α β : Type} {X e : β} {r : α ⊕ β} {P : α → Prop} (E : Sum.inr X = r) (Er : (∃ s2, r = .inl s2 ∧ P s2) ∨ r = .inr e) : X = e := by
  subst E
  rcases Er with ⟨_, h, _⟩ | h
  · cases h
  · cases h; rfl
theorem am_exL {α β : Type} {X : α} {e : β} {r : α ⊕ β} {P : α → Prop} (E : Sum.inl X = r) (Er : (∃ s2, r = .inl s2 ∧ P s2) ∨ r = .inr e) : P X := by
  subst E
  rcases Er with ⟨_, h, hp⟩ | h
  · cases h; exact hp
  · cases h
theorem am_nb {v : Int32} (h : v = 0 ∨ v = 1) : narrow .boolean (.int v) = .int v := by rcases h with rfl | rfl <;> rfl
theorem am_fb {v : Int32} (h : v = 0 ∨ v = 1) : fits .boolean (.int v) = true := by rcases h with rfl | rfl <;> rfl
theorem as_iinc {x : am_X} {own : String} {cc : ByteArray} {nL : Nat} {lv : List (Nat × Value)} {st : List Value} {s : am_S} (pc : Nat) {i : Nat} {a : Int} {u v q : Int32} {lv2 : List (Nat × Value)} (C : AC x own cc nL) (d : decode cc pc = .ok (.iinc i a, 3)) (j : Nat) (hj : lv[j]? = some (i, .int u)) (hq : Int32.ofInt a = q) (hv : v = u + q) (hn : i < nL) (hl : (i, Value.int v) :: lv.filter (fun q => !(q.1 == i) && !(q.1 + 1 == i && q.2.category == 2)) = lv2) (k : AX x 0 0 (pc + 3) lv2 st am_N (am_h s)) : AX x 0 0 pc lv st am_N (am_h s) := am_iinc pc v C d j hj (by rw [hq, hv]) hn hl k
abbrev am_F : Nat := 4000
section AMK
variable {x : am_X} {own : String} {cc : ByteArray} {nL : Nat} {lv : List (Nat × Value)} {st : List Value} {s s2 : am_S}
theorem as_ialdK (pc : Nat) (k : Nat) {a len : Nat} {i : Int32} (C : AC x own cc nL) (d : decode cc pc = .ok (.iaload, 1)) (ha : a < am_N) (hs : am_sh a = (13, len)) (hin : ¬ i < 0 ∧ i.toNatClampNeg < len) (hk : i.toNatClampNeg = k) (kk : AX x 0 0 (pc + 1) lv (.int (s.1 a k) :: st) am_N (am_h s)) : AX x 0 0 pc lv (.int i :: .ref a :: st) am_N (am_h s) := as_iald pc C d ha hs hin (by rw [hk]; exact kk)
theorem as_baldK (pc : Nat) (k : Nat) {a len : Nat} {i : Int32} (C : AC x own cc nL) (d : decode cc pc = .ok (.baload, 1)) (ha : a < am_N) (hs : am_sh a = (12, len)) (hin : ¬ i < 0 ∧ i.toNatClampNeg < len) (hk : i.toNatClampNeg = k) (kk : AX x 0 0 (pc + 1) lv (.int (s.1 a k) :: st) am_N (am_h s)) : AX x 0 0 pc lv (.int i :: .ref a :: st) am_N (am_h s) := as_bald pc C d ha hs hin (by rw [hk]; exact kk)
theorem as_zaldK (pc : Nat) (k : Nat) {a len : Nat} {i : Int32} (C : AC x own cc nL) (d : decode cc pc = .ok (.baload, 1)) (ha : a < am_N) (hs : am_sh a = (15, len)) (hin : ¬ i < 0 ∧ i.toNatClampNeg < len) (hk : i.toNatClampNeg = k) (kk : AX x 0 0 (pc + 1) lv (.int (s.1 a k) :: st) am_N (am_h s)) : AX x 0 0 pc lv (.int i :: .ref a :: st) am_N (am_h s) := as_zald pc C d ha hs hin (by rw [hk]; exact kk)
theorem as_laldK (pc : Nat) (k : Nat) {a len : Nat} {i : Int32} (C : AC x own cc nL) (d : decode cc pc = .ok (.laload, 1)) (ha : a < am_N) (hs : am_sh a = (14, len)) (hin : ¬ i < 0 ∧ i.toNatClampNeg < len) (hk : i.toNatClampNeg = k) (kk : AX x 0 0 (pc + 1) lv (.long (s.2.1 a k) :: st) am_N (am_h s)) : AX x 0 0 pc lv (.int i :: .ref a :: st) am_N (am_h s) := as_lald pc C d ha hs hin (by rw [hk]; exact kk)
theorem as_iastK (pc : Nat) (k : Nat) {a len : Nat} {i v : Int32} (C : AC x own cc nL) (d : decode cc pc = .ok (.iastore, 1)) (ha : a < am_N) (hs : am_sh a = (13, len)) (hin : ¬ i < 0 ∧ i.toNatClampNeg < len) (hk : i.toNatClampNeg = k) (e : s2 = as_i s a k v) (kk : AX x 0 0 (pc + 1) lv st am_N (am_h s2)) : AX x 0 0 pc lv (.int v :: .int i :: .ref a :: st) am_N (am_h s) := as_iast pc C d ha hs hin (by rw [hk]; exact e) kk
theorem as_bastK (pc : Nat) (k : Nat) {a len : Nat} {i v : Int32} (C : AC x own cc nL) (d : decode cc pc = .ok (.bastore, 1)) (ha : a < am_N) (hs : am_sh a = (12, len)) (hin : ¬ i < 0 ∧ i.toNatClampNeg < len) (hk : i.toNatClampNeg = k) (e : s2 = as_i s a k (vp_nar .byte v)) (kk : AX x 0 0 (pc + 1) lv st am_N (am_h s2)) : AX x 0 0 pc lv (.int v :: .int i :: .ref a :: st) am_N (am_h s) := as_bast pc C d ha hs hin (by rw [hk]; exact e) kk
theorem as_zastK (pc : Nat) (k : Nat) {a len : Nat} {i v : Int32} (C : AC x own cc nL) (d : decode cc pc = .ok (.bastore, 1)) (ha : a < am_N) (hs : am_sh a = (15, len)) (hin : ¬ i < 0 ∧ i.toNatClampNeg < len) (hk : i.toNatClampNeg = k) (e : s2 = as_i s a k (vp_nar .boolean v)) (kk : AX x 0 0 (pc + 1) lv st am_N (am_h s2)) : AX x 0 0 pc lv (.int v :: .int i :: .ref a :: st) am_N (am_h s) := as_zast pc C d ha hs hin (by rw [hk]; exact e) kk
theorem as_lastK (pc : Nat) (k : Nat) {a len : Nat} {i : Int32} {v : Int64} (C : AC x own cc nL) (d : decode cc pc = .ok (.lastore, 1)) (ha : a < am_N) (hs : am_sh a = (14, len)) (hin : ¬ i < 0 ∧ i.toNatClampNeg < len) (hk : i.toNatClampNeg = k) (e : s2 = as_j s a k v) (kk : AX x 0 0 (pc + 1) lv st am_N (am_h s2)) : AX x 0 0 pc lv (.long v :: .int i :: .ref a :: st) am_N (am_h s) := as_last pc C d ha hs hin (by rw [hk]; exact e) kk
end AMK
theorem as_copyK {x : am_X} {own : String} {cc : ByteArray} {nL d0 : Nat} {lv : List (Nat × Value)} {st : List Value} {s s2 : am_S} (pc i1 i2 i3 : Nat) {idx a0 a1 n0 n1 : Nat} {sp dp k : Int32} (C : AC x own cc nL) (A : AR x d0 (64 * d0) 0 0) (hd : 1 ≤ d0) (L : Cond.methodLink own idx arraycopyName ∈ am_tbl) (ha0 : a0 < am_N) (ha1 : a1 < am_N) (hs0 : am_sh a0 = (13, n0)) (hs1 : am_sh a1 = (13, n1)) (hg : ¬ sp < 0 ∧ ¬ dp < 0 ∧ ¬ k < 0 ∧ sp.toNatClampNeg + k.toNatClampNeg ≤ n0 ∧ dp.toNatClampNeg + k.toNatClampNeg ≤ n1) (e1 : sp.toNatClampNeg = i1) (e2 : dp.toNatClampNeg = i2) (e3 : k.toNatClampNeg = i3) (hsum : (st.map fun v => v.category).sum ≤ 8) (d : decode cc pc = .ok (.invokestatic idx, 3))
    (e : s2 = as_w s a1 (va_cpy (s.1 a0) (s.1 a1) i1 i2 i3)) (kk : AX x 0 0 (pc + 3) lv st am_N (am_h s2)) : AX x 0 0 pc lv (.int k :: .int dp :: .ref a1 :: .int sp :: .ref a0 :: st) am_N (am_h s) := as_copy pc C A hd L ha0 ha1 hs0 hs1 hg hsum d (by rw [e1, e2, e3]; exact e) kk
