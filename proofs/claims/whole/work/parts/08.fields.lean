/-! fields of each class, by the numbers of the world -/
theorem kz_0 : kd 0 = 11 := rfl
theorem kz_1 : kd 1 = 10 := rfl
theorem kz_2 : kd 2 = 13 := rfl
theorem kz_3 : kd 3 = 7 := rfl
theorem kz_4 : kd 4 = 5 := rfl
theorem kz_5 : kd 5 = 14 := rfl
theorem kz_6 : kd 6 = 14 := rfl
theorem kz_7 : kd 7 = 14 := rfl
theorem kz_8 : kd 8 = 14 := rfl
theorem kz_9 : kd 9 = 14 := rfl
theorem kz_10 : kd 10 = 16 := rfl
theorem kz_11 : kd 11 = 5 := rfl
theorem kz_12 : kd 12 = 14 := rfl
theorem kz_13 : kd 13 = 14 := rfl
theorem kz_14 : kd 14 = 14 := rfl
theorem kz_15 : kd 15 = 14 := rfl
theorem kz_16 : kd 16 = 14 := rfl
theorem kz_17 : kd 17 = 16 := rfl
theorem kz_18 : kd 18 = 18 := rfl
theorem kz_19 : kd 19 = 9 := rfl
theorem kz_20 : kd 20 = 14 := rfl
theorem kz_21 : kd 21 = 9 := rfl
theorem kz_22 : kd 22 = 14 := rfl
theorem kz_23 : kd 23 = 9 := rfl
theorem kz_24 : kd 24 = 14 := rfl
theorem kz_25 : kd 25 = 9 := rfl
theorem kz_26 : kd 26 = 14 := rfl
theorem kz_27 : kd 27 = 9 := rfl
theorem kz_28 : kd 28 = 14 := rfl
theorem kz_29 : kd 29 = 3 := rfl
theorem kz_30 : kd 30 = 14 := rfl
theorem kz_31 : kd 31 = 14 := rfl
theorem kz_32 : kd 32 = 3 := rfl
theorem kz_33 : kd 33 = 14 := rfl
theorem kz_34 : kd 34 = 14 := rfl
theorem kz_35 : kd 35 = 3 := rfl
theorem kz_36 : kd 36 = 14 := rfl
theorem kz_37 : kd 37 = 14 := rfl
theorem kz_38 : kd 38 = 1 := rfl
theorem kz_39 : kd 39 = 14 := rfl
theorem kz_40 : kd 40 = 15 := rfl
theorem kz_41 : kd 41 = 0 := rfl
theorem kz_42 : kd 42 = 15 := rfl
theorem kz_43 : kd 43 = 15 := rfl
theorem kz_44 : kd 44 = 15 := rfl
theorem kz_45 : kd 45 = 15 := rfl
theorem kz_46 : kd 46 = 2 := rfl
theorem kz_47 : kd 47 = 2 := rfl
theorem kz_48 : kd 48 = 4 := rfl
theorem kz_49 : kd 49 = 14 := rfl
theorem kz_50 : kd 50 = 6 := rfl
theorem kz_51 : kd 51 = 17 := rfl
theorem kz_52 : kd 52 = 8 := rfl
theorem kz_53 : kd 53 = 14 := rfl
theorem kz_54 : kd 54 = 14 := rfl
theorem kz_55 : kd 55 = 14 := rfl
theorem kz_56 : kd 56 = 3 := rfl
theorem kz_57 : kd 57 = 14 := rfl
theorem kz_58 : kd 58 = 14 := rfl
theorem kz_59 : kd 59 = 3 := rfl
theorem kz_60 : kd 60 = 14 := rfl
theorem kz_61 : kd 61 = 14 := rfl
theorem kz_62 : kd 62 = 3 := rfl
theorem kz_63 : kd 63 = 14 := rfl
theorem kz_64 : kd 64 = 14 := rfl
theorem kz_65 : kd 65 = 3 := rfl
theorem kz_66 : kd 66 = 14 := rfl
theorem kz_67 : kd 67 = 14 := rfl
theorem kz_68 : kd 68 = 3 := rfl
theorem kz_69 : kd 69 = 14 := rfl
theorem kz_70 : kd 70 = 14 := rfl
theorem kz_71 : kd 71 = 3 := rfl
theorem kz_72 : kd 72 = 14 := rfl
theorem kz_73 : kd 73 = 14 := rfl
theorem kz_74 : kd 74 = 3 := rfl
theorem kz_75 : kd 75 = 14 := rfl
theorem kz_76 : kd 76 = 14 := rfl
theorem kz_77 : kd 77 = 3 := rfl
theorem kz_78 : kd 78 = 14 := rfl
theorem kz_79 : kd 79 = 14 := rfl
theorem kz_80 : kd 80 = 3 := rfl
theorem kz_81 : kd 81 = 14 := rfl
theorem kz_82 : kd 82 = 14 := rfl
theorem kz_83 : kd 83 = 3 := rfl
theorem kz_84 : kd 84 = 14 := rfl
theorem kz_85 : kd 85 = 14 := rfl
theorem kz_86 : kd 86 = 3 := rfl
theorem kz_87 : kd 87 = 14 := rfl
theorem kz_88 : kd 88 = 14 := rfl
theorem kz_89 : kd 89 = 3 := rfl
theorem kz_90 : kd 90 = 14 := rfl
theorem kz_91 : kd 91 = 14 := rfl
theorem kz_92 : kd 92 = 3 := rfl
theorem kz_93 : kd 93 = 14 := rfl
theorem kz_94 : kd 94 = 14 := rfl
theorem kz_95 : kd 95 = 3 := rfl
theorem kz_96 : kd 96 = 14 := rfl
theorem kz_97 : kd 97 = 14 := rfl
theorem kz_98 : kd 98 = 3 := rfl
theorem kz_99 : kd 99 = 14 := rfl
theorem kz_100 : kd 100 = 14 := rfl
theorem kz_101 : kd 101 = 3 := rfl
theorem kz_102 : kd 102 = 14 := rfl
theorem kz_103 : kd 103 = 14 := rfl
theorem kz_104 : kd 104 = 3 := rfl
theorem kz_105 : kd 105 = 14 := rfl
theorem kz_106 : kd 106 = 14 := rfl
theorem kz_107 : kd 107 = 3 := rfl
theorem kz_108 : kd 108 = 14 := rfl
theorem kz_109 : kd 109 = 14 := rfl
theorem kz_110 : kd 110 = 3 := rfl
theorem kz_111 : kd 111 = 14 := rfl
theorem kz_112 : kd 112 = 14 := rfl
theorem kz_113 : kd 113 = 3 := rfl
theorem kz_114 : kd 114 = 14 := rfl
theorem kz_115 : kd 115 = 14 := rfl
theorem kz_116 : kd 116 = 3 := rfl
theorem kz_117 : kd 117 = 14 := rfl
theorem kz_118 : kd 118 = 14 := rfl
theorem kz_119 : kd 119 = 3 := rfl
theorem kz_120 : kd 120 = 14 := rfl
theorem kz_121 : kd 121 = 14 := rfl
theorem kz_122 : kd 122 = 3 := rfl
theorem kz_123 : kd 123 = 14 := rfl
theorem kz_124 : kd 124 = 14 := rfl
theorem kz_125 : kd 125 = 3 := rfl
theorem kz_126 : kd 126 = 14 := rfl
theorem kz_127 : kd 127 = 14 := rfl
theorem kz_128 : kd 128 = 3 := rfl
theorem kz_129 : kd 129 = 14 := rfl
theorem kz_130 : kd 130 = 14 := rfl
theorem kz_131 : kd 131 = 3 := rfl
theorem kz_132 : kd 132 = 14 := rfl
theorem kz_133 : kd 133 = 14 := rfl
theorem kz_134 : kd 134 = 3 := rfl
theorem kz_135 : kd 135 = 14 := rfl
theorem kz_136 : kd 136 = 14 := rfl
theorem kz_137 : kd 137 = 3 := rfl
theorem kz_138 : kd 138 = 14 := rfl
theorem kz_139 : kd 139 = 14 := rfl
theorem kz_140 : kd 140 = 3 := rfl
theorem kz_141 : kd 141 = 14 := rfl
theorem kz_142 : kd 142 = 14 := rfl
theorem kz_143 : kd 143 = 3 := rfl
theorem kz_144 : kd 144 = 14 := rfl
theorem kz_145 : kd 145 = 14 := rfl
theorem kz_146 : kd 146 = 3 := rfl
theorem kz_147 : kd 147 = 14 := rfl
theorem kz_148 : kd 148 = 14 := rfl
theorem kz_149 : kd 149 = 3 := rfl
theorem kz_150 : kd 150 = 14 := rfl
theorem kz_151 : kd 151 = 14 := rfl
theorem kz_152 : kd 152 = 3 := rfl
theorem kz_153 : kd 153 = 14 := rfl
theorem kz_154 : kd 154 = 14 := rfl
theorem kz_155 : kd 155 = 3 := rfl
theorem kz_156 : kd 156 = 14 := rfl
theorem kz_157 : kd 157 = 14 := rfl
theorem kz_158 : kd 158 = 3 := rfl
theorem kz_159 : kd 159 = 14 := rfl
theorem kz_160 : kd 160 = 14 := rfl
theorem kz_161 : kd 161 = 3 := rfl
theorem kz_162 : kd 162 = 14 := rfl
theorem kz_163 : kd 163 = 14 := rfl
theorem kz_164 : kd 164 = 3 := rfl
theorem kz_165 : kd 165 = 14 := rfl
theorem kz_166 : kd 166 = 14 := rfl
theorem kz_167 : kd 167 = 3 := rfl
theorem kz_168 : kd 168 = 14 := rfl
theorem kz_169 : kd 169 = 14 := rfl
theorem kz_170 : kd 170 = 3 := rfl
theorem kz_171 : kd 171 = 14 := rfl
theorem kz_172 : kd 172 = 14 := rfl
theorem kz_173 : kd 173 = 3 := rfl
theorem kz_174 : kd 174 = 14 := rfl
theorem kz_175 : kd 175 = 14 := rfl
theorem kz_176 : kd 176 = 12 := rfl
theorem kz_177 : kd 177 = 13 := rfl
theorem kz_178 : kd 178 = 14 := rfl
theorem kz_179 : kd 179 = 14 := rfl
theorem kz_180 : kd 180 = 14 := rfl
theorem kz_181 : kd 181 = 14 := rfl
theorem kz_182 : kd 182 = 14 := rfl
theorem kz_183 : kd 183 = 14 := rfl
theorem kz_184 : kd 184 = 14 := rfl
theorem kz_185 : kd 185 = 14 := rfl
theorem kz_186 : kd 186 = 14 := rfl
theorem kz_187 : kd 187 = 14 := rfl
theorem kz_188 : kd 188 = 14 := rfl
theorem kz_189 : kd 189 = 14 := rfl
theorem kz_190 : kd 190 = 14 := rfl
theorem kz_191 : kd 191 = 14 := rfl
theorem kz_192 : kd 192 = 15 := rfl
theorem kz_193 : kd 193 = 15 := rfl
theorem kz_194 : kd 194 = 15 := rfl
theorem kz_195 : kd 195 = 16 := rfl
theorem kz_196 : kd 196 = 14 := rfl
theorem kz_197 : kd 197 = 14 := rfl
theorem kz_198 : kd 198 = 14 := rfl
theorem kz_199 : kd 199 = 15 := rfl
theorem kz_200 : kd 200 = 24 := rfl
theorem kz_201 : kd 201 = 24 := rfl
theorem kz_202 : kd 202 = 25 := rfl
theorem kz_203 : kd 203 = 24 := rfl
theorem kz_204 : kd 204 = 24 := rfl
theorem kz_205 : kd 205 = 24 := rfl
theorem kz_206 : kd 206 = 25 := rfl
theorem kz_207 : kd 207 = 24 := rfl
theorem kz_208 : kd 208 = 24 := rfl
theorem kz_209 : kd 209 = 24 := rfl
theorem kz_210 : kd 210 = 26 := rfl
theorem kz_211 : kd 211 = 26 := rfl
theorem kz_212 : kd 212 = 26 := rfl
theorem nz_2 : ln 2 = 240 := rfl
theorem nz_5 : ln 5 = 4 := rfl
theorem nz_6 : ln 6 = 56 := rfl
theorem nz_7 : ln 7 = 24 := rfl
theorem nz_8 : ln 8 = 8 := rfl
theorem nz_9 : ln 9 = 8 := rfl
theorem nz_10 : ln 10 = 3 := rfl
theorem nz_12 : ln 12 = 4 := rfl
theorem nz_13 : ln 13 = 56 := rfl
theorem nz_14 : ln 14 = 24 := rfl
theorem nz_15 : ln 15 = 8 := rfl
theorem nz_16 : ln 16 = 8 := rfl
theorem nz_17 : ln 17 = 3 := rfl
theorem nz_18 : ln 18 = 5 := rfl
theorem nz_20 : ln 20 = 64 := rfl
theorem nz_22 : ln 22 = 64 := rfl
theorem nz_24 : ln 24 = 64 := rfl
theorem nz_26 : ln 26 = 64 := rfl
theorem nz_28 : ln 28 = 64 := rfl
theorem nz_30 : ln 30 = 8 := rfl
theorem nz_31 : ln 31 = 3 := rfl
theorem nz_33 : ln 33 = 8 := rfl
theorem nz_34 : ln 34 = 3 := rfl
theorem nz_36 : ln 36 = 8 := rfl
theorem nz_37 : ln 37 = 3 := rfl
theorem nz_39 : ln 39 = 8 := rfl
theorem nz_40 : ln 40 = 4 := rfl
theorem nz_42 : ln 42 = 9 := rfl
theorem nz_43 : ln 43 = 3 := rfl
theorem nz_44 : ln 44 = 3 := rfl
theorem nz_45 : ln 45 = 8 := rfl
theorem nz_49 : ln 49 = 716 := rfl
theorem nz_51 : ln 51 = 40 := rfl
theorem nz_53 : ln 53 = 5 := rfl
theorem nz_54 : ln 54 = 4 := rfl
theorem nz_55 : ln 55 = 60 := rfl
theorem nz_57 : ln 57 = 8 := rfl
theorem nz_58 : ln 58 = 3 := rfl
theorem nz_60 : ln 60 = 8 := rfl
theorem nz_61 : ln 61 = 3 := rfl
theorem nz_63 : ln 63 = 8 := rfl
theorem nz_64 : ln 64 = 3 := rfl
theorem nz_66 : ln 66 = 8 := rfl
theorem nz_67 : ln 67 = 3 := rfl
theorem nz_69 : ln 69 = 8 := rfl
theorem nz_70 : ln 70 = 3 := rfl
theorem nz_72 : ln 72 = 8 := rfl
theorem nz_73 : ln 73 = 3 := rfl
theorem nz_75 : ln 75 = 8 := rfl
theorem nz_76 : ln 76 = 3 := rfl
theorem nz_78 : ln 78 = 8 := rfl
theorem nz_79 : ln 79 = 3 := rfl
theorem nz_81 : ln 81 = 8 := rfl
theorem nz_82 : ln 82 = 3 := rfl
theorem nz_84 : ln 84 = 8 := rfl
theorem nz_85 : ln 85 = 3 := rfl
theorem nz_87 : ln 87 = 8 := rfl
theorem nz_88 : ln 88 = 3 := rfl
theorem nz_90 : ln 90 = 8 := rfl
theorem nz_91 : ln 91 = 3 := rfl
theorem nz_93 : ln 93 = 8 := rfl
theorem nz_94 : ln 94 = 3 := rfl
theorem nz_96 : ln 96 = 8 := rfl
theorem nz_97 : ln 97 = 3 := rfl
theorem nz_99 : ln 99 = 8 := rfl
theorem nz_100 : ln 100 = 3 := rfl
theorem nz_102 : ln 102 = 8 := rfl
theorem nz_103 : ln 103 = 3 := rfl
theorem nz_105 : ln 105 = 8 := rfl
theorem nz_106 : ln 106 = 3 := rfl
theorem nz_108 : ln 108 = 8 := rfl
theorem nz_109 : ln 109 = 3 := rfl
theorem nz_111 : ln 111 = 8 := rfl
theorem nz_112 : ln 112 = 3 := rfl
theorem nz_114 : ln 114 = 8 := rfl
theorem nz_115 : ln 115 = 3 := rfl
theorem nz_117 : ln 117 = 8 := rfl
theorem nz_118 : ln 118 = 3 := rfl
theorem nz_120 : ln 120 = 8 := rfl
theorem nz_121 : ln 121 = 3 := rfl
theorem nz_123 : ln 123 = 8 := rfl
theorem nz_124 : ln 124 = 3 := rfl
theorem nz_126 : ln 126 = 8 := rfl
theorem nz_127 : ln 127 = 3 := rfl
theorem nz_129 : ln 129 = 8 := rfl
theorem nz_130 : ln 130 = 3 := rfl
theorem nz_132 : ln 132 = 8 := rfl
theorem nz_133 : ln 133 = 3 := rfl
theorem nz_135 : ln 135 = 8 := rfl
theorem nz_136 : ln 136 = 3 := rfl
theorem nz_138 : ln 138 = 8 := rfl
theorem nz_139 : ln 139 = 3 := rfl
theorem nz_141 : ln 141 = 8 := rfl
theorem nz_142 : ln 142 = 3 := rfl
theorem nz_144 : ln 144 = 8 := rfl
theorem nz_145 : ln 145 = 3 := rfl
theorem nz_147 : ln 147 = 8 := rfl
theorem nz_148 : ln 148 = 3 := rfl
theorem nz_150 : ln 150 = 8 := rfl
theorem nz_151 : ln 151 = 3 := rfl
theorem nz_153 : ln 153 = 8 := rfl
theorem nz_154 : ln 154 = 3 := rfl
theorem nz_156 : ln 156 = 8 := rfl
theorem nz_157 : ln 157 = 3 := rfl
theorem nz_159 : ln 159 = 8 := rfl
theorem nz_160 : ln 160 = 3 := rfl
theorem nz_162 : ln 162 = 8 := rfl
theorem nz_163 : ln 163 = 3 := rfl
theorem nz_165 : ln 165 = 8 := rfl
theorem nz_166 : ln 166 = 3 := rfl
theorem nz_168 : ln 168 = 8 := rfl
theorem nz_169 : ln 169 = 3 := rfl
theorem nz_171 : ln 171 = 8 := rfl
theorem nz_172 : ln 172 = 3 := rfl
theorem nz_174 : ln 174 = 8 := rfl
theorem nz_175 : ln 175 = 3 := rfl
theorem nz_177 : ln 177 = 240 := rfl
theorem nz_178 : ln 178 = 4 := rfl
theorem nz_179 : ln 179 = 4 := rfl
theorem nz_180 : ln 180 = 56 := rfl
theorem nz_181 : ln 181 = 56 := rfl
theorem nz_182 : ln 182 = 24 := rfl
theorem nz_183 : ln 183 = 320 := rfl
theorem nz_184 : ln 184 = 5 := rfl
theorem nz_185 : ln 185 = 5 := rfl
theorem nz_186 : ln 186 = 56 := rfl
theorem nz_187 : ln 187 = 4 := rfl
theorem nz_188 : ln 188 = 202 := rfl
theorem nz_189 : ln 189 = 202 := rfl
theorem nz_190 : ln 190 = 202 := rfl
theorem nz_191 : ln 191 = 8080 := rfl
theorem nz_192 : ln 192 = 9 := rfl
theorem nz_193 : ln 193 = 3 := rfl
theorem nz_194 : ln 194 = 3 := rfl
theorem nz_195 : ln 195 = 256 := rfl
theorem nz_196 : ln 196 = 8 := rfl
theorem nz_197 : ln 197 = 4 := rfl
theorem nz_198 : ln 198 = 202 := rfl
theorem nz_199 : ln 199 = 1 := rfl
theorem nz_200 : ln 200 = 3 := rfl
theorem nz_201 : ln 201 = 3 := rfl
theorem nz_202 : ln 202 = 7 := rfl
theorem nz_203 : ln 203 = 7 := rfl
theorem nz_204 : ln 204 = 7 := rfl
theorem nz_205 : ln 205 = 7 := rfl
theorem nz_206 : ln 206 = 4 := rfl
theorem nz_207 : ln 207 = 4 := rfl
theorem nz_208 : ln 208 = 4 := rfl
theorem nz_209 : ln 209 = 4 := rfl
theorem nz_210 : ln 210 = 4 := rfl
theorem nz_211 : ln 211 = 7 := rfl
theorem nz_212 : ln 212 = 4 := rfl
theorem mo_kd (v : Int32) : kd (mo v) = 5 := by unfold mo; split <;> rfl
theorem mo_moi {x : Nat} (h : kd x = 5) : mo (moi x) = x := by
  have q : ∀ i, i < 213 → kd i = 5 → i = 4 ∨ i = 11 := by decide +kernel
  rcases q x (kd_lt (by rw [h]; decide)) h with rfl | rfl <;> rfl
theorem vp_lt {j : Int32} {n : Nat} (h : vp_in j n) : j.toNatClampNeg < n := Nat.not_le.mp fun q => h (Or.inr q)
theorem kd_script {j : Int32} (h : vp_in j 5) : kd (19 + 2 * j.toNatClampNeg) = 9 := by
  have q : ∀ n, n < 5 → kd (19 + 2 * n) = 9 := by decide +kernel
  exact q _ (vp_lt h)
theorem kd_hold {j : Int32} (h : vp_in j 40) : kd (56 + 3 * j.toNatClampNeg) = 3 := by
  have q : ∀ n, n < 40 → kd (56 + 3 * n) = 3 := by decide +kernel
  exact q _ (vp_lt h)
theorem ky_3_0 {i : Nat} (h : kd i = 3) : kd (i + 1) = 14 := kall (P := fun i => kd (i + 1) = 14) (by decide) (by decide +kernel) h
theorem kn_3_0 {i : Nat} (h : kd i = 3) : ln (i + 1) = 8 := kall (P := fun i => ln (i + 1) = 8) (by decide) (by decide +kernel) h
theorem ky_3_1 {i : Nat} (h : kd i = 3) : kd (i + 2) = 14 := kall (P := fun i => kd (i + 2) = 14) (by decide) (by decide +kernel) h
theorem kn_3_1 {i : Nat} (h : kd i = 3) : ln (i + 2) = 3 := kall (P := fun i => ln (i + 2) = 3) (by decide) (by decide +kernel) h
theorem ky_5_0 {i : Nat} (h : kd i = 5) : kd (i + 1) = 14 := kall (P := fun i => kd (i + 1) = 14) (by decide) (by decide +kernel) h
theorem kn_5_0 {i : Nat} (h : kd i = 5) : ln (i + 1) = 4 := kall (P := fun i => ln (i + 1) = 4) (by decide) (by decide +kernel) h
theorem ky_5_1 {i : Nat} (h : kd i = 5) : kd (i + 2) = 14 := kall (P := fun i => kd (i + 2) = 14) (by decide) (by decide +kernel) h
theorem kn_5_1 {i : Nat} (h : kd i = 5) : ln (i + 2) = 56 := kall (P := fun i => ln (i + 2) = 56) (by decide) (by decide +kernel) h
theorem ky_5_2 {i : Nat} (h : kd i = 5) : kd (i + 3) = 14 := kall (P := fun i => kd (i + 3) = 14) (by decide) (by decide +kernel) h
theorem kn_5_2 {i : Nat} (h : kd i = 5) : ln (i + 3) = 24 := kall (P := fun i => ln (i + 3) = 24) (by decide) (by decide +kernel) h
theorem ky_5_3 {i : Nat} (h : kd i = 5) : kd (i + 4) = 14 := kall (P := fun i => kd (i + 4) = 14) (by decide) (by decide +kernel) h
theorem kn_5_3 {i : Nat} (h : kd i = 5) : ln (i + 4) = 8 := kall (P := fun i => ln (i + 4) = 8) (by decide) (by decide +kernel) h
theorem ky_5_4 {i : Nat} (h : kd i = 5) : kd (i + 5) = 14 := kall (P := fun i => kd (i + 5) = 14) (by decide) (by decide +kernel) h
theorem kn_5_4 {i : Nat} (h : kd i = 5) : ln (i + 5) = 8 := kall (P := fun i => ln (i + 5) = 8) (by decide) (by decide +kernel) h
theorem ky_5_5 {i : Nat} (h : kd i = 5) : kd (i + 6) = 16 := kall (P := fun i => kd (i + 6) = 16) (by decide) (by decide +kernel) h
theorem kn_5_5 {i : Nat} (h : kd i = 5) : ln (i + 6) = 3 := kall (P := fun i => ln (i + 6) = 3) (by decide) (by decide +kernel) h
theorem ky_9_0 {i : Nat} (h : kd i = 9) : kd (i + 1) = 14 := kall (P := fun i => kd (i + 1) = 14) (by decide) (by decide +kernel) h
theorem kn_9_0 {i : Nat} (h : kd i = 9) : ln (i + 1) = 64 := kall (P := fun i => ln (i + 1) = 64) (by decide) (by decide +kernel) h
theorem nar01 {x : Int32} (h : x = 0 ∨ x = 1) : narrow .boolean (.int x) = .int x := by rcases h with rfl | rfl <;> rfl
theorem fit01 {x : Int32} (h : x = 0 ∨ x = 1) : fits .boolean (.int x) = true := by rcases h with rfl | rfl <;> rfl
section XF
variable {X : XT} {cc : ByteArray} {nL : Nat} {own : String} {Ts : List Cond} {fr lo : Nat} {σ : wS} {pc : Nat} {lv : List (Nat × Value)} {st st0 : List Value} {i index : Nat}
theorem x_nmS (k : ∀ τ : wS, τ = σ → Wx X nL τ pc lv st) : Wx X nL σ pc lv st := k σ rfl
theorem g_0_0 (F : Fx X cc nL own Ts fr lo) (hk : kd i = 0) (hin : ∀ w ∈ wsX00, w ∈ Ts) (hl : Cond.fieldLink own index "MooringDesk$Balance" "matrix" "[J" ∈ Ts) (hd : decode cc pc = .ok (.getfield index, 3)) (k : Wx X nL σ (pc + 3) lv (.ref (ad X (i + 1)) :: st)) : Wx X nL σ pc lv (.ref (ad X i) :: st) := x_get (ci := 0) (C := RX0) (T := TX0) (n := 5) (k0 := 0) F (kd_w (by decide) hk) rfl (cl_0 hk) hin (by decide) rfl hl rfl hd k
theorem g_0_1 (F : Fx X cc nL own Ts fr lo) (hk : kd i = 0) (hin : ∀ w ∈ wsX00, w ∈ Ts) (hl : Cond.fieldLink own index "MooringDesk$Balance" "forces" "[J" ∈ Ts) (hd : decode cc pc = .ok (.getfield index, 3)) (k : Wx X nL σ (pc + 3) lv (.ref (ad X (i + 2)) :: st)) : Wx X nL σ pc lv (.ref (ad X i) :: st) := x_get (ci := 0) (C := RX0) (T := TX0) (n := 5) (k0 := 1) F (kd_w (by decide) hk) rfl (cl_0 hk) hin (by decide) rfl hl rfl hd k
theorem g_0_2 (F : Fx X cc nL own Ts fr lo) (hk : kd i = 0) (hin : ∀ w ∈ wsX00, w ∈ Ts) (hl : Cond.fieldLink own index "MooringDesk$Balance" "shifted" "[J" ∈ Ts) (hd : decode cc pc = .ok (.getfield index, 3)) (k : Wx X nL σ (pc + 3) lv (.ref (ad X (i + 3)) :: st)) : Wx X nL σ pc lv (.ref (ad X i) :: st) := x_get (ci := 0) (C := RX0) (T := TX0) (n := 5) (k0 := 2) F (kd_w (by decide) hk) rfl (cl_0 hk) hin (by decide) rfl hl rfl hd k
theorem g_0_3 (F : Fx X cc nL own Ts fr lo) (hk : kd i = 0) (hin : ∀ w ∈ wsX00, w ∈ Ts) (hl : Cond.fieldLink own index "MooringDesk$Balance" "pulls" "[J" ∈ Ts) (hd : decode cc pc = .ok (.getfield index, 3)) (k : Wx X nL σ (pc + 3) lv (.ref (ad X (i + 4)) :: st)) : Wx X nL σ pc lv (.ref (ad X i) :: st) := x_get (ci := 0) (C := RX0) (T := TX0) (n := 5) (k0 := 3) F (kd_w (by decide) hk) rfl (cl_0 hk) hin (by decide) rfl hl rfl hd k
theorem g_0_4 (F : Fx X cc nL own Ts fr lo) (hk : kd i = 0) (hin : ∀ w ∈ wsX00, w ∈ Ts) (hl : Cond.fieldLink own index "MooringDesk$Balance" "lower" "J" ∈ Ts) (hd : decode cc pc = .ok (.getfield index, 3)) (k : Wx X nL σ (pc + 3) lv (.long (σ.2 i 4) :: st)) : Wx X nL σ pc lv (.ref (ad X i) :: st) := x_get (ci := 0) (C := RX0) (T := TX0) (n := 5) (k0 := 4) F (kd_w (by decide) hk) rfl (cl_0 hk) hin (by decide) rfl hl rfl hd k
theorem q_0_4 {x : Int64} (F : Fx X cc nL own Ts fr lo) (hk : kd i = 0) (hin : ∀ w ∈ wsX00, w ∈ Ts) (hl : Cond.fieldLink own index "MooringDesk$Balance" "lower" "J" ∈ Ts) (hd : decode cc pc = .ok (.putfield index, 3)) (k : Wx X nL (upJ σ i 4 x) (pc + 3) lv st) : Wx X nL σ pc lv (.long x :: .ref (ad X i) :: st) := x_put (ci := 0) (C := RX0) (T := TX0) (n := 5) (k0 := 4) (ty0 := tyX0) (ty := .long) (τ := upJ σ i 4 x) F (kd_w (by decide) hk) rfl (cl_0 hk) hin tyX0_ok nmX0 (by decide) rfl hl rfl (by decide +kernel) rfl rfl (Nat.le_of_ble_eq_true rfl) (fun _ hj => setJ_ne hj) (by rw [cl_0 hk]; simp [fl0, upJ, setJ, vp_updL]) hd k
theorem g_1_0 (F : Fx X cc nL own Ts fr lo) (hk : kd i = 1) (hin : ∀ w ∈ wsX10, w ∈ Ts) (hl : Cond.fieldLink own index "MooringDesk$Crew" "balance" "LMooringDesk$Balance;" ∈ Ts) (hd : decode cc pc = .ok (.getfield index, 3)) (k : Wx X nL σ (pc + 3) lv (.ref (ad X (i + 3)) :: st)) : Wx X nL σ pc lv (.ref (ad X i) :: st) := x_get (ci := 1) (C := RX1) (T := TX1) (n := 6) (k0 := 0) F (kd_w (by decide) hk) rfl (cl_1 hk) hin (by decide) rfl hl rfl hd k
theorem g_1_1 (F : Fx X cc nL own Ts fr lo) (hk : kd i = 1) (hin : ∀ w ∈ wsX10, w ∈ Ts) (hl : Cond.fieldLink own index "MooringDesk$Crew" "order" "[I" ∈ Ts) (hd : decode cc pc = .ok (.getfield index, 3)) (k : Wx X nL σ (pc + 3) lv (.ref (ad X (i + 1)) :: st)) : Wx X nL σ pc lv (.ref (ad X i) :: st) := x_get (ci := 1) (C := RX1) (T := TX1) (n := 6) (k0 := 1) F (kd_w (by decide) hk) rfl (cl_1 hk) hin (by decide) rfl hl rfl hd k
theorem g_1_2 (F : Fx X cc nL own Ts fr lo) (hk : kd i = 1) (hin : ∀ w ∈ wsX10, w ∈ Ts) (hl : Cond.fieldLink own index "MooringDesk$Crew" "wentBy" "[J" ∈ Ts) (hd : decode cc pc = .ok (.getfield index, 3)) (k : Wx X nL σ (pc + 3) lv (.ref (ad X (i + 2)) :: st)) : Wx X nL σ pc lv (.ref (ad X i) :: st) := x_get (ci := 1) (C := RX1) (T := TX1) (n := 6) (k0 := 2) F (kd_w (by decide) hk) rfl (cl_1 hk) hin (by decide) rfl hl rfl hd k
theorem g_1_3 (F : Fx X cc nL own Ts fr lo) (hk : kd i = 1) (hin : ∀ w ∈ wsX10, w ∈ Ts) (hl : Cond.fieldLink own index "MooringDesk$Crew" "broke" "I" ∈ Ts) (hd : decode cc pc = .ok (.getfield index, 3)) (k : Wx X nL σ (pc + 3) lv (.int (σ.1 i 3) :: st)) : Wx X nL σ pc lv (.ref (ad X i) :: st) := x_get (ci := 1) (C := RX1) (T := TX1) (n := 6) (k0 := 3) F (kd_w (by decide) hk) rfl (cl_1 hk) hin (by decide) rfl hl rfl hd k
theorem q_1_3 {x : Int32} (F : Fx X cc nL own Ts fr lo) (hk : kd i = 1) (hin : ∀ w ∈ wsX10, w ∈ Ts) (hl : Cond.fieldLink own index "MooringDesk$Crew" "broke" "I" ∈ Ts) (hd : decode cc pc = .ok (.putfield index, 3)) (k : Wx X nL (upI σ i 3 x) (pc + 3) lv st) : Wx X nL σ pc lv (.int x :: .ref (ad X i) :: st) := x_put (ci := 1) (C := RX1) (T := TX1) (n := 6) (k0 := 3) (ty0 := tyX1) (ty := .int) (τ := upI σ i 3 x) F (kd_w (by decide) hk) rfl (cl_1 hk) hin tyX1_ok nmX1 (by decide) rfl hl rfl (by decide +kernel) rfl rfl (Nat.le_of_ble_eq_true rfl) (fun _ hj => setI_ne hj) (by rw [cl_1 hk]; simp [fl1, upI, setI, upd]) hd k
theorem g_1_4 (F : Fx X cc nL own Ts fr lo) (hk : kd i = 1) (hin : ∀ w ∈ wsX10, w ∈ Ts) (hl : Cond.fieldLink own index "MooringDesk$Crew" "brokenCount" "I" ∈ Ts) (hd : decode cc pc = .ok (.getfield index, 3)) (k : Wx X nL σ (pc + 3) lv (.int (σ.1 i 4) :: st)) : Wx X nL σ pc lv (.ref (ad X i) :: st) := x_get (ci := 1) (C := RX1) (T := TX1) (n := 6) (k0 := 4) F (kd_w (by decide) hk) rfl (cl_1 hk) hin (by decide) rfl hl rfl hd k
theorem q_1_4 {x : Int32} (F : Fx X cc nL own Ts fr lo) (hk : kd i = 1) (hin : ∀ w ∈ wsX10, w ∈ Ts) (hl : Cond.fieldLink own index "MooringDesk$Crew" "brokenCount" "I" ∈ Ts) (hd : decode cc pc = .ok (.putfield index, 3)) (k : Wx X nL (upI σ i 4 x) (pc + 3) lv st) : Wx X nL σ pc lv (.int x :: .ref (ad X i) :: st) := x_put (ci := 1) (C := RX1) (T := TX1) (n := 6) (k0 := 4) (ty0 := tyX1) (ty := .int) (τ := upI σ i 4 x) F (kd_w (by decide) hk) rfl (cl_1 hk) hin tyX1_ok nmX1 (by decide) rfl hl rfl (by decide +kernel) rfl rfl (Nat.le_of_ble_eq_true rfl) (fun _ hj => setI_ne hj) (by rw [cl_1 hk]; simp [fl1, upI, setI, upd]) hd k
theorem g_1_5 (F : Fx X cc nL own Ts fr lo) (hk : kd i = 1) (hin : ∀ w ∈ wsX10, w ∈ Ts) (hl : Cond.fieldLink own index "MooringDesk$Crew" "reason" "I" ∈ Ts) (hd : decode cc pc = .ok (.getfield index, 3)) (k : Wx X nL σ (pc + 3) lv (.int (σ.1 i 5) :: st)) : Wx X nL σ pc lv (.ref (ad X i) :: st) := x_get (ci := 1) (C := RX1) (T := TX1) (n := 6) (k0 := 5) F (kd_w (by decide) hk) rfl (cl_1 hk) hin (by decide) rfl hl rfl hd k
theorem q_1_5 {x : Int32} (F : Fx X cc nL own Ts fr lo) (hk : kd i = 1) (hin : ∀ w ∈ wsX10, w ∈ Ts) (hl : Cond.fieldLink own index "MooringDesk$Crew" "reason" "I" ∈ Ts) (hd : decode cc pc = .ok (.putfield index, 3)) (k : Wx X nL (upI σ i 5 x) (pc + 3) lv st) : Wx X nL σ pc lv (.int x :: .ref (ad X i) :: st) := x_put (ci := 1) (C := RX1) (T := TX1) (n := 6) (k0 := 5) (ty0 := tyX1) (ty := .int) (τ := upI σ i 5 x) F (kd_w (by decide) hk) rfl (cl_1 hk) hin tyX1_ok nmX1 (by decide) rfl hl rfl (by decide +kernel) rfl rfl (Nat.le_of_ble_eq_true rfl) (fun _ hj => setI_ne hj) (by rw [cl_1 hk]; simp [fl1, upI, setI, upd]) hd k
theorem g_2_0 (F : Fx X cc nL own Ts fr lo) (hk : kd i = 2) (hin : ∀ w ∈ wsX20, w ∈ Ts) (hl : Cond.fieldLink own index "MooringDesk$Fraction" "upper" "J" ∈ Ts) (hd : decode cc pc = .ok (.getfield index, 3)) (k : Wx X nL σ (pc + 3) lv (.long (σ.2 i 0) :: st)) : Wx X nL σ pc lv (.ref (ad X i) :: st) := x_get (ci := 2) (C := RX2) (T := TX2) (n := 2) (k0 := 0) F (kd_w (by decide) hk) rfl (cl_2 hk) hin (by decide) rfl hl rfl hd k
theorem q_2_0 {x : Int64} (F : Fx X cc nL own Ts fr lo) (hk : kd i = 2) (hin : ∀ w ∈ wsX20, w ∈ Ts) (hl : Cond.fieldLink own index "MooringDesk$Fraction" "upper" "J" ∈ Ts) (hd : decode cc pc = .ok (.putfield index, 3)) (k : Wx X nL (upJ σ i 0 x) (pc + 3) lv st) : Wx X nL σ pc lv (.long x :: .ref (ad X i) :: st) := x_put (ci := 2) (C := RX2) (T := TX2) (n := 2) (k0 := 0) (ty0 := tyX2) (ty := .long) (τ := upJ σ i 0 x) F (kd_w (by decide) hk) rfl (cl_2 hk) hin tyX2_ok nmX2 (by decide) rfl hl rfl (by decide +kernel) rfl rfl (Nat.le_of_ble_eq_true rfl) (fun _ hj => setJ_ne hj) (by rw [cl_2 hk]; simp [fl2, upJ, setJ, vp_updL]) hd k
theorem g_2_1 (F : Fx X cc nL own Ts fr lo) (hk : kd i = 2) (hin : ∀ w ∈ wsX20, w ∈ Ts) (hl : Cond.fieldLink own index "MooringDesk$Fraction" "lower" "J" ∈ Ts) (hd : decode cc pc = .ok (.getfield index, 3)) (k : Wx X nL σ (pc + 3) lv (.long (σ.2 i 1) :: st)) : Wx X nL σ pc lv (.ref (ad X i) :: st) := x_get (ci := 2) (C := RX2) (T := TX2) (n := 2) (k0 := 1) F (kd_w (by decide) hk) rfl (cl_2 hk) hin (by decide) rfl hl rfl hd k
theorem q_2_1 {x : Int64} (F : Fx X cc nL own Ts fr lo) (hk : kd i = 2) (hin : ∀ w ∈ wsX20, w ∈ Ts) (hl : Cond.fieldLink own index "MooringDesk$Fraction" "lower" "J" ∈ Ts) (hd : decode cc pc = .ok (.putfield index, 3)) (k : Wx X nL (upJ σ i 1 x) (pc + 3) lv st) : Wx X nL σ pc lv (.long x :: .ref (ad X i) :: st) := x_put (ci := 2) (C := RX2) (T := TX2) (n := 2) (k0 := 1) (ty0 := tyX2) (ty := .long) (τ := upJ σ i 1 x) F (kd_w (by decide) hk) rfl (cl_2 hk) hin tyX2_ok nmX2 (by decide) rfl hl rfl (by decide +kernel) rfl rfl (Nat.le_of_ble_eq_true rfl) (fun _ hj => setJ_ne hj) (by rw [cl_2 hk]; simp [fl2, upJ, setJ, vp_updL]) hd k
theorem g_3_0 (F : Fx X cc nL own Ts fr lo) (hk : kd i = 3) (hin : ∀ w ∈ wsX30, w ∈ Ts) (hl : Cond.fieldLink own index "MooringDesk$Hold" "laid" "[I" ∈ Ts) (hd : decode cc pc = .ok (.getfield index, 3)) (k : Wx X nL σ (pc + 3) lv (.ref (ad X (i + 1)) :: st)) : Wx X nL σ pc lv (.ref (ad X i) :: st) := x_get (ci := 3) (C := RX3) (T := TX3) (n := 8) (k0 := 0) F (kd_w (by decide) hk) rfl (cl_3 hk) hin (by decide) rfl hl rfl hd k
theorem g_3_1 (F : Fx X cc nL own Ts fr lo) (hk : kd i = 3) (hin : ∀ w ∈ wsX30, w ∈ Ts) (hl : Cond.fieldLink own index "MooringDesk$Hold" "wind" "[I" ∈ Ts) (hd : decode cc pc = .ok (.getfield index, 3)) (k : Wx X nL σ (pc + 3) lv (.ref (ad X (i + 2)) :: st)) : Wx X nL σ pc lv (.ref (ad X i) :: st) := x_get (ci := 3) (C := RX3) (T := TX3) (n := 8) (k0 := 1) F (kd_w (by decide) hk) rfl (cl_3 hk) hin (by decide) rfl hl rfl hd k
theorem g_3_2 (F : Fx X cc nL own Ts fr lo) (hk : kd i = 3) (hin : ∀ w ∈ wsX30, w ∈ Ts) (hl : Cond.fieldLink own index "MooringDesk$Hold" "taut" "I" ∈ Ts) (hd : decode cc pc = .ok (.getfield index, 3)) (k : Wx X nL σ (pc + 3) lv (.int (σ.1 i 2) :: st)) : Wx X nL σ pc lv (.ref (ad X i) :: st) := x_get (ci := 3) (C := RX3) (T := TX3) (n := 8) (k0 := 2) F (kd_w (by decide) hk) rfl (cl_3 hk) hin (by decide) rfl hl rfl hd k
theorem q_3_2 {x : Int32} (F : Fx X cc nL own Ts fr lo) (hk : kd i = 3) (hin : ∀ w ∈ wsX30, w ∈ Ts) (hl : Cond.fieldLink own index "MooringDesk$Hold" "taut" "I" ∈ Ts) (hd : decode cc pc = .ok (.putfield index, 3)) (k : Wx X nL (upI σ i 2 x) (pc + 3) lv st) : Wx X nL σ pc lv (.int x :: .ref (ad X i) :: st) := x_put (ci := 3) (C := RX3) (T := TX3) (n := 8) (k0 := 2) (ty0 := tyX3) (ty := .int) (τ := upI σ i 2 x) F (kd_w (by decide) hk) rfl (cl_3 hk) hin tyX3_ok nmX3 (by decide) rfl hl rfl (by decide +kernel) rfl rfl (Nat.le_of_ble_eq_true rfl) (fun _ hj => setI_ne hj) (by rw [cl_3 hk]; simp [fl3, upI, setI, upd]) hd k
theorem g_3_3 (F : Fx X cc nL own Ts fr lo) (hk : kd i = 3) (hin : ∀ w ∈ wsX30, w ∈ Ts) (hl : Cond.fieldLink own index "MooringDesk$Hold" "broken" "I" ∈ Ts) (hd : decode cc pc = .ok (.getfield index, 3)) (k : Wx X nL σ (pc + 3) lv (.int (σ.1 i 3) :: st)) : Wx X nL σ pc lv (.ref (ad X i) :: st) := x_get (ci := 3) (C := RX3) (T := TX3) (n := 8) (k0 := 3) F (kd_w (by decide) hk) rfl (cl_3 hk) hin (by decide) rfl hl rfl hd k
theorem q_3_3 {x : Int32} (F : Fx X cc nL own Ts fr lo) (hk : kd i = 3) (hin : ∀ w ∈ wsX30, w ∈ Ts) (hl : Cond.fieldLink own index "MooringDesk$Hold" "broken" "I" ∈ Ts) (hd : decode cc pc = .ok (.putfield index, 3)) (k : Wx X nL (upI σ i 3 x) (pc + 3) lv st) : Wx X nL σ pc lv (.int x :: .ref (ad X i) :: st) := x_put (ci := 3) (C := RX3) (T := TX3) (n := 8) (k0 := 3) (ty0 := tyX3) (ty := .int) (τ := upI σ i 3 x) F (kd_w (by decide) hk) rfl (cl_3 hk) hin tyX3_ok nmX3 (by decide) rfl hl rfl (by decide +kernel) rfl rfl (Nat.le_of_ble_eq_true rfl) (fun _ hj => setI_ne hj) (by rw [cl_3 hk]; simp [fl3, upI, setI, upd]) hd k
theorem g_3_4 (F : Fx X cc nL own Ts fr lo) (hk : kd i = 3) (hin : ∀ w ∈ wsX30, w ∈ Ts) (hl : Cond.fieldLink own index "MooringDesk$Hold" "cast" "I" ∈ Ts) (hd : decode cc pc = .ok (.getfield index, 3)) (k : Wx X nL σ (pc + 3) lv (.int (σ.1 i 4) :: st)) : Wx X nL σ pc lv (.ref (ad X i) :: st) := x_get (ci := 3) (C := RX3) (T := TX3) (n := 8) (k0 := 4) F (kd_w (by decide) hk) rfl (cl_3 hk) hin (by decide) rfl hl rfl hd k
theorem q_3_4 {x : Int32} (F : Fx X cc nL own Ts fr lo) (hk : kd i = 3) (hin : ∀ w ∈ wsX30, w ∈ Ts) (hl : Cond.fieldLink own index "MooringDesk$Hold" "cast" "I" ∈ Ts) (hd : decode cc pc = .ok (.putfield index, 3)) (k : Wx X nL (upI σ i 4 x) (pc + 3) lv st) : Wx X nL σ pc lv (.int x :: .ref (ad X i) :: st) := x_put (ci := 3) (C := RX3) (T := TX3) (n := 8) (k0 := 4) (ty0 := tyX3) (ty := .int) (τ := upI σ i 4 x) F (kd_w (by decide) hk) rfl (cl_3 hk) hin tyX3_ok nmX3 (by decide) rfl hl rfl (by decide +kernel) rfl rfl (Nat.le_of_ble_eq_true rfl) (fun _ hj => setI_ne hj) (by rw [cl_3 hk]; simp [fl3, upI, setI, upd]) hd k
theorem g_3_5 (F : Fx X cc nL own Ts fr lo) (hk : kd i = 3) (hin : ∀ w ∈ wsX30, w ∈ Ts) (hl : Cond.fieldLink own index "MooringDesk$Hold" "tries" "I" ∈ Ts) (hd : decode cc pc = .ok (.getfield index, 3)) (k : Wx X nL σ (pc + 3) lv (.int (σ.1 i 5) :: st)) : Wx X nL σ pc lv (.ref (ad X i) :: st) := x_get (ci := 3) (C := RX3) (T := TX3) (n := 8) (k0 := 5) F (kd_w (by decide) hk) rfl (cl_3 hk) hin (by decide) rfl hl rfl hd k
theorem q_3_5 {x : Int32} (F : Fx X cc nL own Ts fr lo) (hk : kd i = 3) (hin : ∀ w ∈ wsX30, w ∈ Ts) (hl : Cond.fieldLink own index "MooringDesk$Hold" "tries" "I" ∈ Ts) (hd : decode cc pc = .ok (.putfield index, 3)) (k : Wx X nL (upI σ i 5 x) (pc + 3) lv st) : Wx X nL σ pc lv (.int x :: .ref (ad X i) :: st) := x_put (ci := 3) (C := RX3) (T := TX3) (n := 8) (k0 := 5) (ty0 := tyX3) (ty := .int) (τ := upI σ i 5 x) F (kd_w (by decide) hk) rfl (cl_3 hk) hin tyX3_ok nmX3 (by decide) rfl hl rfl (by decide +kernel) rfl rfl (Nat.le_of_ble_eq_true rfl) (fun _ hj => setI_ne hj) (by rw [cl_3 hk]; simp [fl3, upI, setI, upd]) hd k
theorem g_3_6 (F : Fx X cc nL own Ts fr lo) (hk : kd i = 3) (hin : ∀ w ∈ wsX30, w ∈ Ts) (hl : Cond.fieldLink own index "MooringDesk$Hold" "everBroke" "I" ∈ Ts) (hd : decode cc pc = .ok (.getfield index, 3)) (k : Wx X nL σ (pc + 3) lv (.int (σ.1 i 6) :: st)) : Wx X nL σ pc lv (.ref (ad X i) :: st) := x_get (ci := 3) (C := RX3) (T := TX3) (n := 8) (k0 := 6) F (kd_w (by decide) hk) rfl (cl_3 hk) hin (by decide) rfl hl rfl hd k
theorem q_3_6 {x : Int32} (F : Fx X cc nL own Ts fr lo) (hk : kd i = 3) (hin : ∀ w ∈ wsX30, w ∈ Ts) (hl : Cond.fieldLink own index "MooringDesk$Hold" "everBroke" "I" ∈ Ts) (hd : decode cc pc = .ok (.putfield index, 3)) (k : Wx X nL (upI σ i 6 x) (pc + 3) lv st) : Wx X nL σ pc lv (.int x :: .ref (ad X i) :: st) := x_put (ci := 3) (C := RX3) (T := TX3) (n := 8) (k0 := 6) (ty0 := tyX3) (ty := .int) (τ := upI σ i 6 x) F (kd_w (by decide) hk) rfl (cl_3 hk) hin tyX3_ok nmX3 (by decide) rfl hl rfl (by decide +kernel) rfl rfl (Nat.le_of_ble_eq_true rfl) (fun _ hj => setI_ne hj) (by rw [cl_3 hk]; simp [fl3, upI, setI, upd]) hd k
theorem g_3_7 (F : Fx X cc nL own Ts fr lo) (hk : kd i = 3) (hin : ∀ w ∈ wsX30, w ∈ Ts) (hl : Cond.fieldLink own index "MooringDesk$Hold" "lines" "I" ∈ Ts) (hd : decode cc pc = .ok (.getfield index, 3)) (k : Wx X nL σ (pc + 3) lv (.int (σ.1 i 7) :: st)) : Wx X nL σ pc lv (.ref (ad X i) :: st) := x_get (ci := 3) (C := RX3) (T := TX3) (n := 8) (k0 := 7) F (kd_w (by decide) hk) rfl (cl_3 hk) hin (by decide) rfl hl rfl hd k
theorem q_3_7 {x : Int32} (F : Fx X cc nL own Ts fr lo) (hk : kd i = 3) (hin : ∀ w ∈ wsX30, w ∈ Ts) (hl : Cond.fieldLink own index "MooringDesk$Hold" "lines" "I" ∈ Ts) (hd : decode cc pc = .ok (.putfield index, 3)) (k : Wx X nL (upI σ i 7 x) (pc + 3) lv st) : Wx X nL σ pc lv (.int x :: .ref (ad X i) :: st) := x_put (ci := 3) (C := RX3) (T := TX3) (n := 8) (k0 := 7) (ty0 := tyX3) (ty := .int) (τ := upI σ i 7 x) F (kd_w (by decide) hk) rfl (cl_3 hk) hin tyX3_ok nmX3 (by decide) rfl hl rfl (by decide +kernel) rfl rfl (Nat.le_of_ble_eq_true rfl) (fun _ hj => setI_ne hj) (by rw [cl_3 hk]; simp [fl3, upI, setI, upd]) hd k
theorem g_4_0 (F : Fx X cc nL own Ts fr lo) (hk : kd i = 4) (hin : ∀ w ∈ wsX40, w ∈ Ts) (hl : Cond.fieldLink own index "MooringDesk$Journal" "lines" "[I" ∈ Ts) (hd : decode cc pc = .ok (.getfield index, 3)) (k : Wx X nL σ (pc + 3) lv (.ref (ad X (i + 1)) :: st)) : Wx X nL σ pc lv (.ref (ad X i) :: st) := x_get (ci := 4) (C := RX4) (T := TX4) (n := 1) (k0 := 0) F (kd_w (by decide) hk) rfl (cl_4 hk) hin (by decide) rfl hl rfl hd k
theorem g_5_0 (F : Fx X cc nL own Ts fr lo) (hk : kd i = 5) (hin : ∀ w ∈ wsX50, w ∈ Ts) (hl : Cond.fieldLink own index "MooringDesk$Mooring" "rules" "[I" ∈ Ts) (hd : decode cc pc = .ok (.getfield index, 3)) (k : Wx X nL σ (pc + 3) lv (.ref (ad X (i + 1)) :: st)) : Wx X nL σ pc lv (.ref (ad X i) :: st) := x_get (ci := 5) (C := RX5) (T := TX5) (n := 7) (k0 := 0) F (kd_w (by decide) hk) rfl (cl_5 hk) hin (by decide) rfl hl rfl hd k
theorem g_5_1 (F : Fx X cc nL own Ts fr lo) (hk : kd i = 5) (hin : ∀ w ∈ wsX50, w ∈ Ts) (hl : Cond.fieldLink own index "MooringDesk$Mooring" "items" "[I" ∈ Ts) (hd : decode cc pc = .ok (.getfield index, 3)) (k : Wx X nL σ (pc + 3) lv (.ref (ad X (i + 2)) :: st)) : Wx X nL σ pc lv (.ref (ad X i) :: st) := x_get (ci := 5) (C := RX5) (T := TX5) (n := 7) (k0 := 1) F (kd_w (by decide) hk) rfl (cl_5 hk) hin (by decide) rfl hl rfl hd k
theorem g_5_2 (F : Fx X cc nL own Ts fr lo) (hk : kd i = 5) (hin : ∀ w ∈ wsX50, w ∈ Ts) (hl : Cond.fieldLink own index "MooringDesk$Mooring" "ways" "[I" ∈ Ts) (hd : decode cc pc = .ok (.getfield index, 3)) (k : Wx X nL σ (pc + 3) lv (.ref (ad X (i + 3)) :: st)) : Wx X nL σ pc lv (.ref (ad X i) :: st) := x_get (ci := 5) (C := RX5) (T := TX5) (n := 7) (k0 := 2) F (kd_w (by decide) hk) rfl (cl_5 hk) hin (by decide) rfl hl rfl hd k
theorem g_5_3 (F : Fx X cc nL own Ts fr lo) (hk : kd i = 5) (hin : ∀ w ∈ wsX50, w ∈ Ts) (hl : Cond.fieldLink own index "MooringDesk$Mooring" "stiffness" "[I" ∈ Ts) (hd : decode cc pc = .ok (.getfield index, 3)) (k : Wx X nL σ (pc + 3) lv (.ref (ad X (i + 4)) :: st)) : Wx X nL σ pc lv (.ref (ad X i) :: st) := x_get (ci := 5) (C := RX5) (T := TX5) (n := 7) (k0 := 3) F (kd_w (by decide) hk) rfl (cl_5 hk) hin (by decide) rfl hl rfl hd k
theorem g_5_4 (F : Fx X cc nL own Ts fr lo) (hk : kd i = 5) (hin : ∀ w ∈ wsX50, w ∈ Ts) (hl : Cond.fieldLink own index "MooringDesk$Mooring" "strength" "[I" ∈ Ts) (hd : decode cc pc = .ok (.getfield index, 3)) (k : Wx X nL σ (pc + 3) lv (.ref (ad X (i + 5)) :: st)) : Wx X nL σ pc lv (.ref (ad X i) :: st) := x_get (ci := 5) (C := RX5) (T := TX5) (n := 7) (k0 := 4) F (kd_w (by decide) hk) rfl (cl_5 hk) hin (by decide) rfl hl rfl hd k
theorem g_5_5 (F : Fx X cc nL own Ts fr lo) (hk : kd i = 5) (hin : ∀ w ∈ wsX50, w ∈ Ts) (hl : Cond.fieldLink own index "MooringDesk$Mooring" "isFree" "[Z" ∈ Ts) (hd : decode cc pc = .ok (.getfield index, 3)) (k : Wx X nL σ (pc + 3) lv (.ref (ad X (i + 6)) :: st)) : Wx X nL σ pc lv (.ref (ad X i) :: st) := x_get (ci := 5) (C := RX5) (T := TX5) (n := 7) (k0 := 5) F (kd_w (by decide) hk) rfl (cl_5 hk) hin (by decide) rfl hl rfl hd k
theorem g_5_6 (F : Fx X cc nL own Ts fr lo) (hk : kd i = 5) (hin : ∀ w ∈ wsX50, w ∈ Ts) (hl : Cond.fieldLink own index "MooringDesk$Mooring" "ropes" "I" ∈ Ts) (hd : decode cc pc = .ok (.getfield index, 3)) (k : Wx X nL σ (pc + 3) lv (.int (σ.1 i 6) :: st)) : Wx X nL σ pc lv (.ref (ad X i) :: st) := x_get (ci := 5) (C := RX5) (T := TX5) (n := 7) (k0 := 6) F (kd_w (by decide) hk) rfl (cl_5 hk) hin (by decide) rfl hl rfl hd k
theorem q_5_6 {x : Int32} (F : Fx X cc nL own Ts fr lo) (hk : kd i = 5) (hin : ∀ w ∈ wsX50, w ∈ Ts) (hl : Cond.fieldLink own index "MooringDesk$Mooring" "ropes" "I" ∈ Ts) (hd : decode cc pc = .ok (.putfield index, 3)) (k : Wx X nL (upI σ i 6 x) (pc + 3) lv st) : Wx X nL σ pc lv (.int x :: .ref (ad X i) :: st) := x_put (ci := 5) (C := RX5) (T := TX5) (n := 7) (k0 := 6) (ty0 := tyX5) (ty := .int) (τ := upI σ i 6 x) F (kd_w (by decide) hk) rfl (cl_5 hk) hin tyX5_ok nmX5 (by decide) rfl hl rfl (by decide +kernel) rfl rfl (Nat.le_of_ble_eq_true rfl) (fun _ hj => setI_ne hj) (by rw [cl_5 hk]; simp [fl5, upI, setI, upd]) hd k
theorem g_6_0 (F : Fx X cc nL own Ts fr lo) (hk : kd i = 6) (hin : ∀ w ∈ wsX60, w ∈ Ts) (hl : Cond.fieldLink own index "MooringDesk$Past" "holds" "[LMooringDesk$Hold;" ∈ Ts) (hd : decode cc pc = .ok (.getfield index, 3)) (k : Wx X nL σ (pc + 3) lv (.ref (ad X (i + 1)) :: st)) : Wx X nL σ pc lv (.ref (ad X i) :: st) := x_get (ci := 6) (C := RX6) (T := TX6) (n := 3) (k0 := 0) F (kd_w (by decide) hk) rfl (cl_6 hk) hin (by decide) rfl hl rfl hd k
theorem g_6_1 (F : Fx X cc nL own Ts fr lo) (hk : kd i = 6) (hin : ∀ w ∈ wsX60, w ∈ Ts) (hl : Cond.fieldLink own index "MooringDesk$Past" "next" "I" ∈ Ts) (hd : decode cc pc = .ok (.getfield index, 3)) (k : Wx X nL σ (pc + 3) lv (.int (σ.1 i 1) :: st)) : Wx X nL σ pc lv (.ref (ad X i) :: st) := x_get (ci := 6) (C := RX6) (T := TX6) (n := 3) (k0 := 1) F (kd_w (by decide) hk) rfl (cl_6 hk) hin (by decide) rfl hl rfl hd k
theorem q_6_1 {x : Int32} (F : Fx X cc nL own Ts fr lo) (hk : kd i = 6) (hin : ∀ w ∈ wsX60, w ∈ Ts) (hl : Cond.fieldLink own index "MooringDesk$Past" "next" "I" ∈ Ts) (hd : decode cc pc = .ok (.putfield index, 3)) (k : Wx X nL (upI σ i 1 x) (pc + 3) lv st) : Wx X nL σ pc lv (.int x :: .ref (ad X i) :: st) := x_put (ci := 6) (C := RX6) (T := TX6) (n := 3) (k0 := 1) (ty0 := tyX6) (ty := .int) (τ := upI σ i 1 x) F (kd_w (by decide) hk) rfl (cl_6 hk) hin tyX6_ok nmX6 (by decide) rfl hl rfl (by decide +kernel) rfl rfl (Nat.le_of_ble_eq_true rfl) (fun _ hj => setI_ne hj) (by rw [cl_6 hk]; simp [fl6, upI, setI, upd]) hd k
theorem g_6_2 (F : Fx X cc nL own Ts fr lo) (hk : kd i = 6) (hin : ∀ w ∈ wsX60, w ∈ Ts) (hl : Cond.fieldLink own index "MooringDesk$Past" "size" "I" ∈ Ts) (hd : decode cc pc = .ok (.getfield index, 3)) (k : Wx X nL σ (pc + 3) lv (.int (σ.1 i 2) :: st)) : Wx X nL σ pc lv (.ref (ad X i) :: st) := x_get (ci := 6) (C := RX6) (T := TX6) (n := 3) (k0 := 2) F (kd_w (by decide) hk) rfl (cl_6 hk) hin (by decide) rfl hl rfl hd k
theorem q_6_2 {x : Int32} (F : Fx X cc nL own Ts fr lo) (hk : kd i = 6) (hin : ∀ w ∈ wsX60, w ∈ Ts) (hl : Cond.fieldLink own index "MooringDesk$Past" "size" "I" ∈ Ts) (hd : decode cc pc = .ok (.putfield index, 3)) (k : Wx X nL (upI σ i 2 x) (pc + 3) lv st) : Wx X nL σ pc lv (.int x :: .ref (ad X i) :: st) := x_put (ci := 6) (C := RX6) (T := TX6) (n := 3) (k0 := 2) (ty0 := tyX6) (ty := .int) (τ := upI σ i 2 x) F (kd_w (by decide) hk) rfl (cl_6 hk) hin tyX6_ok nmX6 (by decide) rfl hl rfl (by decide +kernel) rfl rfl (Nat.le_of_ble_eq_true rfl) (fun _ hj => setI_ne hj) (by rw [cl_6 hk]; simp [fl6, upI, setI, upd]) hd k
theorem g_7_0 (F : Fx X cc nL own Ts fr lo) (hk : kd i = 7) (hin : ∀ w ∈ wsX70, w ∈ Ts) (hl : Cond.fieldLink own index "MooringDesk$Reader" "tape" "LMooringDesk$Tape;" ∈ Ts) (hd : decode cc pc = .ok (.getfield index, 3)) (k : Wx X nL σ (pc + 3) lv (.ref (ad X 1) :: st)) : Wx X nL σ pc lv (.ref (ad X i) :: st) := x_get (ci := 7) (C := RX7) (T := TX7) (n := 4) (k0 := 0) F (kd_w (by decide) hk) rfl (cl_7 hk) hin (by decide) rfl hl rfl hd k
theorem g_7_1 (F : Fx X cc nL own Ts fr lo) (hk : kd i = 7) (hin : ∀ w ∈ wsX70, w ∈ Ts) (hl : Cond.fieldLink own index "MooringDesk$Reader" "at" "I" ∈ Ts) (hd : decode cc pc = .ok (.getfield index, 3)) (k : Wx X nL σ (pc + 3) lv (.int (σ.1 i 1) :: st)) : Wx X nL σ pc lv (.ref (ad X i) :: st) := x_get (ci := 7) (C := RX7) (T := TX7) (n := 4) (k0 := 1) F (kd_w (by decide) hk) rfl (cl_7 hk) hin (by decide) rfl hl rfl hd k
theorem q_7_1 {x : Int32} (F : Fx X cc nL own Ts fr lo) (hk : kd i = 7) (hin : ∀ w ∈ wsX70, w ∈ Ts) (hl : Cond.fieldLink own index "MooringDesk$Reader" "at" "I" ∈ Ts) (hd : decode cc pc = .ok (.putfield index, 3)) (k : Wx X nL (upI σ i 1 x) (pc + 3) lv st) : Wx X nL σ pc lv (.int x :: .ref (ad X i) :: st) := x_put (ci := 7) (C := RX7) (T := TX7) (n := 4) (k0 := 1) (ty0 := tyX7) (ty := .int) (τ := upI σ i 1 x) F (kd_w (by decide) hk) rfl (cl_7 hk) hin tyX7_ok nmX7 (by decide) rfl hl rfl (by decide +kernel) rfl rfl (Nat.le_of_ble_eq_true rfl) (fun _ hj => setI_ne hj) (by rw [cl_7 hk]; simp [fl7, upI, setI, upd]) hd k
theorem g_7_2 (F : Fx X cc nL own Ts fr lo) (hk : kd i = 7) (hin : ∀ w ∈ wsX70, w ∈ Ts) (hl : Cond.fieldLink own index "MooringDesk$Reader" "number" "I" ∈ Ts) (hd : decode cc pc = .ok (.getfield index, 3)) (k : Wx X nL σ (pc + 3) lv (.int (σ.1 i 2) :: st)) : Wx X nL σ pc lv (.ref (ad X i) :: st) := x_get (ci := 7) (C := RX7) (T := TX7) (n := 4) (k0 := 2) F (kd_w (by decide) hk) rfl (cl_7 hk) hin (by decide) rfl hl rfl hd k
theorem q_7_2 {x : Int32} (F : Fx X cc nL own Ts fr lo) (hk : kd i = 7) (hin : ∀ w ∈ wsX70, w ∈ Ts) (hl : Cond.fieldLink own index "MooringDesk$Reader" "number" "I" ∈ Ts) (hd : decode cc pc = .ok (.putfield index, 3)) (k : Wx X nL (upI σ i 2 x) (pc + 3) lv st) : Wx X nL σ pc lv (.int x :: .ref (ad X i) :: st) := x_put (ci := 7) (C := RX7) (T := TX7) (n := 4) (k0 := 2) (ty0 := tyX7) (ty := .int) (τ := upI σ i 2 x) F (kd_w (by decide) hk) rfl (cl_7 hk) hin tyX7_ok nmX7 (by decide) rfl hl rfl (by decide +kernel) rfl rfl (Nat.le_of_ble_eq_true rfl) (fun _ hj => setI_ne hj) (by rw [cl_7 hk]; simp [fl7, upI, setI, upd]) hd k
theorem g_7_3 (F : Fx X cc nL own Ts fr lo) (hk : kd i = 7) (hin : ∀ w ∈ wsX70, w ∈ Ts) (hl : Cond.fieldLink own index "MooringDesk$Reader" "hasRules" "Z" ∈ Ts) (hd : decode cc pc = .ok (.getfield index, 3)) (k : Wx X nL σ (pc + 3) lv (.int (σ.1 i 3) :: st)) : Wx X nL σ pc lv (.ref (ad X i) :: st) := x_get (ci := 7) (C := RX7) (T := TX7) (n := 4) (k0 := 3) F (kd_w (by decide) hk) rfl (cl_7 hk) hin (by decide) rfl hl rfl hd k
theorem q_7_3 {x : Int32} (F : Fx X cc nL own Ts fr lo) (hk : kd i = 7) (hz : x = 0 ∨ x = 1) (hin : ∀ w ∈ wsX70, w ∈ Ts) (hl : Cond.fieldLink own index "MooringDesk$Reader" "hasRules" "Z" ∈ Ts) (hd : decode cc pc = .ok (.putfield index, 3)) (k : Wx X nL (upI σ i 3 x) (pc + 3) lv st) : Wx X nL σ pc lv (.int x :: .ref (ad X i) :: st) := x_put (ci := 7) (C := RX7) (T := TX7) (n := 4) (k0 := 3) (ty0 := tyX7) (ty := .boolean) (τ := upI σ i 3 x) F (kd_w (by decide) hk) rfl (cl_7 hk) hin tyX7_ok nmX7 (by decide) rfl hl rfl (by decide +kernel) (nar01 hz) (fit01 hz) (Nat.le_of_ble_eq_true rfl) (fun _ hj => setI_ne hj) (by rw [cl_7 hk]; simp [fl7, upI, setI, upd]) hd k
theorem g_8_0 (F : Fx X cc nL own Ts fr lo) (hk : kd i = 8) (hin : ∀ w ∈ wsX80, w ∈ Ts) (hl : Cond.fieldLink own index "MooringDesk$Refusals" "counts" "[I" ∈ Ts) (hd : decode cc pc = .ok (.getfield index, 3)) (k : Wx X nL σ (pc + 3) lv (.ref (ad X (i + 1)) :: st)) : Wx X nL σ pc lv (.ref (ad X i) :: st) := x_get (ci := 8) (C := RX8) (T := TX8) (n := 3) (k0 := 0) F (kd_w (by decide) hk) rfl (cl_8 hk) hin (by decide) rfl hl rfl hd k
theorem g_8_1 (F : Fx X cc nL own Ts fr lo) (hk : kd i = 8) (hin : ∀ w ∈ wsX80, w ∈ Ts) (hl : Cond.fieldLink own index "MooringDesk$Refusals" "causes" "[I" ∈ Ts) (hd : decode cc pc = .ok (.getfield index, 3)) (k : Wx X nL σ (pc + 3) lv (.ref (ad X (i + 2)) :: st)) : Wx X nL σ pc lv (.ref (ad X i) :: st) := x_get (ci := 8) (C := RX8) (T := TX8) (n := 3) (k0 := 1) F (kd_w (by decide) hk) rfl (cl_8 hk) hin (by decide) rfl hl rfl hd k
theorem g_8_2 (F : Fx X cc nL own Ts fr lo) (hk : kd i = 8) (hin : ∀ w ∈ wsX80, w ∈ Ts) (hl : Cond.fieldLink own index "MooringDesk$Refusals" "length" "I" ∈ Ts) (hd : decode cc pc = .ok (.getfield index, 3)) (k : Wx X nL σ (pc + 3) lv (.int (σ.1 i 2) :: st)) : Wx X nL σ pc lv (.ref (ad X i) :: st) := x_get (ci := 8) (C := RX8) (T := TX8) (n := 3) (k0 := 2) F (kd_w (by decide) hk) rfl (cl_8 hk) hin (by decide) rfl hl rfl hd k
theorem q_8_2 {x : Int32} (F : Fx X cc nL own Ts fr lo) (hk : kd i = 8) (hin : ∀ w ∈ wsX80, w ∈ Ts) (hl : Cond.fieldLink own index "MooringDesk$Refusals" "length" "I" ∈ Ts) (hd : decode cc pc = .ok (.putfield index, 3)) (k : Wx X nL (upI σ i 2 x) (pc + 3) lv st) : Wx X nL σ pc lv (.int x :: .ref (ad X i) :: st) := x_put (ci := 8) (C := RX8) (T := TX8) (n := 3) (k0 := 2) (ty0 := tyX8) (ty := .int) (τ := upI σ i 2 x) F (kd_w (by decide) hk) rfl (cl_8 hk) hin tyX8_ok nmX8 (by decide) rfl hl rfl (by decide +kernel) rfl rfl (Nat.le_of_ble_eq_true rfl) (fun _ hj => setI_ne hj) (by rw [cl_8 hk]; simp [fl8, upI, setI, upd]) hd k
theorem g_9_0 (F : Fx X cc nL own Ts fr lo) (hk : kd i = 9) (hin : ∀ w ∈ wsX90, w ∈ Ts) (hl : Cond.fieldLink own index "MooringDesk$Script" "cells" "[I" ∈ Ts) (hd : decode cc pc = .ok (.getfield index, 3)) (k : Wx X nL σ (pc + 3) lv (.ref (ad X (i + 1)) :: st)) : Wx X nL σ pc lv (.ref (ad X i) :: st) := x_get (ci := 9) (C := RX9) (T := TX9) (n := 2) (k0 := 0) F (kd_w (by decide) hk) rfl (cl_9 hk) hin (by decide) rfl hl rfl hd k
theorem g_9_1 (F : Fx X cc nL own Ts fr lo) (hk : kd i = 9) (hin : ∀ w ∈ wsX90, w ∈ Ts) (hl : Cond.fieldLink own index "MooringDesk$Script" "steps" "I" ∈ Ts) (hd : decode cc pc = .ok (.getfield index, 3)) (k : Wx X nL σ (pc + 3) lv (.int (σ.1 i 1) :: st)) : Wx X nL σ pc lv (.ref (ad X i) :: st) := x_get (ci := 9) (C := RX9) (T := TX9) (n := 2) (k0 := 1) F (kd_w (by decide) hk) rfl (cl_9 hk) hin (by decide) rfl hl rfl hd k
theorem q_9_1 {x : Int32} (F : Fx X cc nL own Ts fr lo) (hk : kd i = 9) (hin : ∀ w ∈ wsX90, w ∈ Ts) (hl : Cond.fieldLink own index "MooringDesk$Script" "steps" "I" ∈ Ts) (hd : decode cc pc = .ok (.putfield index, 3)) (k : Wx X nL (upI σ i 1 x) (pc + 3) lv st) : Wx X nL σ pc lv (.int x :: .ref (ad X i) :: st) := x_put (ci := 9) (C := RX9) (T := TX9) (n := 2) (k0 := 1) (ty0 := tyX9) (ty := .int) (τ := upI σ i 1 x) F (kd_w (by decide) hk) rfl (cl_9 hk) hin tyX9_ok nmX9 (by decide) rfl hl rfl (by decide +kernel) rfl rfl (Nat.le_of_ble_eq_true rfl) (fun _ hj => setI_ne hj) (by rw [cl_9 hk]; simp [fl9, upI, setI, upd]) hd k
theorem g_10_0 (F : Fx X cc nL own Ts fr lo) (hk : kd i = 10) (hin : ∀ w ∈ wsX100, w ∈ Ts) (hl : Cond.fieldLink own index "MooringDesk$Tape" "bytes" "[B" ∈ Ts) (hd : decode cc pc = .ok (.getfield index, 3)) (k : Wx X nL σ (pc + 3) lv (.ref (ad X (i + 1)) :: st)) : Wx X nL σ pc lv (.ref (ad X i) :: st) := x_get (ci := 10) (C := RX10) (T := TX10) (n := 2) (k0 := 0) F (kd_w (by decide) hk) rfl (cl_10 hk) hin (by decide) rfl hl rfl hd k
theorem g_10_1 (F : Fx X cc nL own Ts fr lo) (hk : kd i = 10) (hin : ∀ w ∈ wsX100, w ∈ Ts) (hl : Cond.fieldLink own index "MooringDesk$Tape" "length" "I" ∈ Ts) (hd : decode cc pc = .ok (.getfield index, 3)) (k : Wx X nL σ (pc + 3) lv (.int (σ.1 i 1) :: st)) : Wx X nL σ pc lv (.ref (ad X i) :: st) := x_get (ci := 10) (C := RX10) (T := TX10) (n := 2) (k0 := 1) F (kd_w (by decide) hk) rfl (cl_10 hk) hin (by decide) rfl hl rfl hd k
theorem q_10_1 {x : Int32} (F : Fx X cc nL own Ts fr lo) (hk : kd i = 10) (hin : ∀ w ∈ wsX100, w ∈ Ts) (hl : Cond.fieldLink own index "MooringDesk$Tape" "length" "I" ∈ Ts) (hd : decode cc pc = .ok (.putfield index, 3)) (k : Wx X nL (upI σ i 1 x) (pc + 3) lv st) : Wx X nL σ pc lv (.int x :: .ref (ad X i) :: st) := x_put (ci := 10) (C := RX10) (T := TX10) (n := 2) (k0 := 1) (ty0 := tyX10) (ty := .int) (τ := upI σ i 1 x) F (kd_w (by decide) hk) rfl (cl_10 hk) hin tyX10_ok nmX10 (by decide) rfl hl rfl (by decide +kernel) rfl rfl (Nat.le_of_ble_eq_true rfl) (fun _ hj => setI_ne hj) (by rw [cl_10 hk]; simp [fl10, upI, setI, upd]) hd k
theorem g_11_0 (F : Fx X cc nL own Ts fr lo) (hk : kd i = 11) (hin : ∀ w ∈ wsX110, w ∈ Ts) (hl : Cond.fieldLink own index "MooringDesk" "tape" "LMooringDesk$Tape;" ∈ Ts) (hd : decode cc pc = .ok (.getfield index, 3)) (k : Wx X nL σ (pc + 3) lv (.ref (ad X 1) :: st)) : Wx X nL σ pc lv (.ref (ad X i) :: st) := x_get (ci := 11) (C := RX11) (T := TX11) (n := 18) (k0 := 0) F (kd_w (by decide) hk) rfl (cl_11 hk) hin (by decide) rfl hl rfl hd k
theorem g_11_1 (F : Fx X cc nL own Ts fr lo) (hk : kd i = 11) (hin : ∀ w ∈ wsX110, w ∈ Ts) (hl : Cond.fieldLink own index "MooringDesk" "reader" "LMooringDesk$Reader;" ∈ Ts) (hd : decode cc pc = .ok (.getfield index, 3)) (k : Wx X nL σ (pc + 3) lv (.ref (ad X 3) :: st)) : Wx X nL σ pc lv (.ref (ad X i) :: st) := x_get (ci := 11) (C := RX11) (T := TX11) (n := 18) (k0 := 1) F (kd_w (by decide) hk) rfl (cl_11 hk) hin (by decide) rfl hl rfl hd k
theorem g_11_2 (F : Fx X cc nL own Ts fr lo) (hk : kd i = 11) (hin : ∀ w ∈ wsX110, w ∈ Ts) (hl : Cond.fieldLink own index "MooringDesk" "mooring" "LMooringDesk$Mooring;" ∈ Ts) (hd : decode cc pc = .ok (.getfield index, 3)) (k : Wx X nL σ (pc + 3) lv (.ref (ad X (mo (σ.1 i 2))) :: st)) : Wx X nL σ pc lv (.ref (ad X i) :: st) := x_get (ci := 11) (C := RX11) (T := TX11) (n := 18) (k0 := 2) F (kd_w (by decide) hk) rfl (cl_11 hk) hin (by decide) rfl hl rfl hd k
theorem q_11_2 {x : Nat} (F : Fx X cc nL own Ts fr lo) (hk : kd i = 11) (hx : kd x = 5) (hin : ∀ w ∈ wsX110, w ∈ Ts) (hl : Cond.fieldLink own index "MooringDesk" "mooring" "LMooringDesk$Mooring;" ∈ Ts) (hd : decode cc pc = .ok (.putfield index, 3)) (k : Wx X nL (upI σ i 2 (moi x)) (pc + 3) lv st) : Wx X nL σ pc lv (.ref (ad X x) :: .ref (ad X i) :: st) := x_put (ci := 11) (C := RX11) (T := TX11) (n := 18) (k0 := 2) (ty0 := tyX11) (ty := .object "MooringDesk$Mooring") (τ := upI σ i 2 (moi x)) F (kd_w (by decide) hk) rfl (cl_11 hk) hin tyX11_ok nmX11 (by decide) rfl hl rfl (by decide +kernel) rfl rfl (Nat.le_of_ble_eq_true rfl) (fun _ hj => setI_ne hj) (by rw [cl_11 hk]; simp [fl11, upI, setI, upd, mo_moi hx]) hd k
theorem g_11_3 (F : Fx X cc nL own Ts fr lo) (hk : kd i = 11) (hin : ∀ w ∈ wsX110, w ∈ Ts) (hl : Cond.fieldLink own index "MooringDesk" "spare" "LMooringDesk$Mooring;" ∈ Ts) (hd : decode cc pc = .ok (.getfield index, 3)) (k : Wx X nL σ (pc + 3) lv (.ref (ad X (mo (σ.1 i 3))) :: st)) : Wx X nL σ pc lv (.ref (ad X i) :: st) := x_get (ci := 11) (C := RX11) (T := TX11) (n := 18) (k0 := 3) F (kd_w (by decide) hk) rfl (cl_11 hk) hin (by decide) rfl hl rfl hd k
theorem q_11_3 {x : Nat} (F : Fx X cc nL own Ts fr lo) (hk : kd i = 11) (hx : kd x = 5) (hin : ∀ w ∈ wsX110, w ∈ Ts) (hl : Cond.fieldLink own index "MooringDesk" "spare" "LMooringDesk$Mooring;" ∈ Ts) (hd : decode cc pc = .ok (.putfield index, 3)) (k : Wx X nL (upI σ i 3 (moi x)) (pc + 3) lv st) : Wx X nL σ pc lv (.ref (ad X x) :: .ref (ad X i) :: st) := x_put (ci := 11) (C := RX11) (T := TX11) (n := 18) (k0 := 3) (ty0 := tyX11) (ty := .object "MooringDesk$Mooring") (τ := upI σ i 3 (moi x)) F (kd_w (by decide) hk) rfl (cl_11 hk) hin tyX11_ok nmX11 (by decide) rfl hl rfl (by decide +kernel) rfl rfl (Nat.le_of_ble_eq_true rfl) (fun _ hj => setI_ne hj) (by rw [cl_11 hk]; simp [fl11, upI, setI, upd, mo_moi hx]) hd k
theorem g_11_4 (F : Fx X cc nL own Ts fr lo) (hk : kd i = 11) (hin : ∀ w ∈ wsX110, w ∈ Ts) (hl : Cond.fieldLink own index "MooringDesk" "scripts" "[LMooringDesk$Script;" ∈ Ts) (hd : decode cc pc = .ok (.getfield index, 3)) (k : Wx X nL σ (pc + 3) lv (.ref (ad X 18) :: st)) : Wx X nL σ pc lv (.ref (ad X i) :: st) := x_get (ci := 11) (C := RX11) (T := TX11) (n := 18) (k0 := 4) F (kd_w (by decide) hk) rfl (cl_11 hk) hin (by decide) rfl hl rfl hd k
theorem g_11_5 (F : Fx X cc nL own Ts fr lo) (hk : kd i = 11) (hin : ∀ w ∈ wsX110, w ∈ Ts) (hl : Cond.fieldLink own index "MooringDesk" "scriptCount" "I" ∈ Ts) (hd : decode cc pc = .ok (.getfield index, 3)) (k : Wx X nL σ (pc + 3) lv (.int (σ.1 i 5) :: st)) : Wx X nL σ pc lv (.ref (ad X i) :: st) := x_get (ci := 11) (C := RX11) (T := TX11) (n := 18) (k0 := 5) F (kd_w (by decide) hk) rfl (cl_11 hk) hin (by decide) rfl hl rfl hd k
theorem q_11_5 {x : Int32} (F : Fx X cc nL own Ts fr lo) (hk : kd i = 11) (hin : ∀ w ∈ wsX110, w ∈ Ts) (hl : Cond.fieldLink own index "MooringDesk" "scriptCount" "I" ∈ Ts) (hd : decode cc pc = .ok (.putfield index, 3)) (k : Wx X nL (upI σ i 5 x) (pc + 3) lv st) : Wx X nL σ pc lv (.int x :: .ref (ad X i) :: st) := x_put (ci := 11) (C := RX11) (T := TX11) (n := 18) (k0 := 5) (ty0 := tyX11) (ty := .int) (τ := upI σ i 5 x) F (kd_w (by decide) hk) rfl (cl_11 hk) hin tyX11_ok nmX11 (by decide) rfl hl rfl (by decide +kernel) rfl rfl (Nat.le_of_ble_eq_true rfl) (fun _ hj => setI_ne hj) (by rw [cl_11 hk]; simp [fl11, upI, setI, upd]) hd k
theorem g_11_6 (F : Fx X cc nL own Ts fr lo) (hk : kd i = 11) (hin : ∀ w ∈ wsX110, w ∈ Ts) (hl : Cond.fieldLink own index "MooringDesk" "now" "LMooringDesk$Hold;" ∈ Ts) (hd : decode cc pc = .ok (.getfield index, 3)) (k : Wx X nL σ (pc + 3) lv (.ref (ad X 29) :: st)) : Wx X nL σ pc lv (.ref (ad X i) :: st) := x_get (ci := 11) (C := RX11) (T := TX11) (n := 18) (k0 := 6) F (kd_w (by decide) hk) rfl (cl_11 hk) hin (by decide) rfl hl rfl hd k
theorem g_11_7 (F : Fx X cc nL own Ts fr lo) (hk : kd i = 11) (hin : ∀ w ∈ wsX110, w ∈ Ts) (hl : Cond.fieldLink own index "MooringDesk" "work" "LMooringDesk$Hold;" ∈ Ts) (hd : decode cc pc = .ok (.getfield index, 3)) (k : Wx X nL σ (pc + 3) lv (.ref (ad X 32) :: st)) : Wx X nL σ pc lv (.ref (ad X i) :: st) := x_get (ci := 11) (C := RX11) (T := TX11) (n := 18) (k0 := 7) F (kd_w (by decide) hk) rfl (cl_11 hk) hin (by decide) rfl hl rfl hd k
theorem g_11_8 (F : Fx X cc nL own Ts fr lo) (hk : kd i = 11) (hin : ∀ w ∈ wsX110, w ∈ Ts) (hl : Cond.fieldLink own index "MooringDesk" "crew" "LMooringDesk$Crew;" ∈ Ts) (hd : decode cc pc = .ok (.getfield index, 3)) (k : Wx X nL σ (pc + 3) lv (.ref (ad X 38) :: st)) : Wx X nL σ pc lv (.ref (ad X i) :: st) := x_get (ci := 11) (C := RX11) (T := TX11) (n := 18) (k0 := 8) F (kd_w (by decide) hk) rfl (cl_11 hk) hin (by decide) rfl hl rfl hd k
theorem g_11_9 (F : Fx X cc nL own Ts fr lo) (hk : kd i = 11) (hin : ∀ w ∈ wsX110, w ∈ Ts) (hl : Cond.fieldLink own index "MooringDesk" "fraction" "LMooringDesk$Fraction;" ∈ Ts) (hd : decode cc pc = .ok (.getfield index, 3)) (k : Wx X nL σ (pc + 3) lv (.ref (ad X 46) :: st)) : Wx X nL σ pc lv (.ref (ad X i) :: st) := x_get (ci := 11) (C := RX11) (T := TX11) (n := 18) (k0 := 9) F (kd_w (by decide) hk) rfl (cl_11 hk) hin (by decide) rfl hl rfl hd k
theorem g_11_10 (F : Fx X cc nL own Ts fr lo) (hk : kd i = 11) (hin : ∀ w ∈ wsX110, w ∈ Ts) (hl : Cond.fieldLink own index "MooringDesk" "best" "LMooringDesk$Fraction;" ∈ Ts) (hd : decode cc pc = .ok (.getfield index, 3)) (k : Wx X nL σ (pc + 3) lv (.ref (ad X 47) :: st)) : Wx X nL σ pc lv (.ref (ad X i) :: st) := x_get (ci := 11) (C := RX11) (T := TX11) (n := 18) (k0 := 10) F (kd_w (by decide) hk) rfl (cl_11 hk) hin (by decide) rfl hl rfl hd k
theorem g_11_11 (F : Fx X cc nL own Ts fr lo) (hk : kd i = 11) (hin : ∀ w ∈ wsX110, w ∈ Ts) (hl : Cond.fieldLink own index "MooringDesk" "journal" "LMooringDesk$Journal;" ∈ Ts) (hd : decode cc pc = .ok (.getfield index, 3)) (k : Wx X nL σ (pc + 3) lv (.ref (ad X 48) :: st)) : Wx X nL σ pc lv (.ref (ad X i) :: st) := x_get (ci := 11) (C := RX11) (T := TX11) (n := 18) (k0 := 11) F (kd_w (by decide) hk) rfl (cl_11 hk) hin (by decide) rfl hl rfl hd k
theorem g_11_12 (F : Fx X cc nL own Ts fr lo) (hk : kd i = 11) (hin : ∀ w ∈ wsX110, w ∈ Ts) (hl : Cond.fieldLink own index "MooringDesk" "past" "LMooringDesk$Past;" ∈ Ts) (hd : decode cc pc = .ok (.getfield index, 3)) (k : Wx X nL σ (pc + 3) lv (.ref (ad X 50) :: st)) : Wx X nL σ pc lv (.ref (ad X i) :: st) := x_get (ci := 11) (C := RX11) (T := TX11) (n := 18) (k0 := 12) F (kd_w (by decide) hk) rfl (cl_11 hk) hin (by decide) rfl hl rfl hd k
theorem g_11_13 (F : Fx X cc nL own Ts fr lo) (hk : kd i = 11) (hin : ∀ w ∈ wsX110, w ∈ Ts) (hl : Cond.fieldLink own index "MooringDesk" "refusals" "LMooringDesk$Refusals;" ∈ Ts) (hd : decode cc pc = .ok (.getfield index, 3)) (k : Wx X nL σ (pc + 3) lv (.ref (ad X 52) :: st)) : Wx X nL σ pc lv (.ref (ad X i) :: st) := x_get (ci := 11) (C := RX11) (T := TX11) (n := 18) (k0 := 13) F (kd_w (by decide) hk) rfl (cl_11 hk) hin (by decide) rfl hl rfl hd k
theorem g_11_14 (F : Fx X cc nL own Ts fr lo) (hk : kd i = 11) (hin : ∀ w ∈ wsX110, w ∈ Ts) (hl : Cond.fieldLink own index "MooringDesk" "kept" "LMooringDesk$Hold;" ∈ Ts) (hd : decode cc pc = .ok (.getfield index, 3)) (k : Wx X nL σ (pc + 3) lv (.ref (ad X 35) :: st)) : Wx X nL σ pc lv (.ref (ad X i) :: st) := x_get (ci := 11) (C := RX11) (T := TX11) (n := 18) (k0 := 14) F (kd_w (by decide) hk) rfl (cl_11 hk) hin (by decide) rfl hl rfl hd k
theorem g_11_15 (F : Fx X cc nL own Ts fr lo) (hk : kd i = 11) (hin : ∀ w ∈ wsX110, w ∈ Ts) (hl : Cond.fieldLink own index "MooringDesk" "keptLines" "[I" ∈ Ts) (hd : decode cc pc = .ok (.getfield index, 3)) (k : Wx X nL σ (pc + 3) lv (.ref (ad X 55) :: st)) : Wx X nL σ pc lv (.ref (ad X i) :: st) := x_get (ci := 11) (C := RX11) (T := TX11) (n := 18) (k0 := 15) F (kd_w (by decide) hk) rfl (cl_11 hk) hin (by decide) rfl hl rfl hd k
theorem g_11_16 (F : Fx X cc nL own Ts fr lo) (hk : kd i = 11) (hin : ∀ w ∈ wsX110, w ∈ Ts) (hl : Cond.fieldLink own index "MooringDesk" "hasImage" "Z" ∈ Ts) (hd : decode cc pc = .ok (.getfield index, 3)) (k : Wx X nL σ (pc + 3) lv (.int (σ.1 i 16) :: st)) : Wx X nL σ pc lv (.ref (ad X i) :: st) := x_get (ci := 11) (C := RX11) (T := TX11) (n := 18) (k0 := 16) F (kd_w (by decide) hk) rfl (cl_11 hk) hin (by decide) rfl hl rfl hd k
theorem q_11_16 {x : Int32} (F : Fx X cc nL own Ts fr lo) (hk : kd i = 11) (hz : x = 0 ∨ x = 1) (hin : ∀ w ∈ wsX110, w ∈ Ts) (hl : Cond.fieldLink own index "MooringDesk" "hasImage" "Z" ∈ Ts) (hd : decode cc pc = .ok (.putfield index, 3)) (k : Wx X nL (upI σ i 16 x) (pc + 3) lv st) : Wx X nL σ pc lv (.int x :: .ref (ad X i) :: st) := x_put (ci := 11) (C := RX11) (T := TX11) (n := 18) (k0 := 16) (ty0 := tyX11) (ty := .boolean) (τ := upI σ i 16 x) F (kd_w (by decide) hk) rfl (cl_11 hk) hin tyX11_ok nmX11 (by decide) rfl hl rfl (by decide +kernel) (nar01 hz) (fit01 hz) (Nat.le_of_ble_eq_true rfl) (fun _ hj => setI_ne hj) (by rw [cl_11 hk]; simp [fl11, upI, setI, upd]) hd k
theorem g_11_17 (F : Fx X cc nL own Ts fr lo) (hk : kd i = 11) (hin : ∀ w ∈ wsX110, w ∈ Ts) (hl : Cond.fieldLink own index "MooringDesk" "drawn" "J" ∈ Ts) (hd : decode cc pc = .ok (.getfield index, 3)) (k : Wx X nL σ (pc + 3) lv (.long (σ.2 i 17) :: st)) : Wx X nL σ pc lv (.ref (ad X i) :: st) := x_get (ci := 11) (C := RX11) (T := TX11) (n := 18) (k0 := 17) F (kd_w (by decide) hk) rfl (cl_11 hk) hin (by decide) rfl hl rfl hd k
theorem q_11_17 {x : Int64} (F : Fx X cc nL own Ts fr lo) (hk : kd i = 11) (hin : ∀ w ∈ wsX110, w ∈ Ts) (hl : Cond.fieldLink own index "MooringDesk" "drawn" "J" ∈ Ts) (hd : decode cc pc = .ok (.putfield index, 3)) (k : Wx X nL (upJ σ i 17 x) (pc + 3) lv st) : Wx X nL σ pc lv (.long x :: .ref (ad X i) :: st) := x_put (ci := 11) (C := RX11) (T := TX11) (n := 18) (k0 := 17) (ty0 := tyX11) (ty := .long) (τ := upJ σ i 17 x) F (kd_w (by decide) hk) rfl (cl_11 hk) hin tyX11_ok nmX11 (by decide) rfl hl rfl (by decide +kernel) rfl rfl (Nat.le_of_ble_eq_true rfl) (fun _ hj => setJ_ne hj) (by rw [cl_11 hk]; simp [fl11, upJ, setJ, vp_updL]) hd k
theorem g_12_0 (F : Fx X cc nL own Ts fr lo) (hk : kd i = 12) (hin : ∀ w ∈ wsX120, w ∈ Ts) (hl : Cond.fieldLink own index "MooringDeskModel" "thrown" "I" ∈ Ts) (hd : decode cc pc = .ok (.getfield index, 3)) (k : Wx X nL σ (pc + 3) lv (.int (σ.1 i 0) :: st)) : Wx X nL σ pc lv (.ref (ad X i) :: st) := x_get (ci := 12) (C := RX12) (T := TX12) (n := 43) (k0 := 0) F (kd_w (by decide) hk) rfl (cl_12 hk) hin (by decide) rfl hl rfl hd k
theorem q_12_0 {x : Int32} (F : Fx X cc nL own Ts fr lo) (hk : kd i = 12) (hin : ∀ w ∈ wsX120, w ∈ Ts) (hl : Cond.fieldLink own index "MooringDeskModel" "thrown" "I" ∈ Ts) (hd : decode cc pc = .ok (.putfield index, 3)) (k : Wx X nL (upI σ i 0 x) (pc + 3) lv st) : Wx X nL σ pc lv (.int x :: .ref (ad X i) :: st) := x_put (ci := 12) (C := RX12) (T := TX12) (n := 43) (k0 := 0) (ty0 := tyX12) (ty := .int) (τ := upI σ i 0 x) F (kd_w (by decide) hk) rfl (cl_12 hk) hin tyX12_ok nmX12 (by decide) rfl hl rfl (by decide +kernel) rfl rfl (Nat.le_of_ble_eq_true rfl) (fun _ hj => setI_ne hj) (by rw [cl_12 hk]; simp [fl12, upI, setI, upd]) hd k
theorem g_12_1 (F : Fx X cc nL own Ts fr lo) (hk : kd i = 12) (hin : ∀ w ∈ wsX120, w ∈ Ts) (hl : Cond.fieldLink own index "MooringDeskModel" "tape" "[B" ∈ Ts) (hd : decode cc pc = .ok (.getfield index, 3)) (k : Wx X nL σ (pc + 3) lv (.ref (ad X 177) :: st)) : Wx X nL σ pc lv (.ref (ad X i) :: st) := x_get (ci := 12) (C := RX12) (T := TX12) (n := 43) (k0 := 1) F (kd_w (by decide) hk) rfl (cl_12 hk) hin (by decide) rfl hl rfl hd k
theorem g_12_2 (F : Fx X cc nL own Ts fr lo) (hk : kd i = 12) (hin : ∀ w ∈ wsX120, w ∈ Ts) (hl : Cond.fieldLink own index "MooringDeskModel" "length" "I" ∈ Ts) (hd : decode cc pc = .ok (.getfield index, 3)) (k : Wx X nL σ (pc + 3) lv (.int (σ.1 i 2) :: st)) : Wx X nL σ pc lv (.ref (ad X i) :: st) := x_get (ci := 12) (C := RX12) (T := TX12) (n := 43) (k0 := 2) F (kd_w (by decide) hk) rfl (cl_12 hk) hin (by decide) rfl hl rfl hd k
theorem q_12_2 {x : Int32} (F : Fx X cc nL own Ts fr lo) (hk : kd i = 12) (hin : ∀ w ∈ wsX120, w ∈ Ts) (hl : Cond.fieldLink own index "MooringDeskModel" "length" "I" ∈ Ts) (hd : decode cc pc = .ok (.putfield index, 3)) (k : Wx X nL (upI σ i 2 x) (pc + 3) lv st) : Wx X nL σ pc lv (.int x :: .ref (ad X i) :: st) := x_put (ci := 12) (C := RX12) (T := TX12) (n := 43) (k0 := 2) (ty0 := tyX12) (ty := .int) (τ := upI σ i 2 x) F (kd_w (by decide) hk) rfl (cl_12 hk) hin tyX12_ok nmX12 (by decide) rfl hl rfl (by decide +kernel) rfl rfl (Nat.le_of_ble_eq_true rfl) (fun _ hj => setI_ne hj) (by rw [cl_12 hk]; simp [fl12, upI, setI, upd]) hd k
theorem g_12_3 (F : Fx X cc nL own Ts fr lo) (hk : kd i = 12) (hin : ∀ w ∈ wsX120, w ∈ Ts) (hl : Cond.fieldLink own index "MooringDeskModel" "at" "I" ∈ Ts) (hd : decode cc pc = .ok (.getfield index, 3)) (k : Wx X nL σ (pc + 3) lv (.int (σ.1 i 3) :: st)) : Wx X nL σ pc lv (.ref (ad X i) :: st) := x_get (ci := 12) (C := RX12) (T := TX12) (n := 43) (k0 := 3) F (kd_w (by decide) hk) rfl (cl_12 hk) hin (by decide) rfl hl rfl hd k
theorem q_12_3 {x : Int32} (F : Fx X cc nL own Ts fr lo) (hk : kd i = 12) (hin : ∀ w ∈ wsX120, w ∈ Ts) (hl : Cond.fieldLink own index "MooringDeskModel" "at" "I" ∈ Ts) (hd : decode cc pc = .ok (.putfield index, 3)) (k : Wx X nL (upI σ i 3 x) (pc + 3) lv st) : Wx X nL σ pc lv (.int x :: .ref (ad X i) :: st) := x_put (ci := 12) (C := RX12) (T := TX12) (n := 43) (k0 := 3) (ty0 := tyX12) (ty := .int) (τ := upI σ i 3 x) F (kd_w (by decide) hk) rfl (cl_12 hk) hin tyX12_ok nmX12 (by decide) rfl hl rfl (by decide +kernel) rfl rfl (Nat.le_of_ble_eq_true rfl) (fun _ hj => setI_ne hj) (by rw [cl_12 hk]; simp [fl12, upI, setI, upd]) hd k
theorem g_12_4 (F : Fx X cc nL own Ts fr lo) (hk : kd i = 12) (hin : ∀ w ∈ wsX120, w ∈ Ts) (hl : Cond.fieldLink own index "MooringDeskModel" "fault" "I" ∈ Ts) (hd : decode cc pc = .ok (.getfield index, 3)) (k : Wx X nL σ (pc + 3) lv (.int (σ.1 i 4) :: st)) : Wx X nL σ pc lv (.ref (ad X i) :: st) := x_get (ci := 12) (C := RX12) (T := TX12) (n := 43) (k0 := 4) F (kd_w (by decide) hk) rfl (cl_12 hk) hin (by decide) rfl hl rfl hd k
theorem q_12_4 {x : Int32} (F : Fx X cc nL own Ts fr lo) (hk : kd i = 12) (hin : ∀ w ∈ wsX120, w ∈ Ts) (hl : Cond.fieldLink own index "MooringDeskModel" "fault" "I" ∈ Ts) (hd : decode cc pc = .ok (.putfield index, 3)) (k : Wx X nL (upI σ i 4 x) (pc + 3) lv st) : Wx X nL σ pc lv (.int x :: .ref (ad X i) :: st) := x_put (ci := 12) (C := RX12) (T := TX12) (n := 43) (k0 := 4) (ty0 := tyX12) (ty := .int) (τ := upI σ i 4 x) F (kd_w (by decide) hk) rfl (cl_12 hk) hin tyX12_ok nmX12 (by decide) rfl hl rfl (by decide +kernel) rfl rfl (Nat.le_of_ble_eq_true rfl) (fun _ hj => setI_ne hj) (by rw [cl_12 hk]; simp [fl12, upI, setI, upd]) hd k
theorem g_12_5 (F : Fx X cc nL own Ts fr lo) (hk : kd i = 12) (hin : ∀ w ∈ wsX120, w ∈ Ts) (hl : Cond.fieldLink own index "MooringDeskModel" "ruleRead" "[I" ∈ Ts) (hd : decode cc pc = .ok (.getfield index, 3)) (k : Wx X nL σ (pc + 3) lv (.ref (ad X 178) :: st)) : Wx X nL σ pc lv (.ref (ad X i) :: st) := x_get (ci := 12) (C := RX12) (T := TX12) (n := 43) (k0 := 5) F (kd_w (by decide) hk) rfl (cl_12 hk) hin (by decide) rfl hl rfl hd k
theorem g_12_6 (F : Fx X cc nL own Ts fr lo) (hk : kd i = 12) (hin : ∀ w ∈ wsX120, w ∈ Ts) (hl : Cond.fieldLink own index "MooringDeskModel" "rule" "[I" ∈ Ts) (hd : decode cc pc = .ok (.getfield index, 3)) (k : Wx X nL σ (pc + 3) lv (.ref (ad X 179) :: st)) : Wx X nL σ pc lv (.ref (ad X i) :: st) := x_get (ci := 12) (C := RX12) (T := TX12) (n := 43) (k0 := 6) F (kd_w (by decide) hk) rfl (cl_12 hk) hin (by decide) rfl hl rfl hd k
theorem g_12_7 (F : Fx X cc nL own Ts fr lo) (hk : kd i = 12) (hin : ∀ w ∈ wsX120, w ∈ Ts) (hl : Cond.fieldLink own index "MooringDeskModel" "ropeRead" "[I" ∈ Ts) (hd : decode cc pc = .ok (.getfield index, 3)) (k : Wx X nL σ (pc + 3) lv (.ref (ad X 180) :: st)) : Wx X nL σ pc lv (.ref (ad X i) :: st) := x_get (ci := 12) (C := RX12) (T := TX12) (n := 43) (k0 := 7) F (kd_w (by decide) hk) rfl (cl_12 hk) hin (by decide) rfl hl rfl hd k
theorem g_12_8 (F : Fx X cc nL own Ts fr lo) (hk : kd i = 12) (hin : ∀ w ∈ wsX120, w ∈ Ts) (hl : Cond.fieldLink own index "MooringDeskModel" "rope" "[I" ∈ Ts) (hd : decode cc pc = .ok (.getfield index, 3)) (k : Wx X nL σ (pc + 3) lv (.ref (ad X 181) :: st)) : Wx X nL σ pc lv (.ref (ad X i) :: st) := x_get (ci := 12) (C := RX12) (T := TX12) (n := 43) (k0 := 8) F (kd_w (by decide) hk) rfl (cl_12 hk) hin (by decide) rfl hl rfl hd k
theorem g_12_9 (F : Fx X cc nL own Ts fr lo) (hk : kd i = 12) (hin : ∀ w ∈ wsX120, w ∈ Ts) (hl : Cond.fieldLink own index "MooringDeskModel" "way" "[I" ∈ Ts) (hd : decode cc pc = .ok (.getfield index, 3)) (k : Wx X nL σ (pc + 3) lv (.ref (ad X 182) :: st)) : Wx X nL σ pc lv (.ref (ad X i) :: st) := x_get (ci := 12) (C := RX12) (T := TX12) (n := 43) (k0 := 9) F (kd_w (by decide) hk) rfl (cl_12 hk) hin (by decide) rfl hl rfl hd k
theorem g_12_10 (F : Fx X cc nL own Ts fr lo) (hk : kd i = 12) (hin : ∀ w ∈ wsX120, w ∈ Ts) (hl : Cond.fieldLink own index "MooringDeskModel" "script" "[I" ∈ Ts) (hd : decode cc pc = .ok (.getfield index, 3)) (k : Wx X nL σ (pc + 3) lv (.ref (ad X 183) :: st)) : Wx X nL σ pc lv (.ref (ad X i) :: st) := x_get (ci := 12) (C := RX12) (T := TX12) (n := 43) (k0 := 10) F (kd_w (by decide) hk) rfl (cl_12 hk) hin (by decide) rfl hl rfl hd k
theorem g_12_11 (F : Fx X cc nL own Ts fr lo) (hk : kd i = 12) (hin : ∀ w ∈ wsX120, w ∈ Ts) (hl : Cond.fieldLink own index "MooringDeskModel" "stepsOf" "[I" ∈ Ts) (hd : decode cc pc = .ok (.getfield index, 3)) (k : Wx X nL σ (pc + 3) lv (.ref (ad X 184) :: st)) : Wx X nL σ pc lv (.ref (ad X i) :: st) := x_get (ci := 12) (C := RX12) (T := TX12) (n := 43) (k0 := 11) F (kd_w (by decide) hk) rfl (cl_12 hk) hin (by decide) rfl hl rfl hd k
theorem g_12_12 (F : Fx X cc nL own Ts fr lo) (hk : kd i = 12) (hin : ∀ w ∈ wsX120, w ∈ Ts) (hl : Cond.fieldLink own index "MooringDeskModel" "status" "[I" ∈ Ts) (hd : decode cc pc = .ok (.getfield index, 3)) (k : Wx X nL σ (pc + 3) lv (.ref (ad X 185) :: st)) : Wx X nL σ pc lv (.ref (ad X i) :: st) := x_get (ci := 12) (C := RX12) (T := TX12) (n := 43) (k0 := 12) F (kd_w (by decide) hk) rfl (cl_12 hk) hin (by decide) rfl hl rfl hd k
theorem g_12_13 (F : Fx X cc nL own Ts fr lo) (hk : kd i = 12) (hin : ∀ w ∈ wsX120, w ∈ Ts) (hl : Cond.fieldLink own index "MooringDeskModel" "ropesRead" "I" ∈ Ts) (hd : decode cc pc = .ok (.getfield index, 3)) (k : Wx X nL σ (pc + 3) lv (.int (σ.1 i 13) :: st)) : Wx X nL σ pc lv (.ref (ad X i) :: st) := x_get (ci := 12) (C := RX12) (T := TX12) (n := 43) (k0 := 13) F (kd_w (by decide) hk) rfl (cl_12 hk) hin (by decide) rfl hl rfl hd k
theorem q_12_13 {x : Int32} (F : Fx X cc nL own Ts fr lo) (hk : kd i = 12) (hin : ∀ w ∈ wsX120, w ∈ Ts) (hl : Cond.fieldLink own index "MooringDeskModel" "ropesRead" "I" ∈ Ts) (hd : decode cc pc = .ok (.putfield index, 3)) (k : Wx X nL (upI σ i 13 x) (pc + 3) lv st) : Wx X nL σ pc lv (.int x :: .ref (ad X i) :: st) := x_put (ci := 12) (C := RX12) (T := TX12) (n := 43) (k0 := 13) (ty0 := tyX12) (ty := .int) (τ := upI σ i 13 x) F (kd_w (by decide) hk) rfl (cl_12 hk) hin tyX12_ok nmX12 (by decide) rfl hl rfl (by decide +kernel) rfl rfl (Nat.le_of_ble_eq_true rfl) (fun _ hj => setI_ne hj) (by rw [cl_12 hk]; simp [fl12, upI, setI, upd]) hd k
theorem g_12_14 (F : Fx X cc nL own Ts fr lo) (hk : kd i = 12) (hin : ∀ w ∈ wsX120, w ∈ Ts) (hl : Cond.fieldLink own index "MooringDeskModel" "ropes" "I" ∈ Ts) (hd : decode cc pc = .ok (.getfield index, 3)) (k : Wx X nL σ (pc + 3) lv (.int (σ.1 i 14) :: st)) : Wx X nL σ pc lv (.ref (ad X i) :: st) := x_get (ci := 12) (C := RX12) (T := TX12) (n := 43) (k0 := 14) F (kd_w (by decide) hk) rfl (cl_12 hk) hin (by decide) rfl hl rfl hd k
theorem q_12_14 {x : Int32} (F : Fx X cc nL own Ts fr lo) (hk : kd i = 12) (hin : ∀ w ∈ wsX120, w ∈ Ts) (hl : Cond.fieldLink own index "MooringDeskModel" "ropes" "I" ∈ Ts) (hd : decode cc pc = .ok (.putfield index, 3)) (k : Wx X nL (upI σ i 14 x) (pc + 3) lv st) : Wx X nL σ pc lv (.int x :: .ref (ad X i) :: st) := x_put (ci := 12) (C := RX12) (T := TX12) (n := 43) (k0 := 14) (ty0 := tyX12) (ty := .int) (τ := upI σ i 14 x) F (kd_w (by decide) hk) rfl (cl_12 hk) hin tyX12_ok nmX12 (by decide) rfl hl rfl (by decide +kernel) rfl rfl (Nat.le_of_ble_eq_true rfl) (fun _ hj => setI_ne hj) (by rw [cl_12 hk]; simp [fl12, upI, setI, upd]) hd k
theorem g_12_15 (F : Fx X cc nL own Ts fr lo) (hk : kd i = 12) (hin : ∀ w ∈ wsX120, w ∈ Ts) (hl : Cond.fieldLink own index "MooringDeskModel" "scripts" "I" ∈ Ts) (hd : decode cc pc = .ok (.getfield index, 3)) (k : Wx X nL σ (pc + 3) lv (.int (σ.1 i 15) :: st)) : Wx X nL σ pc lv (.ref (ad X i) :: st) := x_get (ci := 12) (C := RX12) (T := TX12) (n := 43) (k0 := 15) F (kd_w (by decide) hk) rfl (cl_12 hk) hin (by decide) rfl hl rfl hd k
theorem q_12_15 {x : Int32} (F : Fx X cc nL own Ts fr lo) (hk : kd i = 12) (hin : ∀ w ∈ wsX120, w ∈ Ts) (hl : Cond.fieldLink own index "MooringDeskModel" "scripts" "I" ∈ Ts) (hd : decode cc pc = .ok (.putfield index, 3)) (k : Wx X nL (upI σ i 15 x) (pc + 3) lv st) : Wx X nL σ pc lv (.int x :: .ref (ad X i) :: st) := x_put (ci := 12) (C := RX12) (T := TX12) (n := 43) (k0 := 15) (ty0 := tyX12) (ty := .int) (τ := upI σ i 15 x) F (kd_w (by decide) hk) rfl (cl_12 hk) hin tyX12_ok nmX12 (by decide) rfl hl rfl (by decide +kernel) rfl rfl (Nat.le_of_ble_eq_true rfl) (fun _ hj => setI_ne hj) (by rw [cl_12 hk]; simp [fl12, upI, setI, upd]) hd k
theorem g_12_16 (F : Fx X cc nL own Ts fr lo) (hk : kd i = 12) (hin : ∀ w ∈ wsX120, w ∈ Ts) (hl : Cond.fieldLink own index "MooringDeskModel" "hasRules" "Z" ∈ Ts) (hd : decode cc pc = .ok (.getfield index, 3)) (k : Wx X nL σ (pc + 3) lv (.int (σ.1 i 16) :: st)) : Wx X nL σ pc lv (.ref (ad X i) :: st) := x_get (ci := 12) (C := RX12) (T := TX12) (n := 43) (k0 := 16) F (kd_w (by decide) hk) rfl (cl_12 hk) hin (by decide) rfl hl rfl hd k
theorem q_12_16 {x : Int32} (F : Fx X cc nL own Ts fr lo) (hk : kd i = 12) (hz : x = 0 ∨ x = 1) (hin : ∀ w ∈ wsX120, w ∈ Ts) (hl : Cond.fieldLink own index "MooringDeskModel" "hasRules" "Z" ∈ Ts) (hd : decode cc pc = .ok (.putfield index, 3)) (k : Wx X nL (upI σ i 16 x) (pc + 3) lv st) : Wx X nL σ pc lv (.int x :: .ref (ad X i) :: st) := x_put (ci := 12) (C := RX12) (T := TX12) (n := 43) (k0 := 16) (ty0 := tyX12) (ty := .boolean) (τ := upI σ i 16 x) F (kd_w (by decide) hk) rfl (cl_12 hk) hin tyX12_ok nmX12 (by decide) rfl hl rfl (by decide +kernel) (nar01 hz) (fit01 hz) (Nat.le_of_ble_eq_true rfl) (fun _ hj => setI_ne hj) (by rw [cl_12 hk]; simp [fl12, upI, setI, upd]) hd k
theorem g_12_17 (F : Fx X cc nL own Ts fr lo) (hk : kd i = 12) (hin : ∀ w ∈ wsX120, w ∈ Ts) (hl : Cond.fieldLink own index "MooringDeskModel" "ropeWas" "[I" ∈ Ts) (hd : decode cc pc = .ok (.getfield index, 3)) (k : Wx X nL σ (pc + 3) lv (.ref (ad X 186) :: st)) : Wx X nL σ pc lv (.ref (ad X i) :: st) := x_get (ci := 12) (C := RX12) (T := TX12) (n := 43) (k0 := 17) F (kd_w (by decide) hk) rfl (cl_12 hk) hin (by decide) rfl hl rfl hd k
theorem g_12_18 (F : Fx X cc nL own Ts fr lo) (hk : kd i = 12) (hin : ∀ w ∈ wsX120, w ∈ Ts) (hl : Cond.fieldLink own index "MooringDeskModel" "ruleWas" "[I" ∈ Ts) (hd : decode cc pc = .ok (.getfield index, 3)) (k : Wx X nL σ (pc + 3) lv (.ref (ad X 187) :: st)) : Wx X nL σ pc lv (.ref (ad X i) :: st) := x_get (ci := 12) (C := RX12) (T := TX12) (n := 43) (k0 := 18) F (kd_w (by decide) hk) rfl (cl_12 hk) hin (by decide) rfl hl rfl hd k
theorem g_12_19 (F : Fx X cc nL own Ts fr lo) (hk : kd i = 12) (hin : ∀ w ∈ wsX120, w ∈ Ts) (hl : Cond.fieldLink own index "MooringDeskModel" "now" "[I" ∈ Ts) (hd : decode cc pc = .ok (.getfield index, 3)) (k : Wx X nL σ (pc + 3) lv (.ref (ad X 188) :: st)) : Wx X nL σ pc lv (.ref (ad X i) :: st) := x_get (ci := 12) (C := RX12) (T := TX12) (n := 43) (k0 := 19) F (kd_w (by decide) hk) rfl (cl_12 hk) hin (by decide) rfl hl rfl hd k
theorem g_12_20 (F : Fx X cc nL own Ts fr lo) (hk : kd i = 12) (hin : ∀ w ∈ wsX120, w ∈ Ts) (hl : Cond.fieldLink own index "MooringDeskModel" "trial" "[I" ∈ Ts) (hd : decode cc pc = .ok (.getfield index, 3)) (k : Wx X nL σ (pc + 3) lv (.ref (ad X 189) :: st)) : Wx X nL σ pc lv (.ref (ad X i) :: st) := x_get (ci := 12) (C := RX12) (T := TX12) (n := 43) (k0 := 20) F (kd_w (by decide) hk) rfl (cl_12 hk) hin (by decide) rfl hl rfl hd k
theorem g_12_21 (F : Fx X cc nL own Ts fr lo) (hk : kd i = 12) (hin : ∀ w ∈ wsX120, w ∈ Ts) (hl : Cond.fieldLink own index "MooringDeskModel" "image" "[I" ∈ Ts) (hd : decode cc pc = .ok (.getfield index, 3)) (k : Wx X nL σ (pc + 3) lv (.ref (ad X 190) :: st)) : Wx X nL σ pc lv (.ref (ad X i) :: st) := x_get (ci := 12) (C := RX12) (T := TX12) (n := 43) (k0 := 21) F (kd_w (by decide) hk) rfl (cl_12 hk) hin (by decide) rfl hl rfl hd k
theorem g_12_22 (F : Fx X cc nL own Ts fr lo) (hk : kd i = 12) (hin : ∀ w ∈ wsX120, w ∈ Ts) (hl : Cond.fieldLink own index "MooringDeskModel" "kept" "[I" ∈ Ts) (hd : decode cc pc = .ok (.getfield index, 3)) (k : Wx X nL σ (pc + 3) lv (.ref (ad X 191) :: st)) : Wx X nL σ pc lv (.ref (ad X i) :: st) := x_get (ci := 12) (C := RX12) (T := TX12) (n := 43) (k0 := 22) F (kd_w (by decide) hk) rfl (cl_12 hk) hin (by decide) rfl hl rfl hd k
theorem g_12_23 (F : Fx X cc nL own Ts fr lo) (hk : kd i = 12) (hin : ∀ w ∈ wsX120, w ∈ Ts) (hl : Cond.fieldLink own index "MooringDeskModel" "first" "I" ∈ Ts) (hd : decode cc pc = .ok (.getfield index, 3)) (k : Wx X nL σ (pc + 3) lv (.int (σ.1 i 23) :: st)) : Wx X nL σ pc lv (.ref (ad X i) :: st) := x_get (ci := 12) (C := RX12) (T := TX12) (n := 43) (k0 := 23) F (kd_w (by decide) hk) rfl (cl_12 hk) hin (by decide) rfl hl rfl hd k
theorem q_12_23 {x : Int32} (F : Fx X cc nL own Ts fr lo) (hk : kd i = 12) (hin : ∀ w ∈ wsX120, w ∈ Ts) (hl : Cond.fieldLink own index "MooringDeskModel" "first" "I" ∈ Ts) (hd : decode cc pc = .ok (.putfield index, 3)) (k : Wx X nL (upI σ i 23 x) (pc + 3) lv st) : Wx X nL σ pc lv (.int x :: .ref (ad X i) :: st) := x_put (ci := 12) (C := RX12) (T := TX12) (n := 43) (k0 := 23) (ty0 := tyX12) (ty := .int) (τ := upI σ i 23 x) F (kd_w (by decide) hk) rfl (cl_12 hk) hin tyX12_ok nmX12 (by decide) rfl hl rfl (by decide +kernel) rfl rfl (Nat.le_of_ble_eq_true rfl) (fun _ hj => setI_ne hj) (by rw [cl_12 hk]; simp [fl12, upI, setI, upd]) hd k
theorem g_12_24 (F : Fx X cc nL own Ts fr lo) (hk : kd i = 12) (hin : ∀ w ∈ wsX120, w ∈ Ts) (hl : Cond.fieldLink own index "MooringDeskModel" "acts" "I" ∈ Ts) (hd : decode cc pc = .ok (.getfield index, 3)) (k : Wx X nL σ (pc + 3) lv (.int (σ.1 i 24) :: st)) : Wx X nL σ pc lv (.ref (ad X i) :: st) := x_get (ci := 12) (C := RX12) (T := TX12) (n := 43) (k0 := 24) F (kd_w (by decide) hk) rfl (cl_12 hk) hin (by decide) rfl hl rfl hd k
theorem q_12_24 {x : Int32} (F : Fx X cc nL own Ts fr lo) (hk : kd i = 12) (hin : ∀ w ∈ wsX120, w ∈ Ts) (hl : Cond.fieldLink own index "MooringDeskModel" "acts" "I" ∈ Ts) (hd : decode cc pc = .ok (.putfield index, 3)) (k : Wx X nL (upI σ i 24 x) (pc + 3) lv st) : Wx X nL σ pc lv (.int x :: .ref (ad X i) :: st) := x_put (ci := 12) (C := RX12) (T := TX12) (n := 43) (k0 := 24) (ty0 := tyX12) (ty := .int) (τ := upI σ i 24 x) F (kd_w (by decide) hk) rfl (cl_12 hk) hin tyX12_ok nmX12 (by decide) rfl hl rfl (by decide +kernel) rfl rfl (Nat.le_of_ble_eq_true rfl) (fun _ hj => setI_ne hj) (by rw [cl_12 hk]; simp [fl12, upI, setI, upd]) hd k
theorem g_12_25 (F : Fx X cc nL own Ts fr lo) (hk : kd i = 12) (hin : ∀ w ∈ wsX120, w ∈ Ts) (hl : Cond.fieldLink own index "MooringDeskModel" "hasImage" "Z" ∈ Ts) (hd : decode cc pc = .ok (.getfield index, 3)) (k : Wx X nL σ (pc + 3) lv (.int (σ.1 i 25) :: st)) : Wx X nL σ pc lv (.ref (ad X i) :: st) := x_get (ci := 12) (C := RX12) (T := TX12) (n := 43) (k0 := 25) F (kd_w (by decide) hk) rfl (cl_12 hk) hin (by decide) rfl hl rfl hd k
theorem q_12_25 {x : Int32} (F : Fx X cc nL own Ts fr lo) (hk : kd i = 12) (hz : x = 0 ∨ x = 1) (hin : ∀ w ∈ wsX120, w ∈ Ts) (hl : Cond.fieldLink own index "MooringDeskModel" "hasImage" "Z" ∈ Ts) (hd : decode cc pc = .ok (.putfield index, 3)) (k : Wx X nL (upI σ i 25 x) (pc + 3) lv st) : Wx X nL σ pc lv (.int x :: .ref (ad X i) :: st) := x_put (ci := 12) (C := RX12) (T := TX12) (n := 43) (k0 := 25) (ty0 := tyX12) (ty := .boolean) (τ := upI σ i 25 x) F (kd_w (by decide) hk) rfl (cl_12 hk) hin tyX12_ok nmX12 (by decide) rfl hl rfl (by decide +kernel) (nar01 hz) (fit01 hz) (Nat.le_of_ble_eq_true rfl) (fun _ hj => setI_ne hj) (by rw [cl_12 hk]; simp [fl12, upI, setI, upd]) hd k
theorem g_12_26 (F : Fx X cc nL own Ts fr lo) (hk : kd i = 12) (hin : ∀ w ∈ wsX120, w ∈ Ts) (hl : Cond.fieldLink own index "MooringDeskModel" "matrix" "[J" ∈ Ts) (hd : decode cc pc = .ok (.getfield index, 3)) (k : Wx X nL σ (pc + 3) lv (.ref (ad X 192) :: st)) : Wx X nL σ pc lv (.ref (ad X i) :: st) := x_get (ci := 12) (C := RX12) (T := TX12) (n := 43) (k0 := 26) F (kd_w (by decide) hk) rfl (cl_12 hk) hin (by decide) rfl hl rfl hd k
theorem g_12_27 (F : Fx X cc nL own Ts fr lo) (hk : kd i = 12) (hin : ∀ w ∈ wsX120, w ∈ Ts) (hl : Cond.fieldLink own index "MooringDeskModel" "aim" "[J" ∈ Ts) (hd : decode cc pc = .ok (.getfield index, 3)) (k : Wx X nL σ (pc + 3) lv (.ref (ad X 193) :: st)) : Wx X nL σ pc lv (.ref (ad X i) :: st) := x_get (ci := 12) (C := RX12) (T := TX12) (n := 43) (k0 := 27) F (kd_w (by decide) hk) rfl (cl_12 hk) hin (by decide) rfl hl rfl hd k
theorem g_12_28 (F : Fx X cc nL own Ts fr lo) (hk : kd i = 12) (hin : ∀ w ∈ wsX120, w ∈ Ts) (hl : Cond.fieldLink own index "MooringDeskModel" "parts" "[J" ∈ Ts) (hd : decode cc pc = .ok (.getfield index, 3)) (k : Wx X nL σ (pc + 3) lv (.ref (ad X 194) :: st)) : Wx X nL σ pc lv (.ref (ad X i) :: st) := x_get (ci := 12) (C := RX12) (T := TX12) (n := 43) (k0 := 28) F (kd_w (by decide) hk) rfl (cl_12 hk) hin (by decide) rfl hl rfl hd k
theorem g_12_29 (F : Fx X cc nL own Ts fr lo) (hk : kd i = 12) (hin : ∀ w ∈ wsX120, w ∈ Ts) (hl : Cond.fieldLink own index "MooringDeskModel" "size" "J" ∈ Ts) (hd : decode cc pc = .ok (.getfield index, 3)) (k : Wx X nL σ (pc + 3) lv (.long (σ.2 i 29) :: st)) : Wx X nL σ pc lv (.ref (ad X i) :: st) := x_get (ci := 12) (C := RX12) (T := TX12) (n := 43) (k0 := 29) F (kd_w (by decide) hk) rfl (cl_12 hk) hin (by decide) rfl hl rfl hd k
theorem q_12_29 {x : Int64} (F : Fx X cc nL own Ts fr lo) (hk : kd i = 12) (hin : ∀ w ∈ wsX120, w ∈ Ts) (hl : Cond.fieldLink own index "MooringDeskModel" "size" "J" ∈ Ts) (hd : decode cc pc = .ok (.putfield index, 3)) (k : Wx X nL (upJ σ i 29 x) (pc + 3) lv st) : Wx X nL σ pc lv (.long x :: .ref (ad X i) :: st) := x_put (ci := 12) (C := RX12) (T := TX12) (n := 43) (k0 := 29) (ty0 := tyX12) (ty := .long) (τ := upJ σ i 29 x) F (kd_w (by decide) hk) rfl (cl_12 hk) hin tyX12_ok nmX12 (by decide) rfl hl rfl (by decide +kernel) rfl rfl (Nat.le_of_ble_eq_true rfl) (fun _ hj => setJ_ne hj) (by rw [cl_12 hk]; simp [fl12, upJ, setJ, vp_updL]) hd k
theorem g_12_30 (F : Fx X cc nL own Ts fr lo) (hk : kd i = 12) (hin : ∀ w ∈ wsX120, w ∈ Ts) (hl : Cond.fieldLink own index "MooringDeskModel" "gone" "[Z" ∈ Ts) (hd : decode cc pc = .ok (.getfield index, 3)) (k : Wx X nL σ (pc + 3) lv (.ref (ad X 195) :: st)) : Wx X nL σ pc lv (.ref (ad X i) :: st) := x_get (ci := 12) (C := RX12) (T := TX12) (n := 43) (k0 := 30) F (kd_w (by decide) hk) rfl (cl_12 hk) hin (by decide) rfl hl rfl hd k
theorem g_12_31 (F : Fx X cc nL own Ts fr lo) (hk : kd i = 12) (hin : ∀ w ∈ wsX120, w ∈ Ts) (hl : Cond.fieldLink own index "MooringDeskModel" "breaks" "[I" ∈ Ts) (hd : decode cc pc = .ok (.getfield index, 3)) (k : Wx X nL σ (pc + 3) lv (.ref (ad X 196) :: st)) : Wx X nL σ pc lv (.ref (ad X i) :: st) := x_get (ci := 12) (C := RX12) (T := TX12) (n := 43) (k0 := 31) F (kd_w (by decide) hk) rfl (cl_12 hk) hin (by decide) rfl hl rfl hd k
theorem g_12_32 (F : Fx X cc nL own Ts fr lo) (hk : kd i = 12) (hin : ∀ w ∈ wsX120, w ∈ Ts) (hl : Cond.fieldLink own index "MooringDeskModel" "broken" "I" ∈ Ts) (hd : decode cc pc = .ok (.getfield index, 3)) (k : Wx X nL σ (pc + 3) lv (.int (σ.1 i 32) :: st)) : Wx X nL σ pc lv (.ref (ad X i) :: st) := x_get (ci := 12) (C := RX12) (T := TX12) (n := 43) (k0 := 32) F (kd_w (by decide) hk) rfl (cl_12 hk) hin (by decide) rfl hl rfl hd k
theorem q_12_32 {x : Int32} (F : Fx X cc nL own Ts fr lo) (hk : kd i = 12) (hin : ∀ w ∈ wsX120, w ∈ Ts) (hl : Cond.fieldLink own index "MooringDeskModel" "broken" "I" ∈ Ts) (hd : decode cc pc = .ok (.putfield index, 3)) (k : Wx X nL (upI σ i 32 x) (pc + 3) lv st) : Wx X nL σ pc lv (.int x :: .ref (ad X i) :: st) := x_put (ci := 12) (C := RX12) (T := TX12) (n := 43) (k0 := 32) (ty0 := tyX12) (ty := .int) (τ := upI σ i 32 x) F (kd_w (by decide) hk) rfl (cl_12 hk) hin tyX12_ok nmX12 (by decide) rfl hl rfl (by decide +kernel) rfl rfl (Nat.le_of_ble_eq_true rfl) (fun _ hj => setI_ne hj) (by rw [cl_12 hk]; simp [fl12, upI, setI, upd]) hd k
theorem g_12_33 (F : Fx X cc nL own Ts fr lo) (hk : kd i = 12) (hin : ∀ w ∈ wsX120, w ∈ Ts) (hl : Cond.fieldLink own index "MooringDeskModel" "causes" "[I" ∈ Ts) (hd : decode cc pc = .ok (.getfield index, 3)) (k : Wx X nL σ (pc + 3) lv (.ref (ad X 197) :: st)) : Wx X nL σ pc lv (.ref (ad X i) :: st) := x_get (ci := 12) (C := RX12) (T := TX12) (n := 43) (k0 := 33) F (kd_w (by decide) hk) rfl (cl_12 hk) hin (by decide) rfl hl rfl hd k
theorem g_12_34 (F : Fx X cc nL own Ts fr lo) (hk : kd i = 12) (hin : ∀ w ∈ wsX120, w ∈ Ts) (hl : Cond.fieldLink own index "MooringDeskModel" "causesMany" "I" ∈ Ts) (hd : decode cc pc = .ok (.getfield index, 3)) (k : Wx X nL σ (pc + 3) lv (.int (σ.1 i 34) :: st)) : Wx X nL σ pc lv (.ref (ad X i) :: st) := x_get (ci := 12) (C := RX12) (T := TX12) (n := 43) (k0 := 34) F (kd_w (by decide) hk) rfl (cl_12 hk) hin (by decide) rfl hl rfl hd k
theorem q_12_34 {x : Int32} (F : Fx X cc nL own Ts fr lo) (hk : kd i = 12) (hin : ∀ w ∈ wsX120, w ∈ Ts) (hl : Cond.fieldLink own index "MooringDeskModel" "causesMany" "I" ∈ Ts) (hd : decode cc pc = .ok (.putfield index, 3)) (k : Wx X nL (upI σ i 34 x) (pc + 3) lv st) : Wx X nL σ pc lv (.int x :: .ref (ad X i) :: st) := x_put (ci := 12) (C := RX12) (T := TX12) (n := 43) (k0 := 34) (ty0 := tyX12) (ty := .int) (τ := upI σ i 34 x) F (kd_w (by decide) hk) rfl (cl_12 hk) hin tyX12_ok nmX12 (by decide) rfl hl rfl (by decide +kernel) rfl rfl (Nat.le_of_ble_eq_true rfl) (fun _ hj => setI_ne hj) (by rw [cl_12 hk]; simp [fl12, upI, setI, upd]) hd k
theorem g_12_35 (F : Fx X cc nL own Ts fr lo) (hk : kd i = 12) (hin : ∀ w ∈ wsX120, w ∈ Ts) (hl : Cond.fieldLink own index "MooringDeskModel" "isSettling" "Z" ∈ Ts) (hd : decode cc pc = .ok (.getfield index, 3)) (k : Wx X nL σ (pc + 3) lv (.int (σ.1 i 35) :: st)) : Wx X nL σ pc lv (.ref (ad X i) :: st) := x_get (ci := 12) (C := RX12) (T := TX12) (n := 43) (k0 := 35) F (kd_w (by decide) hk) rfl (cl_12 hk) hin (by decide) rfl hl rfl hd k
theorem q_12_35 {x : Int32} (F : Fx X cc nL own Ts fr lo) (hk : kd i = 12) (hz : x = 0 ∨ x = 1) (hin : ∀ w ∈ wsX120, w ∈ Ts) (hl : Cond.fieldLink own index "MooringDeskModel" "isSettling" "Z" ∈ Ts) (hd : decode cc pc = .ok (.putfield index, 3)) (k : Wx X nL (upI σ i 35 x) (pc + 3) lv st) : Wx X nL σ pc lv (.int x :: .ref (ad X i) :: st) := x_put (ci := 12) (C := RX12) (T := TX12) (n := 43) (k0 := 35) (ty0 := tyX12) (ty := .boolean) (τ := upI σ i 35 x) F (kd_w (by decide) hk) rfl (cl_12 hk) hin tyX12_ok nmX12 (by decide) rfl hl rfl (by decide +kernel) (nar01 hz) (fit01 hz) (Nat.le_of_ble_eq_true rfl) (fun _ hj => setI_ne hj) (by rw [cl_12 hk]; simp [fl12, upI, setI, upd]) hd k
theorem g_12_36 (F : Fx X cc nL own Ts fr lo) (hk : kd i = 12) (hin : ∀ w ∈ wsX120, w ∈ Ts) (hl : Cond.fieldLink own index "MooringDeskModel" "x" "J" ∈ Ts) (hd : decode cc pc = .ok (.getfield index, 3)) (k : Wx X nL σ (pc + 3) lv (.long (σ.2 i 36) :: st)) : Wx X nL σ pc lv (.ref (ad X i) :: st) := x_get (ci := 12) (C := RX12) (T := TX12) (n := 43) (k0 := 36) F (kd_w (by decide) hk) rfl (cl_12 hk) hin (by decide) rfl hl rfl hd k
theorem q_12_36 {x : Int64} (F : Fx X cc nL own Ts fr lo) (hk : kd i = 12) (hin : ∀ w ∈ wsX120, w ∈ Ts) (hl : Cond.fieldLink own index "MooringDeskModel" "x" "J" ∈ Ts) (hd : decode cc pc = .ok (.putfield index, 3)) (k : Wx X nL (upJ σ i 36 x) (pc + 3) lv st) : Wx X nL σ pc lv (.long x :: .ref (ad X i) :: st) := x_put (ci := 12) (C := RX12) (T := TX12) (n := 43) (k0 := 36) (ty0 := tyX12) (ty := .long) (τ := upJ σ i 36 x) F (kd_w (by decide) hk) rfl (cl_12 hk) hin tyX12_ok nmX12 (by decide) rfl hl rfl (by decide +kernel) rfl rfl (Nat.le_of_ble_eq_true rfl) (fun _ hj => setJ_ne hj) (by rw [cl_12 hk]; simp [fl12, upJ, setJ, vp_updL]) hd k
theorem g_12_37 (F : Fx X cc nL own Ts fr lo) (hk : kd i = 12) (hin : ∀ w ∈ wsX120, w ∈ Ts) (hl : Cond.fieldLink own index "MooringDeskModel" "ahead" "[I" ∈ Ts) (hd : decode cc pc = .ok (.getfield index, 3)) (k : Wx X nL σ (pc + 3) lv (.ref (ad X 198) :: st)) : Wx X nL σ pc lv (.ref (ad X i) :: st) := x_get (ci := 12) (C := RX12) (T := TX12) (n := 43) (k0 := 37) F (kd_w (by decide) hk) rfl (cl_12 hk) hin (by decide) rfl hl rfl hd k
theorem g_12_38 (F : Fx X cc nL own Ts fr lo) (hk : kd i = 12) (hin : ∀ w ∈ wsX120, w ∈ Ts) (hl : Cond.fieldLink own index "MooringDeskModel" "whyNot" "I" ∈ Ts) (hd : decode cc pc = .ok (.getfield index, 3)) (k : Wx X nL σ (pc + 3) lv (.int (σ.1 i 38) :: st)) : Wx X nL σ pc lv (.ref (ad X i) :: st) := x_get (ci := 12) (C := RX12) (T := TX12) (n := 43) (k0 := 38) F (kd_w (by decide) hk) rfl (cl_12 hk) hin (by decide) rfl hl rfl hd k
theorem q_12_38 {x : Int32} (F : Fx X cc nL own Ts fr lo) (hk : kd i = 12) (hin : ∀ w ∈ wsX120, w ∈ Ts) (hl : Cond.fieldLink own index "MooringDeskModel" "whyNot" "I" ∈ Ts) (hd : decode cc pc = .ok (.putfield index, 3)) (k : Wx X nL (upI σ i 38 x) (pc + 3) lv st) : Wx X nL σ pc lv (.int x :: .ref (ad X i) :: st) := x_put (ci := 12) (C := RX12) (T := TX12) (n := 43) (k0 := 38) (ty0 := tyX12) (ty := .int) (τ := upI σ i 38 x) F (kd_w (by decide) hk) rfl (cl_12 hk) hin tyX12_ok nmX12 (by decide) rfl hl rfl (by decide +kernel) rfl rfl (Nat.le_of_ble_eq_true rfl) (fun _ hj => setI_ne hj) (by rw [cl_12 hk]; simp [fl12, upI, setI, upd]) hd k
theorem g_12_39 (F : Fx X cc nL own Ts fr lo) (hk : kd i = 12) (hin : ∀ w ∈ wsX120, w ∈ Ts) (hl : Cond.fieldLink own index "MooringDeskModel" "bestUp" "J" ∈ Ts) (hd : decode cc pc = .ok (.getfield index, 3)) (k : Wx X nL σ (pc + 3) lv (.long (σ.2 i 39) :: st)) : Wx X nL σ pc lv (.ref (ad X i) :: st) := x_get (ci := 12) (C := RX12) (T := TX12) (n := 43) (k0 := 39) F (kd_w (by decide) hk) rfl (cl_12 hk) hin (by decide) rfl hl rfl hd k
theorem q_12_39 {x : Int64} (F : Fx X cc nL own Ts fr lo) (hk : kd i = 12) (hin : ∀ w ∈ wsX120, w ∈ Ts) (hl : Cond.fieldLink own index "MooringDeskModel" "bestUp" "J" ∈ Ts) (hd : decode cc pc = .ok (.putfield index, 3)) (k : Wx X nL (upJ σ i 39 x) (pc + 3) lv st) : Wx X nL σ pc lv (.long x :: .ref (ad X i) :: st) := x_put (ci := 12) (C := RX12) (T := TX12) (n := 43) (k0 := 39) (ty0 := tyX12) (ty := .long) (τ := upJ σ i 39 x) F (kd_w (by decide) hk) rfl (cl_12 hk) hin tyX12_ok nmX12 (by decide) rfl hl rfl (by decide +kernel) rfl rfl (Nat.le_of_ble_eq_true rfl) (fun _ hj => setJ_ne hj) (by rw [cl_12 hk]; simp [fl12, upJ, setJ, vp_updL]) hd k
theorem g_12_40 (F : Fx X cc nL own Ts fr lo) (hk : kd i = 12) (hin : ∀ w ∈ wsX120, w ∈ Ts) (hl : Cond.fieldLink own index "MooringDeskModel" "bestLow" "J" ∈ Ts) (hd : decode cc pc = .ok (.getfield index, 3)) (k : Wx X nL σ (pc + 3) lv (.long (σ.2 i 40) :: st)) : Wx X nL σ pc lv (.ref (ad X i) :: st) := x_get (ci := 12) (C := RX12) (T := TX12) (n := 43) (k0 := 40) F (kd_w (by decide) hk) rfl (cl_12 hk) hin (by decide) rfl hl rfl hd k
theorem q_12_40 {x : Int64} (F : Fx X cc nL own Ts fr lo) (hk : kd i = 12) (hin : ∀ w ∈ wsX120, w ∈ Ts) (hl : Cond.fieldLink own index "MooringDeskModel" "bestLow" "J" ∈ Ts) (hd : decode cc pc = .ok (.putfield index, 3)) (k : Wx X nL (upJ σ i 40 x) (pc + 3) lv st) : Wx X nL σ pc lv (.long x :: .ref (ad X i) :: st) := x_put (ci := 12) (C := RX12) (T := TX12) (n := 43) (k0 := 40) (ty0 := tyX12) (ty := .long) (τ := upJ σ i 40 x) F (kd_w (by decide) hk) rfl (cl_12 hk) hin tyX12_ok nmX12 (by decide) rfl hl rfl (by decide +kernel) rfl rfl (Nat.le_of_ble_eq_true rfl) (fun _ hj => setJ_ne hj) (by rw [cl_12 hk]; simp [fl12, upJ, setJ, vp_updL]) hd k
theorem g_12_41 (F : Fx X cc nL own Ts fr lo) (hk : kd i = 12) (hin : ∀ w ∈ wsX120, w ∈ Ts) (hl : Cond.fieldLink own index "MooringDeskModel" "bestRope" "I" ∈ Ts) (hd : decode cc pc = .ok (.getfield index, 3)) (k : Wx X nL σ (pc + 3) lv (.int (σ.1 i 41) :: st)) : Wx X nL σ pc lv (.ref (ad X i) :: st) := x_get (ci := 12) (C := RX12) (T := TX12) (n := 43) (k0 := 41) F (kd_w (by decide) hk) rfl (cl_12 hk) hin (by decide) rfl hl rfl hd k
theorem q_12_41 {x : Int32} (F : Fx X cc nL own Ts fr lo) (hk : kd i = 12) (hin : ∀ w ∈ wsX120, w ∈ Ts) (hl : Cond.fieldLink own index "MooringDeskModel" "bestRope" "I" ∈ Ts) (hd : decode cc pc = .ok (.putfield index, 3)) (k : Wx X nL (upI σ i 41 x) (pc + 3) lv st) : Wx X nL σ pc lv (.int x :: .ref (ad X i) :: st) := x_put (ci := 12) (C := RX12) (T := TX12) (n := 43) (k0 := 41) (ty0 := tyX12) (ty := .int) (τ := upI σ i 41 x) F (kd_w (by decide) hk) rfl (cl_12 hk) hin tyX12_ok nmX12 (by decide) rfl hl rfl (by decide +kernel) rfl rfl (Nat.le_of_ble_eq_true rfl) (fun _ hj => setI_ne hj) (by rw [cl_12 hk]; simp [fl12, upI, setI, upd]) hd k
theorem g_12_42 (F : Fx X cc nL own Ts fr lo) (hk : kd i = 12) (hin : ∀ w ∈ wsX120, w ∈ Ts) (hl : Cond.fieldLink own index "MooringDeskModel" "bestTurn" "I" ∈ Ts) (hd : decode cc pc = .ok (.getfield index, 3)) (k : Wx X nL σ (pc + 3) lv (.int (σ.1 i 42) :: st)) : Wx X nL σ pc lv (.ref (ad X i) :: st) := x_get (ci := 12) (C := RX12) (T := TX12) (n := 43) (k0 := 42) F (kd_w (by decide) hk) rfl (cl_12 hk) hin (by decide) rfl hl rfl hd k
theorem q_12_42 {x : Int32} (F : Fx X cc nL own Ts fr lo) (hk : kd i = 12) (hin : ∀ w ∈ wsX120, w ∈ Ts) (hl : Cond.fieldLink own index "MooringDeskModel" "bestTurn" "I" ∈ Ts) (hd : decode cc pc = .ok (.putfield index, 3)) (k : Wx X nL (upI σ i 42 x) (pc + 3) lv st) : Wx X nL σ pc lv (.int x :: .ref (ad X i) :: st) := x_put (ci := 12) (C := RX12) (T := TX12) (n := 43) (k0 := 42) (ty0 := tyX12) (ty := .int) (τ := upI σ i 42 x) F (kd_w (by decide) hk) rfl (cl_12 hk) hin tyX12_ok nmX12 (by decide) rfl hl rfl (by decide +kernel) rfl rfl (Nat.le_of_ble_eq_true rfl) (fun _ hj => setI_ne hj) (by rw [cl_12 hk]; simp [fl12, upI, setI, upd]) hd k
theorem sw_out {x : Int32} {lo hi : Int} (h : ∀ z : Int, lo ≤ z → z ≤ hi → ¬ x.toInt = z) : x.toInt < lo ∨ hi < x.toInt := by
  rcases Int.lt_or_le x.toInt lo with a | a
  · exact Or.inl a
  · rcases Int.lt_or_le hi x.toInt with b | b
    · exact Or.inr b
    · exact absurd rfl (h _ a b)
theorem x_tin {dflt lo2 hi2 : Int} {offs : Array Int} {len : Nat} {x : Int32} {off : Int} {tgt : Nat} (F : Fx X cc nL own Ts fr lo) (hd : decode cc pc = .ok (.tableswitch dflt lo2 hi2 offs, len)) (h1 : ¬ x.toInt < lo2) (h2 : ¬ hi2 < x.toInt) (ho : offs[(x.toInt - lo2).toNat]? = some off) (ht : (pc : Int) + off = (tgt : Int)) (k : Wx X nL σ tgt lv st) : Wx X nL σ pc lv (.int x :: st) := fun H locs ls hP hS hl => lv_tableIn F.1.1 F.1.2.1 hd h1 h2 ho ht (k H locs ls hP hS hl)
theorem x_tout {dflt lo2 hi2 : Int} {offs : Array Int} {len : Nat} {x : Int32} {tgt : Nat} (F : Fx X cc nL own Ts fr lo) (hd : decode cc pc = .ok (.tableswitch dflt lo2 hi2 offs, len)) (h : x.toInt < lo2 ∨ hi2 < x.toInt) (ht : (pc : Int) + dflt = (tgt : Int)) (k : Wx X nL σ tgt lv st) : Wx X nL σ pc lv (.int x :: st) := fun H locs ls hP hS hl => lv_tableOut F.1.1 F.1.2.1 hd h ht (k H locs ls hP hS hl)
theorem x_look {dflt : Int} {ps : Array (Int × Int)} {len : Nat} {x : Int32} {off : Int} {tgt : Nat} (F : Fx X cc nL own Ts fr lo) (hd : decode cc pc = .ok (.lookupswitch dflt ps, len)) (hp : (ps.toList.zip (ps.toList.drop 1)).all (fun (a, next) => a.1 < next.1) = true) (ho : Op.lookupswitch.offset ps.toList dflt x.toInt = off) (ht : (pc : Int) + off = (tgt : Int)) (k : Wx X nL σ tgt lv st) : Wx X nL σ pc lv (.int x :: st) := fun H locs ls hP hS hl => lv_lookup F.1.1 F.1.2.1 hd hp ho ht (k H locs ls hP hS hl)
theorem x_min {x y : Int32} (F : Fx X cc nL own Ts fr lo) (hl0 : Cond.methodLink own index Lib.Math.min.name ∈ Ts) (h2 : Cond.static Lib.Math.min.name ∈ Ts) (h3 : Cond.initialized "java/lang/Math" ∈ Ts) (h4 : Cond.code Lib.Math.min.name Lib.Math.min.code 2 (some .int) ∈ Ts) (hfr : 1 ≤ fr) (hlo : (st.map fun v => v.category).sum + 13 ≤ lo) (hd : decode cc pc = .ok (.invokestatic index, 3)) (k : Wx X nL σ (pc + 3) lv (.int (if y < x then y else x) :: st)) : Wx X nL σ pc lv (.int y :: .int x :: st) := fun H locs ls hP hS hl => va_mmin F.1.1 F.1.2.1 (F.1.2.2.1.trans hl.1.symm) F.1.2.2.2.1 (F.1.2.2.2.2 _ hl0) (F.1.2.2.2.2 _ h2) (F.1.2.2.2.2 _ h3) (F.1.2.2.2.2 _ h4) (Nat.le_trans hfr F.2.2.2.1) (Nat.le_trans hlo F.2.2.2.2.1) F.2.2.2.2.2.1 F.2.2.2.2.2.2 hd (k H locs ls hP hS hl)
theorem x_abs {x : Int64} (F : Fx X cc nL own Ts fr lo) (hl0 : Cond.methodLink own index Lib.MathLoose.abs_long.x ∈ Ts) (h2 : Cond.static Lib.MathLoose.abs_long.x ∈ Ts) (h3 : Cond.initialized "java/lang/Math" ∈ Ts) (h4 : Cond.code Lib.MathLoose.abs_long.x Lib.MathLoose.abs_long.code 2 (some .long) ∈ Ts) (hfr : 1 ≤ fr) (hlo : (st.map fun v => v.category).sum + 13 ≤ lo) (hd : decode cc pc = .ok (.invokestatic index, 3)) (k : Wx X nL σ (pc + 3) lv (.long (if 0 < x then x else -x) :: st)) : Wx X nL σ pc lv (.long x :: st) := fun H locs ls hP hS hl => va_mabs_long F.1.1 F.1.2.1 (F.1.2.2.1.trans hl.1.symm) F.1.2.2.2.1 (F.1.2.2.2.2 _ hl0) (F.1.2.2.2.2 _ h2) (F.1.2.2.2.2 _ h3) (F.1.2.2.2.2 _ h4) (Nat.le_trans hfr F.2.2.2.1) (Nat.le_trans hlo F.2.2.2.2.1) F.2.2.2.2.2.1 F.2.2.2.2.2.2 hd (k H locs ls hP hS hl)
/-- arraycopy of ints, from one array of the world to another -/
theorem x_copy {a b n0 n1 : Nat} {sp dp n : Int32} (F : Fx X cc nL own Ts fr lo) (hl0 : Cond.methodLink own index arraycopyName ∈ Ts) (h2 : Cond.native arraycopyName ∈ Ts) (h3 : Cond.static arraycopyName ∈ Ts) (h4 : Cond.initialized "java/lang/System" ∈ Ts) (ha : kd a = 14) (hb : kd b = 14) (hna : ln a = n0) (hnb : ln b = n1) (q1 : ¬ sp < 0) (q2 : ¬ dp < 0) (q3 : ¬ n < 0) (q4 : sp.toNatClampNeg + n.toNatClampNeg ≤ n0) (q5 : dp.toNatClampNeg + n.toNatClampNeg ≤ n1) (hfr : 1 ≤ fr) (hlo : (st.map fun v => v.category).sum + (nativeFrameWords "java/lang/System" "arraycopy" 5 + 11) ≤ lo) (hd : decode cc pc = .ok (.invokestatic index, 3)) (k : Wx X nL (setI σ b (va_cpy (σ.1 a) (σ.1 b) sp.toNatClampNeg dp.toNatClampNeg n.toNatClampNeg)) (pc + 3) lv st) : Wx X nL σ pc lv (.int n :: .int dp :: .ref (ad X b) :: .int sp :: .ref (ad X a) :: st) := fun H locs ls hP hS hl => va_copyi (ty := .int) F.1.1 F.1.2.1 (F.1.2.2.1.trans hl.1.symm) F.1.2.2.2.1 (F.1.2.2.2.2 _ hl0) (F.1.2.2.2.2 _ h2) (F.1.2.2.2.2 _ h3) (F.1.2.2.2.2 _ h4) F.2.1.1 hP (wld_D F.2.2.1 σ) hS a b 1 1 (by rw [wld_at (kd_w (by decide) ha), cl_14 ha]) (by rw [wld_at (kd_w (by decide) hb), cl_14 hb]) rfl rfl rfl q1 q2 q3 (by rw [hna]; exact q4) (by rw [hnb]; exact q5) (fun _ _ => rfl) (Nat.le_trans hfr F.2.2.2.1) (Nat.le_trans hlo F.2.2.2.2.1) hd (fun H1 locs1 hP1 _ hS1 => k H1 locs1 ls (by rw [wld_set (τ := setI σ b (va_cpy (σ.1 a) (σ.1 b) sp.toNatClampNeg dp.toNatClampNeg n.toNatClampNeg)) _ (kd_w (by decide) hb) (fun _ hj => setI_ne hj) (by rw [cl_14 hb]; simp [setI])] at hP1; exact hP1) hS1 hl)
/-- arraycopy of ints, from a static array to one of the world -/
theorem x_copyS {a b n0 n1 : Nat} {sp dp n : Int32} (F : Fx X cc nL own Ts fr lo) (hl0 : Cond.methodLink own index arraycopyName ∈ Ts) (h2 : Cond.native arraycopyName ∈ Ts) (h3 : Cond.static arraycopyName ∈ Ts) (h4 : Cond.initialized "java/lang/System" ∈ Ts) (ha : kd a = 24) (hb : kd b = 14) (hna : ln a = n0) (hnb : ln b = n1) (q1 : ¬ sp < 0) (q2 : ¬ dp < 0) (q3 : ¬ n < 0) (q4 : sp.toNatClampNeg + n.toNatClampNeg ≤ n0) (q5 : dp.toNatClampNeg + n.toNatClampNeg ≤ n1) (hfr : 1 ≤ fr) (hlo : (st.map fun v => v.category).sum + (nativeFrameWords "java/lang/System" "arraycopy" 5 + 11) ≤ lo) (hd : decode cc pc = .ok (.invokestatic index, 3)) (k : Wx X nL (setI σ b (va_cpy (stv a) (σ.1 b) sp.toNatClampNeg dp.toNatClampNeg n.toNatClampNeg)) (pc + 3) lv st) : Wx X nL σ pc lv (.int n :: .int dp :: .ref (ad X b) :: .int sp :: .ref (ad X a) :: st) := by
  intro H locs ls hP hS hl T hT Y
  obtain ⟨qa, hqa, rfl⟩ := kd_s (Or.inl rfl) ha
  have nn : ∀ z : Int32, ¬ z < 0 → z.toInt = (z.toNatClampNeg : Int) := by
    intro z hz
    have hz0 : (0 : Int) ≤ z.toInt := by simpa using Int32.le_iff_toInt_le.mp (Int32.not_lt.mp hz)
    show z.toInt = ((z.toInt.toNat : Nat) : Int)
    omega
  have hX := x_stat F hqa
  rw [if_neg (by rw [ha]; decide), hna] at hX
  obtain ⟨scr, hs1, hs2, hs3, hs4, -, hs5, hs7⟩ := hX
  have hc0 : H[(xg X).2.2 (200 + qa)]? = some scr := by rw [hS.2.1 _ (Array.getElem?_eq_some_iff.mp hs1).1 hs7]; exact hs1
  have hb0 : b < wN := kd_w (by decide) hb
  have hat : (wld (xg X) σ)[b]? = some ((xg X).2.2 b, .inl ((xg X).2.1 14, n1, .inl (σ.1 b))) := by rw [wld_at hb0, cl_14 hb, hnb]
  have hc1 : H[(xg X).2.2 b]? = some (vp_cell ((xg X).2.1 14) (n1, .inl (σ.1 b))) := hP b _ hat
  generalize hf : stv (200 + qa) = f at hs5 k
  obtain ⟨hs6, k0, hk0, cm0, hkk0⟩ := hs2
  obtain ⟨-, k1, hk1, cm1, hkk1⟩ := (F.2.1.1.2 1 ((xg X).2.1 14, .int) rfl).1 n1 (fun j => .int (σ.1 b j))
  obtain ⟨vm', Y', step⟩ := Y.arraycopy F.1.1 F.1.2.2.2.1 (F.1.2.2.2.2 _ hl0) (F.1.2.2.2.2 _ h2) (F.1.2.2.2.2 _ h3) (F.1.2.2.2.2 _ h4) (src := (xg X).2.2 (200 + qa)) (dst := (xg X).2.2 b) (cs := scr) (cd := vp_cell ((xg X).2.1 14) (n1, .inl (σ.1 b))) (srcPos := sp) (destPos := dp) (n := n) (by rw [hT]; exact hc0) (by rw [hT]; exact hc1)
    hs6 (fun _ h => by cases h) hs3 (fun h => by cases h) hk0 hk1 hkk0 hkk1 (by simp [refKind]) q1 q2 q3
    (by rw [nn sp q1, nn n q3]; omega)
    (by rw [nn dp q2, nn n q3]; show ¬ _ > ((arrV ((xg X).2.1 14) n1 (fun j => .int (σ.1 b j))).slots.size : Int); rw [arrV_size]; omega)
    (fun vm₁ _ j hj => by
      have e : scr.slots.getD (sp.toNatClampNeg + j) .null = .int (f (sp.toNatClampNeg + j)) := by
        rw [Array.getD_eq_getD_getElem?, hs5 _ (by omega)]
        rfl
      rw [e]
      exact ⟨rfl, trivial⟩)
    (g := F0 (xm X) pc ls (.int n :: .int dp :: .ref ((xg X).2.2 b) :: .int sp :: .ref ((xg X).2.2 (200 + qa)) :: st)) rfl (hl.1.trans F.1.2.2.1.symm) (rest := st) rfl (by rw [F.1.2.1]; exact hd) (Nat.le_trans hfr F.2.2.2.1) (by show 2 * 0 + _ + _ ≤ _; have := F.2.2.2.2.1; omega)
  have e1 : copied scr (vp_cell ((xg X).2.1 14) (n1, .inl (σ.1 b))) sp dp n = vp_cell ((xg X).2.1 14) (n1, .inl (va_cpy f (σ.1 b) sp.toNatClampNeg dp.toNatClampNeg n.toNatClampNeg)) := va_copiedX (fun z => .int z) scr _ f (σ.1 b) hs5 q4
  rw [e1] at Y' step
  have hlt : (xg X).2.2 b < H.size := (Array.getElem?_eq_some_iff.mp hc1).1
  have hA : xA X ((xg X).2.2 b) := F.2.2.1.2.1 b hb0
  have oq : ∀ q : Nat, q ≠ (xg X).2.2 b → (H.setIfInBounds ((xg X).2.2 b) (vp_cell ((xg X).2.1 14) (n1, .inl (va_cpy f (σ.1 b) sp.toNatClampNeg dp.toNatClampNeg n.toNatClampNeg))))[q]? = H[q]? := fun q hq => by simp [Array.getElem?_setIfInBounds, Ne.symm hq]
  have hP1 := hP.set (wld_D F.2.2.1 σ) hat (e := .inl ((xg X).2.1 14, n1, .inl (va_cpy f (σ.1 b) sp.toNatClampNeg dp.toNatClampNeg n.toNatClampNeg))) (show (H.setIfInBounds _ _)[_]? = some _ by simp [Array.getElem?_setIfInBounds, hlt]) oq
  rw [wld_set (τ := setI σ b (va_cpy f (σ.1 b) sp.toNatClampNeg dp.toNatClampNeg n.toNatClampNeg)) _ hb0 (fun _ hj => setI_ne hj) (by rw [cl_14 hb, hnb]; simp [setI])] at hP1
  obtain ⟨t, a1, b1⟩ := k _ _ ls hP1 ⟨by simp; exact hS.1, fun q g1 g2 => by
      rw [oq q (fun e => g2 (by rw [e]; exact hA))]
      exact hS.2.1 q g1 g2, fun q hq => by
      rcases List.mem_append.mp hq with h | h
      · exact hS.2.2 q h
      · obtain ⟨z, -, hz⟩ := List.mem_map.mp h
        rw [← hz]
        exact hA⟩ hl _ (by rw [← hT]; rfl) Y'
  exact ⟨t, step t a1, b1⟩
theorem x_callT_i {n maxL fr' lo' : Nat} {y : MethodName} {C : String} {ws ws' : List Cond} {bytes : ByteArray} {ret : Option FieldType} {As : List Value} {Q : Int32 → wS → Prop} (F : Fx X cc nL own Ts fr lo) (hM : Mi (xl X) y ws fr' lo' (xg X) (xA X) As σ Q) (hG : GoodIn Ts (va_wsS own index y ws)) (hw : ws = Cond.code y bytes maxL ret :: ws') (hy : okN y C n) (hfr : fr' + 1 ≤ fr) (hlo : 8 + (maxL + 11) + lo' ≤ lo) (hn : As.length = n) (hst : st0 = As.reverse ++ st) (hr : (st.map fun v => v.category).sum ≤ 8) (hd : decode cc pc = .ok (.invokestatic index, 3)) (k : ∀ (r : Int32) (τ : wS), Q r τ → Wx X nL τ (pc + 3) lv (.int r :: st)) : Wx X nL σ pc lv st0 := by
  subst hst
  intro H locs ls hP hS hl
  exact va_calli (va_runS (As := As) (rest := st) F.1 hM (va_cwS n F.1.2.2.2.2 hG hw rfl rfl hy.2 ⟨Nat.le_trans hfr F.2.2.2.1, Nat.le_trans hlo F.2.2.2.2.1⟩) ⟨PcG.blind, fun U hU hW => PcG.of F hP hS U hU hW⟩ rfl hn hl.1 rfl (lv_room hr) hd ⟨F.2.2.2.2.2.1, F.2.2.2.2.2.2⟩) hS (fun q _ h => h) (fun q h => h) (fun r τ t H1 locs1 ht hvm hw2 hB hz hk2 hS1 => k r τ hw2 H1 locs1 ls (by rw [ht] at hB; exact hB) hS1 hl)
theorem x_callT_l {n maxL fr' lo' : Nat} {y : MethodName} {C : String} {ws ws' : List Cond} {bytes : ByteArray} {ret : Option FieldType} {As : List Value} {Q : Int64 → wS → Prop} (F : Fx X cc nL own Ts fr lo) (hM : Ml (xl X) y ws fr' lo' (xg X) (xA X) As σ Q) (hG : GoodIn Ts (va_wsS own index y ws)) (hw : ws = Cond.code y bytes maxL ret :: ws') (hy : okN y C n) (hfr : fr' + 1 ≤ fr) (hlo : 8 + (maxL + 11) + lo' ≤ lo) (hn : As.length = n) (hst : st0 = As.reverse ++ st) (hr : (st.map fun v => v.category).sum ≤ 8) (hd : decode cc pc = .ok (.invokestatic index, 3)) (k : ∀ (r : Int64) (τ : wS), Q r τ → Wx X nL τ (pc + 3) lv (.long r :: st)) : Wx X nL σ pc lv st0 := by
  subst hst
  intro H locs ls hP hS hl
  exact va_calll (va_runS (As := As) (rest := st) F.1 hM (va_cwS n F.1.2.2.2.2 hG hw rfl rfl hy.2 ⟨Nat.le_trans hfr F.2.2.2.1, Nat.le_trans hlo F.2.2.2.2.1⟩) ⟨PcG.blind, fun U hU hW => PcG.of F hP hS U hU hW⟩ rfl hn hl.1 rfl (lv_room hr) hd ⟨F.2.2.2.2.2.1, F.2.2.2.2.2.2⟩) hS (fun q _ h => h) (fun q h => h) (fun r τ t H1 locs1 ht hvm hw2 hB hz hk2 hS1 => k r τ hw2 H1 locs1 ls (by rw [ht] at hB; exact hB) hS1 hl)
theorem x_callT_v {n maxL fr' lo' : Nat} {y : MethodName} {C : String} {ws ws' : List Cond} {bytes : ByteArray} {ret : Option FieldType} {As : List Value} {Q : wS → Prop} (F : Fx X cc nL own Ts fr lo) (hM : Mv (xl X) y ws fr' lo' (xg X) (xA X) As σ Q) (hG : GoodIn Ts (va_wsS own index y ws)) (hw : ws = Cond.code y bytes maxL ret :: ws') (hy : okN y C n) (hfr : fr' + 1 ≤ fr) (hlo : 8 + (maxL + 11) + lo' ≤ lo) (hn : As.length = n) (hst : st0 = As.reverse ++ st) (hr : (st.map fun v => v.category).sum ≤ 8) (hd : decode cc pc = .ok (.invokestatic index, 3)) (k : ∀ (τ : wS), Q τ → Wx X nL τ (pc + 3) lv st) : Wx X nL σ pc lv st0 := by
  subst hst
  intro H locs ls hP hS hl
  exact va_callv (va_runS (As := As) (rest := st) F.1 hM (va_cwS n F.1.2.2.2.2 hG hw rfl rfl hy.2 ⟨Nat.le_trans hfr F.2.2.2.1, Nat.le_trans hlo F.2.2.2.2.1⟩) ⟨PcG.blind, fun U hU hW => PcG.of F hP hS U hU hW⟩ rfl hn hl.1 rfl (lv_room hr) hd ⟨F.2.2.2.2.2.1, F.2.2.2.2.2.2⟩) hS (fun q _ h => h) (fun q h => h) (fun τ t H1 locs1 ht hvm hw2 hB hz hk2 hS1 => k τ hw2 H1 locs1 ls (by rw [ht] at hB; exact hB) hS1 hl)
theorem x_ldc_w {v : Int32} (F : Fx X cc nL own Ts fr lo) (hd : decode cc pc = .ok (.ldc_w index, 3)) (hw : Cond.constant own index v ∈ Ts) (k : Wx X nL σ (pc + 3) lv (.int v :: st)) : Wx X nL σ pc lv st := fun H locs ls hP hS hl => lv_ldcw F.1.1 F.1.2.1 F.1.2.2.2.1 (F.1.2.2.2.2 _ hw) hd (k H locs ls hP hS hl)
theorem x_ldcS {q : Nat} {tx : String} (F : Fx X cc nL RX12 Ts fr lo) (hd : decode cc pc = .ok (.ldc index, 2)) (hq : q < 3) (hx : stX[q]? = some (index, tx)) (k : Wx X nL σ (pc + 2) lv (.ref (ad X (210 + q)) :: st)) : Wx X nL σ pc lv st := fun H locs ls hP hS hl => va_ldcS F.1.1 F.1.2.1 F.1.2.2.2.1 (F.2.1.2.2.2.2.2.2.1 q hq _ hx) hd (k H locs ls hP hS hl)
end XF
