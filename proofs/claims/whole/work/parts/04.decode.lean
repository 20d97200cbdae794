theorem mz_ck_0 : mz_ckA 0 = true := by decide +kernel
theorem mz_ck_1 : mz_ckA 1 = true := by decide +kernel
theorem mz_ck_2 : mz_ckA 2 = true := by decide +kernel
theorem mz_ck_3 : mz_ckA 3 = true := by decide +kernel
theorem mz_ck_4 : mz_ckA 4 = true := by decide +kernel
theorem mz_ck_5 : mz_ckA 5 = true := by decide +kernel
theorem mz_ck_6 : mz_ckA 6 = true := by decide +kernel
theorem mz_ck_7 : mz_ckA 7 = true := by decide +kernel
theorem mz_ck_8 : mz_ckA 8 = true := by decide +kernel
theorem mz_ck_9 : mz_ckA 9 = true := by decide +kernel
theorem mz_ck_10 : mz_ckA 10 = true := by decide +kernel
theorem mz_ck_11 : mz_ckA 11 = true := by decide +kernel
theorem mz_ck_12 : mz_ckA 12 = true := by decide +kernel
theorem mz_ck_13 : mz_ckA 13 = true := by decide +kernel
theorem mz_ck_14 : mz_ckA 14 = true := by decide +kernel
theorem mz_ck_15 : mz_ckA 15 = true := by decide +kernel
theorem mz_ck_16 : mz_ckA 16 = true := by decide +kernel
theorem mz_ck_17 : mz_ckA 17 = true := by decide +kernel
theorem mz_ck_18 : mz_ckA 18 = true := by decide +kernel
theorem mz_ck_19 : mz_ckA 19 = true := by decide +kernel
theorem mz_ck_20 : mz_ckA 20 = true := by decide +kernel
theorem mz_ck_21 : mz_ckA 21 = true := by decide +kernel
theorem mz_ck_22 : mz_ckA 22 = true := by decide +kernel
theorem mz_ck_23 : mz_ckA 23 = true := by decide +kernel
theorem mz_ck_24_0 : mz_ckL (mz_b 24) (mz_c 24) (decide ((mz_y 24).name = "<init>")) cd_X2_partValue_s0 = true := by decide +kernel
theorem mz_ck_24_1 : mz_ckL (mz_b 24) (mz_c 24) (decide ((mz_y 24).name = "<init>")) cd_X2_partValue_s1 = true := by decide +kernel
theorem mz_ck_24_2 : mz_ckL (mz_b 24) (mz_c 24) (decide ((mz_y 24).name = "<init>")) cd_X2_partValue_s2 = true := by decide +kernel
theorem mz_ck_24 : mz_ckA 24 = true := mz_ck_app mz_ck_24_0 ( mz_ck_app mz_ck_24_1 (mz_ck_24_2))
theorem mz_ck_25 : mz_ckA 25 = true := by decide +kernel
theorem mz_ck_26_0 : mz_ckL (mz_b 26) (mz_c 26) (decide ((mz_y 26).name = "<init>")) cd_X3_lookAt_s0 = true := by decide +kernel
theorem mz_ck_26_1 : mz_ckL (mz_b 26) (mz_c 26) (decide ((mz_y 26).name = "<init>")) cd_X3_lookAt_s1 = true := by decide +kernel
theorem mz_ck_26 : mz_ckA 26 = true := mz_ck_app mz_ck_26_0 (mz_ck_26_1)
theorem mz_ck_27 : mz_ckA 27 = true := by decide +kernel
theorem mz_ck_28 : mz_ckA 28 = true := by decide +kernel
theorem mz_ck_29 : mz_ckA 29 = true := by decide +kernel
theorem mz_ck_30 : mz_ckA 30 = true := by decide +kernel
theorem mz_ck_31 : mz_ckA 31 = true := by decide +kernel
theorem mz_ck_32 : mz_ckA 32 = true := by decide +kernel
theorem mz_ck_33 : mz_ckA 33 = true := by decide +kernel
theorem mz_ck_34 : mz_ckA 34 = true := by decide +kernel
theorem mz_ck_35 : mz_ckA 35 = true := by decide +kernel
theorem mz_ck_36_0 : mz_ckL (mz_b 36) (mz_c 36) (decide ((mz_y 36).name = "<init>")) cd_X3_putThrough_s0 = true := by decide +kernel
theorem mz_ck_36_1 : mz_ckL (mz_b 36) (mz_c 36) (decide ((mz_y 36).name = "<init>")) cd_X3_putThrough_s1 = true := by decide +kernel
theorem mz_ck_36 : mz_ckA 36 = true := mz_ck_app mz_ck_36_0 (mz_ck_36_1)
theorem mz_ck_37 : mz_ckA 37 = true := by decide +kernel
theorem mz_ck_38 : mz_ckA 38 = true := by decide +kernel
theorem mz_ck_39 : mz_ckA 39 = true := by decide +kernel
theorem mz_ck_40 : mz_ckA 40 = true := by decide +kernel
theorem mz_ck_41 : mz_ckA 41 = true := by decide +kernel
theorem mz_ck_42 : mz_ckA 42 = true := by decide +kernel
theorem mz_ck_43 : mz_ckA 43 = true := by decide +kernel
theorem mz_ck_44 : mz_ckA 44 = true := by decide +kernel
theorem mz_ck_45 : mz_ckA 45 = true := by decide +kernel
theorem mz_ck_46 : mz_ckA 46 = true := by decide +kernel
theorem mz_ck_47 : mz_ckA 47 = true := by decide +kernel
theorem mz_ck_48 : mz_ckA 48 = true := by decide +kernel
theorem mz_ck_49 : mz_ckA 49 = true := by decide +kernel
theorem mz_ck_50 : mz_ckA 50 = true := by decide +kernel
theorem mz_ck_51 : mz_ckA 51 = true := by decide +kernel
theorem mz_ck_52 : mz_ckA 52 = true := by decide +kernel
theorem mz_ck_53 : mz_ckA 53 = true := by decide +kernel
theorem mz_ck_54 : mz_ckA 54 = true := by decide +kernel
theorem mz_ck_55 : mz_ckA 55 = true := by decide +kernel
theorem mz_ck_56 : mz_ckA 56 = true := by decide +kernel
theorem mz_ck_57 : mz_ckA 57 = true := by decide +kernel
theorem mz_ck_58 : mz_ckA 58 = true := by decide +kernel
theorem mz_ck_59 : mz_ckA 59 = true := by decide +kernel
theorem mz_ck_60 : mz_ckA 60 = true := by decide +kernel
theorem mz_ck_61 : mz_ckA 61 = true := by decide +kernel
theorem mz_ck_62 : mz_ckA 62 = true := by decide +kernel
theorem mz_ck_63 : mz_ckA 63 = true := by decide +kernel
theorem mz_ck_64_0 : mz_ckL (mz_b 64) (mz_c 64) (decide ((mz_y 64).name = "<init>")) cd_X5_reaches_s0 = true := by decide +kernel
theorem mz_ck_64_1 : mz_ckL (mz_b 64) (mz_c 64) (decide ((mz_y 64).name = "<init>")) cd_X5_reaches_s1 = true := by decide +kernel
theorem mz_ck_64 : mz_ckA 64 = true := mz_ck_app mz_ck_64_0 (mz_ck_64_1)
theorem mz_ck_65 : mz_ckA 65 = true := by decide +kernel
theorem mz_ck_66 : mz_ckA 66 = true := by decide +kernel
theorem mz_ck_67 : mz_ckA 67 = true := by decide +kernel
theorem mz_ck_68 : mz_ckA 68 = true := by decide +kernel
theorem mz_ck_69 : mz_ckA 69 = true := by decide +kernel
theorem mz_ck_70 : mz_ckA 70 = true := by decide +kernel
theorem mz_ck_71 : mz_ckA 71 = true := by decide +kernel
theorem mz_ck_72 : mz_ckA 72 = true := by decide +kernel
theorem mz_ck_73 : mz_ckA 73 = true := by decide +kernel
theorem mz_ck_74 : mz_ckA 74 = true := by decide +kernel
theorem mz_ck_75 : mz_ckA 75 = true := by decide +kernel
theorem mz_ck_76 : mz_ckA 76 = true := by decide +kernel
theorem mz_ck_77 : mz_ckA 77 = true := by decide +kernel
theorem mz_ck_78 : mz_ckA 78 = true := by decide +kernel
theorem mz_ck_79 : mz_ckA 79 = true := by decide +kernel
theorem mz_ck_80 : mz_ckA 80 = true := by decide +kernel
theorem mz_ck_81 : mz_ckA 81 = true := by decide +kernel
theorem mz_ck_82 : mz_ckA 82 = true := by decide +kernel
theorem mz_ck_83 : mz_ckA 83 = true := by decide +kernel
theorem mz_ck_84 : mz_ckA 84 = true := by decide +kernel
theorem mz_ck_85 : mz_ckA 85 = true := by decide +kernel
theorem mz_ck_86 : mz_ckA 86 = true := by decide +kernel
theorem mz_ck_87 : mz_ckA 87 = true := by decide +kernel
theorem mz_ck_88 : mz_ckA 88 = true := by decide +kernel
theorem mz_ck_89 : mz_ckA 89 = true := by decide +kernel
theorem mz_ck_90 : mz_ckA 90 = true := by decide +kernel
theorem mz_ck_91 : mz_ckA 91 = true := by decide +kernel
theorem mz_ck_92 : mz_ckA 92 = true := by decide +kernel
theorem mz_ck_93 : mz_ckA 93 = true := by decide +kernel
theorem mz_ck_94 : mz_ckA 94 = true := by decide +kernel
theorem mz_ck_95 : mz_ckA 95 = true := by decide +kernel
theorem mz_ck_96 : mz_ckA 96 = true := by decide +kernel
theorem mz_ck_97 : mz_ckA 97 = true := by decide +kernel
theorem mz_ck_98 : mz_ckA 98 = true := by decide +kernel
theorem mz_ck_99 : mz_ckA 99 = true := by decide +kernel
theorem mz_ck_100 : mz_ckA 100 = true := by decide +kernel
theorem mz_ck_101 : mz_ckA 101 = true := by decide +kernel
theorem mz_ck_102 : mz_ckA 102 = true := by decide +kernel
theorem mz_ck_103 : mz_ckA 103 = true := by decide +kernel
theorem mz_ck_104 : mz_ckA 104 = true := by decide +kernel
theorem mz_ck_105 : mz_ckA 105 = true := by decide +kernel
theorem mz_ck_106 : mz_ckA 106 = true := by decide +kernel
theorem mz_ck_107 : mz_ckA 107 = true := by decide +kernel
theorem mz_ck_108 : mz_ckA 108 = true := by decide +kernel
theorem mz_ck_109 : mz_ckA 109 = true := by decide +kernel
theorem mz_ck_110 : mz_ckA 110 = true := by decide +kernel
theorem mz_ck_111 : mz_ckA 111 = true := by decide +kernel
theorem mz_ck_112 : mz_ckA 112 = true := by decide +kernel
theorem mz_ck_113 : mz_ckA 113 = true := by decide +kernel
theorem mz_ck_114 : mz_ckA 114 = true := by decide +kernel
theorem mz_ck_115_0 : mz_ckL (mz_b 115) (mz_c 115) (decide ((mz_y 115).name = "<init>")) cd_X11_init_s0 = true := by decide +kernel
theorem mz_ck_115_1 : mz_ckL (mz_b 115) (mz_c 115) (decide ((mz_y 115).name = "<init>")) cd_X11_init_s1 = true := by decide +kernel
theorem mz_ck_115 : mz_ckA 115 = true := mz_ck_app mz_ck_115_0 (mz_ck_115_1)
theorem mz_ck_116 : mz_ckA 116 = true := by decide +kernel
theorem mz_ck_117 : mz_ckA 117 = true := by decide +kernel
theorem mz_ck_118 : mz_ckA 118 = true := by decide +kernel
theorem mz_ck_119 : mz_ckA 119 = true := by decide +kernel
theorem mz_ck_120 : mz_ckA 120 = true := by decide +kernel
theorem mz_ck_121 : mz_ckA 121 = true := by decide +kernel
theorem mz_ck_122 : mz_ckA 122 = true := by decide +kernel
theorem mz_ck_123 : mz_ckA 123 = true := by decide +kernel
theorem mz_ck_124 : mz_ckA 124 = true := by decide +kernel
theorem mz_ck_125 : mz_ckA 125 = true := by decide +kernel
theorem mz_ck_126 : mz_ckA 126 = true := by decide +kernel
theorem mz_ck_127 : mz_ckA 127 = true := by decide +kernel
theorem mz_ck_128 : mz_ckA 128 = true := by decide +kernel
theorem mz_ck_129 : mz_ckA 129 = true := by decide +kernel
theorem mz_ck_130 : mz_ckA 130 = true := by decide +kernel
theorem mz_ck_131 : mz_ckA 131 = true := by decide +kernel
theorem mz_ck_132 : mz_ckA 132 = true := by decide +kernel
theorem mz_ck_133 : mz_ckA 133 = true := by decide +kernel
theorem mz_ck_134 : mz_ckA 134 = true := by decide +kernel
theorem mz_ck_135 : mz_ckA 135 = true := by decide +kernel
theorem mz_ck_136 : mz_ckA 136 = true := by decide +kernel
theorem mz_ck_137 : mz_ckA 137 = true := by decide +kernel
theorem mz_ck_138 : mz_ckA 138 = true := by decide +kernel
theorem mz_ck_139 : mz_ckA 139 = true := by decide +kernel
theorem mz_ck_140 : mz_ckA 140 = true := by decide +kernel
theorem mz_ck_141 : mz_ckA 141 = true := by decide +kernel
theorem mz_ck_142 : mz_ckA 142 = true := by decide +kernel
theorem mz_ck_143 : mz_ckA 143 = true := by decide +kernel
theorem mz_ck_144 : mz_ckA 144 = true := by decide +kernel
theorem mz_ck_145 : mz_ckA 145 = true := by decide +kernel
theorem mz_ck_146 : mz_ckA 146 = true := by decide +kernel
theorem mz_ck_147 : mz_ckA 147 = true := by decide +kernel
theorem mz_ck_148 : mz_ckA 148 = true := by decide +kernel
theorem mz_ck_149 : mz_ckA 149 = true := by decide +kernel
theorem mz_ck_150 : mz_ckA 150 = true := by decide +kernel
theorem mz_ck_151 : mz_ckA 151 = true := by decide +kernel
theorem mz_ck_152 : mz_ckA 152 = true := by decide +kernel
theorem mz_ck_153 : mz_ckA 153 = true := by decide +kernel
theorem mz_ck_154 : mz_ckA 154 = true := by decide +kernel
theorem mz_ck_155 : mz_ckA 155 = true := by decide +kernel
theorem mz_ck_156 : mz_ckA 156 = true := by decide +kernel
theorem mz_ck_157 : mz_ckA 157 = true := by decide +kernel
theorem mz_ck_158 : mz_ckA 158 = true := by decide +kernel
theorem mz_ck_159 : mz_ckA 159 = true := by decide +kernel
theorem mz_ck_160 : mz_ckA 160 = true := by decide +kernel
theorem mz_ck_161 : mz_ckA 161 = true := by decide +kernel
theorem mz_ck_162 : mz_ckA 162 = true := by decide +kernel
theorem mz_ck_163 : mz_ckA 163 = true := by decide +kernel
theorem mz_ck_164 : mz_ckA 164 = true := by decide +kernel
theorem mz_ck_165 : mz_ckA 165 = true := by decide +kernel
theorem mz_ck_166 : mz_ckA 166 = true := by decide +kernel
theorem mz_ck_167 : mz_ckA 167 = true := by decide +kernel
theorem mz_ck_168 : mz_ckA 168 = true := by decide +kernel
theorem mz_ck_169 : mz_ckA 169 = true := by decide +kernel
theorem mz_ck_170 : mz_ckA 170 = true := by decide +kernel
theorem mz_ck_171 : mz_ckA 171 = true := by decide +kernel
theorem mz_ck_172 : mz_ckA 172 = true := by decide +kernel
theorem mz_ck_173_0 : mz_ckL (mz_b 173) (mz_c 173) (decide ((mz_y 173).name = "<init>")) cd_X12_init_s0 = true := by decide +kernel
theorem mz_ck_173_1 : mz_ckL (mz_b 173) (mz_c 173) (decide ((mz_y 173).name = "<init>")) cd_X12_init_s1 = true := by decide +kernel
theorem mz_ck_173_2 : mz_ckL (mz_b 173) (mz_c 173) (decide ((mz_y 173).name = "<init>")) cd_X12_init_s2 = true := by decide +kernel
theorem mz_ck_173_3 : mz_ckL (mz_b 173) (mz_c 173) (decide ((mz_y 173).name = "<init>")) cd_X12_init_s3 = true := by decide +kernel
theorem mz_ck_173_4 : mz_ckL (mz_b 173) (mz_c 173) (decide ((mz_y 173).name = "<init>")) cd_X12_init_s4 = true := by decide +kernel
theorem mz_ck_173_5 : mz_ckL (mz_b 173) (mz_c 173) (decide ((mz_y 173).name = "<init>")) cd_X12_init_s5 = true := by decide +kernel
theorem mz_ck_173_6 : mz_ckL (mz_b 173) (mz_c 173) (decide ((mz_y 173).name = "<init>")) cd_X12_init_s6 = true := by decide +kernel
theorem mz_ck_173_7 : mz_ckL (mz_b 173) (mz_c 173) (decide ((mz_y 173).name = "<init>")) cd_X12_init_s7 = true := by decide +kernel
theorem mz_ck_173 : mz_ckA 173 = true := mz_ck_app mz_ck_173_0 ( mz_ck_app mz_ck_173_1 ( mz_ck_app mz_ck_173_2 ( mz_ck_app mz_ck_173_3 ( mz_ck_app mz_ck_173_4 ( mz_ck_app mz_ck_173_5 ( mz_ck_app mz_ck_173_6 (mz_ck_173_7)))))))
theorem mz_ck_174 : mz_ckA 174 = true := by decide +kernel
theorem mz_ck_175 : mz_ckA 175 = true := by decide +kernel
theorem mz_ck_176 : mz_ckA 176 = true := by decide +kernel
theorem mz_ck_177 : mz_ckA 177 = true := by decide +kernel
theorem mz_ck_178 : mz_ckA 178 = true := by decide +kernel
theorem mz_ck_179 : mz_ckA 179 = true := by decide +kernel
theorem mz_ck_180 : mz_ckA 180 = true := by decide +kernel
theorem mz_ck_181 : mz_ckA 181 = true := by decide +kernel
theorem mz_ck_182 : mz_ckA 182 = true := by decide +kernel
theorem mz_ck_183_0 : mz_ckL (mz_b 183) (mz_c 183) (decide ((mz_y 183).name = "<init>")) cd_X12_cut_s0 = true := by decide +kernel
theorem mz_ck_183_1 : mz_ckL (mz_b 183) (mz_c 183) (decide ((mz_y 183).name = "<init>")) cd_X12_cut_s1 = true := by decide +kernel
theorem mz_ck_183_2 : mz_ckL (mz_b 183) (mz_c 183) (decide ((mz_y 183).name = "<init>")) cd_X12_cut_s2 = true := by decide +kernel
theorem mz_ck_183 : mz_ckA 183 = true := mz_ck_app mz_ck_183_0 ( mz_ck_app mz_ck_183_1 (mz_ck_183_2))
theorem mz_ck_184 : mz_ckA 184 = true := by decide +kernel
theorem mz_ck_185 : mz_ckA 185 = true := by decide +kernel
theorem mz_ck_186 : mz_ckA 186 = true := by decide +kernel
theorem mz_ck_187 : mz_ckA 187 = true := by decide +kernel
theorem mz_ck_188 : mz_ckA 188 = true := by decide +kernel
theorem mz_ck_189 : mz_ckA 189 = true := by decide +kernel
theorem mz_ck_190 : mz_ckA 190 = true := by decide +kernel
theorem mz_ck_191_0 : mz_ckL (mz_b 191) (mz_c 191) (decide ((mz_y 191).name = "<init>")) cd_X12_read_s0 = true := by decide +kernel
theorem mz_ck_191_1 : mz_ckL (mz_b 191) (mz_c 191) (decide ((mz_y 191).name = "<init>")) cd_X12_read_s1 = true := by decide +kernel
theorem mz_ck_191_2 : mz_ckL (mz_b 191) (mz_c 191) (decide ((mz_y 191).name = "<init>")) cd_X12_read_s2 = true := by decide +kernel
theorem mz_ck_191 : mz_ckA 191 = true := mz_ck_app mz_ck_191_0 ( mz_ck_app mz_ck_191_1 (mz_ck_191_2))
theorem mz_ck_192 : mz_ckA 192 = true := by decide +kernel
theorem mz_ck_193 : mz_ckA 193 = true := by decide +kernel
theorem mz_ck_194 : mz_ckA 194 = true := by decide +kernel
theorem mz_ck_195_0 : mz_ckL (mz_b 195) (mz_c 195) (decide ((mz_y 195).name = "<init>")) cd_X12_tellOne_s0 = true := by decide +kernel
theorem mz_ck_195_1 : mz_ckL (mz_b 195) (mz_c 195) (decide ((mz_y 195).name = "<init>")) cd_X12_tellOne_s1 = true := by decide +kernel
theorem mz_ck_195 : mz_ckA 195 = true := mz_ck_app mz_ck_195_0 (mz_ck_195_1)
theorem mz_ck_196 : mz_ckA 196 = true := by decide +kernel
theorem mz_ck_197 : mz_ckA 197 = true := by decide +kernel
theorem mz_ck_198 : mz_ckA 198 = true := by decide +kernel
theorem mz_ck_199 : mz_ckA 199 = true := by decide +kernel
theorem mz_ck_200 : mz_ckA 200 = true := by decide +kernel
theorem mz_ck_201_0 : mz_ckL (mz_b 201) (mz_c 201) (decide ((mz_y 201).name = "<init>")) cd_X12_tellLaw_s0 = true := by decide +kernel
theorem mz_ck_201_1 : mz_ckL (mz_b 201) (mz_c 201) (decide ((mz_y 201).name = "<init>")) cd_X12_tellLaw_s1 = true := by decide +kernel
theorem mz_ck_201 : mz_ckA 201 = true := mz_ck_app mz_ck_201_0 (mz_ck_201_1)
theorem mz_ck_202 : mz_ckA 202 = true := by decide +kernel
theorem mz_ck_203 : mz_ckA 203 = true := by decide +kernel
theorem mz_ck_204 : mz_ckA 204 = true := by decide +kernel
theorem mz_ck_205_0 : mz_ckL (mz_b 205) (mz_c 205) (decide ((mz_y 205).name = "<init>")) cd_X12_expression_s0 = true := by decide +kernel
theorem mz_ck_205_1 : mz_ckL (mz_b 205) (mz_c 205) (decide ((mz_y 205).name = "<init>")) cd_X12_expression_s1 = true := by decide +kernel
theorem mz_ck_205_2 : mz_ckL (mz_b 205) (mz_c 205) (decide ((mz_y 205).name = "<init>")) cd_X12_expression_s2 = true := by decide +kernel
theorem mz_ck_205 : mz_ckA 205 = true := mz_ck_app mz_ck_205_0 ( mz_ck_app mz_ck_205_1 (mz_ck_205_2))
theorem mz_ck_206 : mz_ckA 206 = true := by decide +kernel
theorem mz_ck_207_0 : mz_ckL (mz_b 207) (mz_c 207) (decide ((mz_y 207).name = "<init>")) cd_X12_termOf_s0 = true := by decide +kernel
theorem mz_ck_207_1 : mz_ckL (mz_b 207) (mz_c 207) (decide ((mz_y 207).name = "<init>")) cd_X12_termOf_s1 = true := by decide +kernel
theorem mz_ck_207 : mz_ckA 207 = true := mz_ck_app mz_ck_207_0 (mz_ck_207_1)
theorem mz_ck_208 : mz_ckA 208 = true := by decide +kernel
theorem mz_ck_209 : mz_ckA 209 = true := by decide +kernel
theorem mz_ck_210 : mz_ckA 210 = true := by decide +kernel
theorem mz_ck_211 : mz_ckA 211 = true := by decide +kernel
theorem mz_ck_212 : mz_ckA 212 = true := by decide +kernel
theorem mz_ck_213 : mz_ckA 213 = true := by decide +kernel
theorem mz_ck_214 : mz_ckA 214 = true := by decide +kernel
theorem mz_ck_215 : mz_ckA 215 = true := by decide +kernel
theorem mz_ck_216 : mz_ckA 216 = true := by decide +kernel
theorem mz_ck_217 : mz_ckA 217 = true := by decide +kernel
theorem mz_ck_218 : mz_ckA 218 = true := by decide +kernel
theorem mz_ck_219 : mz_ckA 219 = true := by decide +kernel
theorem mz_ck_220 : mz_ckA 220 = true := by decide +kernel
theorem mz_ck_221 : mz_ckA 221 = true := by decide +kernel
theorem mz_ck_222 : mz_ckA 222 = true := by decide +kernel
theorem mz_ck_223 : mz_ckA 223 = true := by decide +kernel
theorem mz_ck_224_0 : mz_ckL (mz_b 224) (mz_c 224) (decide ((mz_y 224).name = "<init>")) cd_X12_lawTells_s0 = true := by decide +kernel
theorem mz_ck_224_1 : mz_ckL (mz_b 224) (mz_c 224) (decide ((mz_y 224).name = "<init>")) cd_X12_lawTells_s1 = true := by decide +kernel
theorem mz_ck_224 : mz_ckA 224 = true := mz_ck_app mz_ck_224_0 (mz_ck_224_1)
theorem mz_ck_225 : mz_ckA 225 = true := by decide +kernel
theorem mz_ck_226_0 : mz_ckL (mz_b 226) (mz_c 226) (decide ((mz_y 226).name = "<init>")) cd_X12_looksBoth_s0 = true := by decide +kernel
theorem mz_ck_226_1 : mz_ckL (mz_b 226) (mz_c 226) (decide ((mz_y 226).name = "<init>")) cd_X12_looksBoth_s1 = true := by decide +kernel
theorem mz_ck_226 : mz_ckA 226 = true := mz_ck_app mz_ck_226_0 (mz_ck_226_1)
theorem mz_ck_227 : mz_ckA 227 = true := by decide +kernel
theorem mz_ck_228 : mz_ckA 228 = true := by decide +kernel
theorem mz_ck_229 : mz_ckA 229 = true := by decide +kernel
theorem mz_ck_230 : mz_ckA 230 = true := by decide +kernel
theorem mz_ck_231_0 : mz_ckL (mz_b 231) (mz_c 231) (decide ((mz_y 231).name = "<init>")) cd_X12_turnsBoth_s0 = true := by decide +kernel
theorem mz_ck_231_1 : mz_ckL (mz_b 231) (mz_c 231) (decide ((mz_y 231).name = "<init>")) cd_X12_turnsBoth_s1 = true := by decide +kernel
theorem mz_ck_231_2 : mz_ckL (mz_b 231) (mz_c 231) (decide ((mz_y 231).name = "<init>")) cd_X12_turnsBoth_s2 = true := by decide +kernel
theorem mz_ck_231 : mz_ckA 231 = true := mz_ck_app mz_ck_231_0 ( mz_ck_app mz_ck_231_1 (mz_ck_231_2))
theorem mz_ck_232 : mz_ckA 232 = true := by decide +kernel
theorem mz_ck_233_0 : mz_ckL (mz_b 233) (mz_c 233) (decide ((mz_y 233).name = "<init>")) cd_X12_dayGoes_s0 = true := by decide +kernel
theorem mz_ck_233_1 : mz_ckL (mz_b 233) (mz_c 233) (decide ((mz_y 233).name = "<init>")) cd_X12_dayGoes_s1 = true := by decide +kernel
theorem mz_ck_233 : mz_ckA 233 = true := mz_ck_app mz_ck_233_0 (mz_ck_233_1)
theorem mz_ck_234 : mz_ckA 234 = true := by decide +kernel
theorem mz_ck_235 : mz_ckA 235 = true := by decide +kernel
theorem mz_ck_236 : mz_ckA 236 = true := by decide +kernel
theorem mz_ck_237 : mz_ckA 237 = true := by decide +kernel
theorem mz_ck_238 : mz_ckA 238 = true := by decide +kernel
theorem mz_ck_239 : mz_ckA 239 = true := by decide +kernel
theorem mz_ck_240 : mz_ckA 240 = true := by decide +kernel
theorem mz_ck_241 : mz_ckA 241 = true := by decide +kernel
theorem mz_ck_242 : mz_ckA 242 = true := by decide +kernel
theorem mz_ck_243 : mz_ckA 243 = true := by decide +kernel
theorem mz_ck_244 : mz_ckA 244 = true := by decide +kernel
theorem mz_ck_245 : mz_ckA 245 = true := by decide +kernel
theorem mz_ck_246 : mz_ckA 246 = true := by decide +kernel
theorem mz_ck_247 : mz_ckA 247 = true := by decide +kernel
theorem mz_ck_248 : mz_ckA 248 = true := by decide +kernel
theorem mz_ck_249 : mz_ckA 249 = true := by decide +kernel
theorem mz_ck_250 : mz_ckA 250 = true := by decide +kernel
theorem mz_ck_251 : mz_ckA 251 = true := by decide +kernel
theorem mz_ck_252 : mz_ckA 252 = true := by decide +kernel
theorem mz_ck_253 : mz_ckA 253 = true := by decide +kernel
theorem mz_ck_254 : mz_ckA 254 = true := by decide +kernel
theorem mz_ck_255 : mz_ckA 255 = true := by decide +kernel
theorem mz_ck_256 : mz_ckA 256 = true := by decide +kernel
theorem mz_ck_257 : mz_ckA 257 = true := by decide +kernel
theorem mz_ck_258 : mz_ckA 258 = true := by decide +kernel
theorem mz_ck_259 : mz_ckA 259 = true := by decide +kernel
theorem mz_ck_260 : mz_ckA 260 = true := by decide +kernel
theorem mz_ck_261 : mz_ckA 261 = true := by decide +kernel
theorem mz_ck_262 : mz_ckA 262 = true := by decide +kernel
theorem mz_ck_263 : mz_ckA 263 = true := by decide +kernel
theorem mz_ck_264 : mz_ckA 264 = true := by decide +kernel
theorem mz_ck_265 : mz_ckA 265 = true := by decide +kernel
theorem mz_ck_266 : mz_ckA 266 = true := by decide +kernel
theorem mz_ck_267 : mz_ckA 267 = true := by decide +kernel
theorem mz_ck_268 : mz_ckA 268 = true := by decide +kernel
theorem mz_ck_269_0 : mz_ckL (mz_b 269) (mz_c 269) (decide ((mz_y 269).name = "<init>")) cd_X12_fillsPaired_s0 = true := by decide +kernel
theorem mz_ck_269_1 : mz_ckL (mz_b 269) (mz_c 269) (decide ((mz_y 269).name = "<init>")) cd_X12_fillsPaired_s1 = true := by decide +kernel
theorem mz_ck_269 : mz_ckA 269 = true := mz_ck_app mz_ck_269_0 (mz_ck_269_1)
theorem mz_ck_270 : mz_ckA 270 = true := by decide +kernel
theorem mz_ck_271 : mz_ckA 271 = true := by decide +kernel
theorem mz_ck_272 : mz_ckA 272 = true := by decide +kernel
theorem mz_ck_273 : mz_ckA 273 = true := by decide +kernel
theorem mz_ck_274 : mz_ckA 274 = true := by decide +kernel
theorem mz_ck_275 : mz_ckA 275 = true := by decide +kernel
theorem mz_ck_276 : mz_ckA 276 = true := by decide +kernel
theorem mz_ck_277 : mz_ckA 277 = true := by decide +kernel
theorem mz_ck_278 : mz_ckA 278 = true := by decide +kernel
theorem mz_ck_279 : mz_ckA 279 = true := by decide +kernel
theorem mz_ck_280 : mz_ckA 280 = true := by decide +kernel
theorem mz_ck_281 : mz_ckA 281 = true := by decide +kernel
theorem mz_ck_282 : mz_ckA 282 = true := by decide +kernel
theorem mz_ck_283 : mz_ckA 283 = true := by decide +kernel
theorem mz_ck_284_0 : mz_ckL (mz_b 284) (mz_c 284) (decide ((mz_y 284).name = "<init>")) cd_X12_fillsTwo_s0 = true := by decide +kernel
theorem mz_ck_284_1 : mz_ckL (mz_b 284) (mz_c 284) (decide ((mz_y 284).name = "<init>")) cd_X12_fillsTwo_s1 = true := by decide +kernel
theorem mz_ck_284 : mz_ckA 284 = true := mz_ck_app mz_ck_284_0 (mz_ck_284_1)
theorem mz_ck_285 : mz_ckA 285 = true := by decide +kernel
theorem mz_ck_286_0 : mz_ckL (mz_b 286) (mz_c 286) (decide ((mz_y 286).name = "<init>")) cd_X12_ask_s0 = true := by decide +kernel
theorem mz_ck_286_1 : mz_ckL (mz_b 286) (mz_c 286) (decide ((mz_y 286).name = "<init>")) cd_X12_ask_s1 = true := by decide +kernel
theorem mz_ck_286 : mz_ckA 286 = true := mz_ck_app mz_ck_286_0 (mz_ck_286_1)
theorem mz_ck_287 : mz_ckA 287 = true := by decide +kernel
theorem mz_ck_288 : mz_ckA 288 = true := by decide +kernel
theorem mz_ck_289_0 : mz_ckL (mz_b 289) (mz_c 289) (decide ((mz_y 289).name = "<init>")) cd_X12_count_s0 = true := by decide +kernel
theorem mz_ck_289_1 : mz_ckL (mz_b 289) (mz_c 289) (decide ((mz_y 289).name = "<init>")) cd_X12_count_s1 = true := by decide +kernel
theorem mz_ck_289_2 : mz_ckL (mz_b 289) (mz_c 289) (decide ((mz_y 289).name = "<init>")) cd_X12_count_s2 = true := by decide +kernel
theorem mz_ck_289_3 : mz_ckL (mz_b 289) (mz_c 289) (decide ((mz_y 289).name = "<init>")) cd_X12_count_s3 = true := by decide +kernel
theorem mz_ck_289 : mz_ckA 289 = true := mz_ck_app mz_ck_289_0 ( mz_ck_app mz_ck_289_1 ( mz_ck_app mz_ck_289_2 (mz_ck_289_3)))
theorem mz_ck_290 : mz_ckA 290 = true := by decide +kernel
theorem mz_ck_291_0 : mz_ckL (mz_b 291) (mz_c 291) (decide ((mz_y 291).name = "<init>")) cd_L_law_s0 = true := by decide +kernel
theorem mz_ck_291_1 : mz_ckL (mz_b 291) (mz_c 291) (decide ((mz_y 291).name = "<init>")) cd_L_law_s1 = true := by decide +kernel
theorem mz_ck_291_2 : mz_ckL (mz_b 291) (mz_c 291) (decide ((mz_y 291).name = "<init>")) cd_L_law_s2 = true := by decide +kernel
theorem mz_ck_291_3 : mz_ckL (mz_b 291) (mz_c 291) (decide ((mz_y 291).name = "<init>")) cd_L_law_s3 = true := by decide +kernel
theorem mz_ck_291_4 : mz_ckL (mz_b 291) (mz_c 291) (decide ((mz_y 291).name = "<init>")) cd_L_law_s4 = true := by decide +kernel
theorem mz_ck_291_5 : mz_ckL (mz_b 291) (mz_c 291) (decide ((mz_y 291).name = "<init>")) cd_L_law_s5 = true := by decide +kernel
theorem mz_ck_291_6 : mz_ckL (mz_b 291) (mz_c 291) (decide ((mz_y 291).name = "<init>")) cd_L_law_s6 = true := by decide +kernel
theorem mz_ck_291_7 : mz_ckL (mz_b 291) (mz_c 291) (decide ((mz_y 291).name = "<init>")) cd_L_law_s7 = true := by decide +kernel
theorem mz_ck_291_8 : mz_ckL (mz_b 291) (mz_c 291) (decide ((mz_y 291).name = "<init>")) cd_L_law_s8 = true := by decide +kernel
theorem mz_ck_291_9 : mz_ckL (mz_b 291) (mz_c 291) (decide ((mz_y 291).name = "<init>")) cd_L_law_s9 = true := by decide +kernel
theorem mz_ck_291_10 : mz_ckL (mz_b 291) (mz_c 291) (decide ((mz_y 291).name = "<init>")) cd_L_law_s10 = true := by decide +kernel
theorem mz_ck_291_11 : mz_ckL (mz_b 291) (mz_c 291) (decide ((mz_y 291).name = "<init>")) cd_L_law_s11 = true := by decide +kernel
theorem mz_ck_291_12 : mz_ckL (mz_b 291) (mz_c 291) (decide ((mz_y 291).name = "<init>")) cd_L_law_s12 = true := by decide +kernel
theorem mz_ck_291_13 : mz_ckL (mz_b 291) (mz_c 291) (decide ((mz_y 291).name = "<init>")) cd_L_law_s13 = true := by decide +kernel
theorem mz_ck_291_14 : mz_ckL (mz_b 291) (mz_c 291) (decide ((mz_y 291).name = "<init>")) cd_L_law_s14 = true := by decide +kernel
theorem mz_ck_291_15 : mz_ckL (mz_b 291) (mz_c 291) (decide ((mz_y 291).name = "<init>")) cd_L_law_s15 = true := by decide +kernel
theorem mz_ck_291_16 : mz_ckL (mz_b 291) (mz_c 291) (decide ((mz_y 291).name = "<init>")) cd_L_law_s16 = true := by decide +kernel
theorem mz_ck_291 : mz_ckA 291 = true := mz_ck_app mz_ck_291_0 ( mz_ck_app mz_ck_291_1 ( mz_ck_app mz_ck_291_2 ( mz_ck_app mz_ck_291_3 ( mz_ck_app mz_ck_291_4 ( mz_ck_app mz_ck_291_5 ( mz_ck_app mz_ck_291_6 ( mz_ck_app mz_ck_291_7 ( mz_ck_app mz_ck_291_8 ( mz_ck_app mz_ck_291_9 ( mz_ck_app mz_ck_291_10 ( mz_ck_app mz_ck_291_11 ( mz_ck_app mz_ck_291_12 ( mz_ck_app mz_ck_291_13 ( mz_ck_app mz_ck_291_14 ( mz_ck_app mz_ck_291_15 (mz_ck_291_16))))))))))))))))
theorem mz_ck_all : ∀ M, M < 292 → mz_ckA M = true := by
  intro M hM
  by_cases h0 : M < 20
  · rcases (show M = 0 ∨ M = 1 ∨ M = 2 ∨ M = 3 ∨ M = 4 ∨ M = 5 ∨ M = 6 ∨ M = 7 ∨ M = 8 ∨ M = 9 ∨ M = 10 ∨ M = 11 ∨ M = 12 ∨ M = 13 ∨ M = 14 ∨ M = 15 ∨ M = 16 ∨ M = 17 ∨ M = 18 ∨ M = 19 by omega) with rfl | rfl | rfl | rfl | rfl | rfl | rfl | rfl | rfl | rfl | rfl | rfl | rfl | rfl | rfl | rfl | rfl | rfl | rfl | rfl
    · exact mz_ck_0
    · exact mz_ck_1
    · exact mz_ck_2
    · exact mz_ck_3
    · exact mz_ck_4
    · exact mz_ck_5
    · exact mz_ck_6
    · exact mz_ck_7
    · exact mz_ck_8
    · exact mz_ck_9
    · exact mz_ck_10
    · exact mz_ck_11
    · exact mz_ck_12
    · exact mz_ck_13
    · exact mz_ck_14
    · exact mz_ck_15
    · exact mz_ck_16
    · exact mz_ck_17
    · exact mz_ck_18
    · exact mz_ck_19
  by_cases h20 : M < 40
  · rcases (show M = 20 ∨ M = 21 ∨ M = 22 ∨ M = 23 ∨ M = 24 ∨ M = 25 ∨ M = 26 ∨ M = 27 ∨ M = 28 ∨ M = 29 ∨ M = 30 ∨ M = 31 ∨ M = 32 ∨ M = 33 ∨ M = 34 ∨ M = 35 ∨ M = 36 ∨ M = 37 ∨ M = 38 ∨ M = 39 by omega) with rfl | rfl | rfl | rfl | rfl | rfl | rfl | rfl | rfl | rfl | rfl | rfl | rfl | rfl | rfl | rfl | rfl | rfl | rfl | rfl
    · exact mz_ck_20
    · exact mz_ck_21
    · exact mz_ck_22
    · exact mz_ck_23
    · exact mz_ck_24
    · exact mz_ck_25
    · exact mz_ck_26
    · exact mz_ck_27
    · exact mz_ck_28
    · exact mz_ck_29
    · exact mz_ck_30
    · exact mz_ck_31
    · exact mz_ck_32
    · exact mz_ck_33
    · exact mz_ck_34
    · exact mz_ck_35
    · exact mz_ck_36
    · exact mz_ck_37
    · exact mz_ck_38
    · exact mz_ck_39
  by_cases h40 : M < 60
  · rcases (show M = 40 ∨ M = 41 ∨ M = 42 ∨ M = 43 ∨ M = 44 ∨ M = 45 ∨ M = 46 ∨ M = 47 ∨ M = 48 ∨ M = 49 ∨ M = 50 ∨ M = 51 ∨ M = 52 ∨ M = 53 ∨ M = 54 ∨ M = 55 ∨ M = 56 ∨ M = 57 ∨ M = 58 ∨ M = 59 by omega) with rfl | rfl | rfl | rfl | rfl | rfl | rfl | rfl | rfl | rfl | rfl | rfl | rfl | rfl | rfl | rfl | rfl | rfl | rfl | rfl
    · exact mz_ck_40
    · exact mz_ck_41
    · exact mz_ck_42
    · exact mz_ck_43
    · exact mz_ck_44
    · exact mz_ck_45
    · exact mz_ck_46
    · exact mz_ck_47
    · exact mz_ck_48
    · exact mz_ck_49
    · exact mz_ck_50
    · exact mz_ck_51
    · exact mz_ck_52
    · exact mz_ck_53
    · exact mz_ck_54
    · exact mz_ck_55
    · exact mz_ck_56
    · exact mz_ck_57
    · exact mz_ck_58
    · exact mz_ck_59
  by_cases h60 : M < 80
  · rcases (show M = 60 ∨ M = 61 ∨ M = 62 ∨ M = 63 ∨ M = 64 ∨ M = 65 ∨ M = 66 ∨ M = 67 ∨ M = 68 ∨ M = 69 ∨ M = 70 ∨ M = 71 ∨ M = 72 ∨ M = 73 ∨ M = 74 ∨ M = 75 ∨ M = 76 ∨ M = 77 ∨ M = 78 ∨ M = 79 by omega) with rfl | rfl | rfl | rfl | rfl | rfl | rfl | rfl | rfl | rfl | rfl | rfl | rfl | rfl | rfl | rfl | rfl | rfl | rfl | rfl
    · exact mz_ck_60
    · exact mz_ck_61
    · exact mz_ck_62
    · exact mz_ck_63
    · exact mz_ck_64
    · exact mz_ck_65
    · exact mz_ck_66
    · exact mz_ck_67
    · exact mz_ck_68
    · exact mz_ck_69
    · exact mz_ck_70
    · exact mz_ck_71
    · exact mz_ck_72
    · exact mz_ck_73
    · exact mz_ck_74
    · exact mz_ck_75
    · exact mz_ck_76
    · exact mz_ck_77
    · exact mz_ck_78
    · exact mz_ck_79
  by_cases h80 : M < 100
  · rcases (show M = 80 ∨ M = 81 ∨ M = 82 ∨ M = 83 ∨ M = 84 ∨ M = 85 ∨ M = 86 ∨ M = 87 ∨ M = 88 ∨ M = 89 ∨ M = 90 ∨ M = 91 ∨ M = 92 ∨ M = 93 ∨ M = 94 ∨ M = 95 ∨ M = 96 ∨ M = 97 ∨ M = 98 ∨ M = 99 by omega) with rfl | rfl | rfl | rfl | rfl | rfl | rfl | rfl | rfl | rfl | rfl | rfl | rfl | rfl | rfl | rfl | rfl | rfl | rfl | rfl
    · exact mz_ck_80
    · exact mz_ck_81
    · exact mz_ck_82
    · exact mz_ck_83
    · exact mz_ck_84
    · exact mz_ck_85
    · exact mz_ck_86
    · exact mz_ck_87
    · exact mz_ck_88
    · exact mz_ck_89
    · exact mz_ck_90
    · exact mz_ck_91
    · exact mz_ck_92
    · exact mz_ck_93
    · exact mz_ck_94
    · exact mz_ck_95
    · exact mz_ck_96
    · exact mz_ck_97
    · exact mz_ck_98
    · exact mz_ck_99
  by_cases h100 : M < 120
  · rcases (show M = 100 ∨ M = 101 ∨ M = 102 ∨ M = 103 ∨ M = 104 ∨ M = 105 ∨ M = 106 ∨ M = 107 ∨ M = 108 ∨ M = 109 ∨ M = 110 ∨ M = 111 ∨ M = 112 ∨ M = 113 ∨ M = 114 ∨ M = 115 ∨ M = 116 ∨ M = 117 ∨ M = 118 ∨ M = 119 by omega) with rfl | rfl | rfl | rfl | rfl | rfl | rfl | rfl | rfl | rfl | rfl | rfl | rfl | rfl | rfl | rfl | rfl | rfl | rfl | rfl
    · exact mz_ck_100
    · exact mz_ck_101
    · exact mz_ck_102
    · exact mz_ck_103
    · exact mz_ck_104
    · exact mz_ck_105
    · exact mz_ck_106
    · exact mz_ck_107
    · exact mz_ck_108
    · exact mz_ck_109
    · exact mz_ck_110
    · exact mz_ck_111
    · exact mz_ck_112
    · exact mz_ck_113
    · exact mz_ck_114
    · exact mz_ck_115
    · exact mz_ck_116
    · exact mz_ck_117
    · exact mz_ck_118
    · exact mz_ck_119
  by_cases h120 : M < 140
  · rcases (show M = 120 ∨ M = 121 ∨ M = 122 ∨ M = 123 ∨ M = 124 ∨ M = 125 ∨ M = 126 ∨ M = 127 ∨ M = 128 ∨ M = 129 ∨ M = 130 ∨ M = 131 ∨ M = 132 ∨ M = 133 ∨ M = 134 ∨ M = 135 ∨ M = 136 ∨ M = 137 ∨ M = 138 ∨ M = 139 by omega) with rfl | rfl | rfl | rfl | rfl | rfl | rfl | rfl | rfl | rfl | rfl | rfl | rfl | rfl | rfl | rfl | rfl | rfl | rfl | rfl
    · exact mz_ck_120
    · exact mz_ck_121
    · exact mz_ck_122
    · exact mz_ck_123
    · exact mz_ck_124
    · exact mz_ck_125
    · exact mz_ck_126
    · exact mz_ck_127
    · exact mz_ck_128
    · exact mz_ck_129
    · exact mz_ck_130
    · exact mz_ck_131
    · exact mz_ck_132
    · exact mz_ck_133
    · exact mz_ck_134
    · exact mz_ck_135
    · exact mz_ck_136
    · exact mz_ck_137
    · exact mz_ck_138
    · exact mz_ck_139
  by_cases h140 : M < 160
  · rcases (show M = 140 ∨ M = 141 ∨ M = 142 ∨ M = 143 ∨ M = 144 ∨ M = 145 ∨ M = 146 ∨ M = 147 ∨ M = 148 ∨ M = 149 ∨ M = 150 ∨ M = 151 ∨ M = 152 ∨ M = 153 ∨ M = 154 ∨ M = 155 ∨ M = 156 ∨ M = 157 ∨ M = 158 ∨ M = 159 by omega) with rfl | rfl | rfl | rfl | rfl | rfl | rfl | rfl | rfl | rfl | rfl | rfl | rfl | rfl | rfl | rfl | rfl | rfl | rfl | rfl
    · exact mz_ck_140
    · exact mz_ck_141
    · exact mz_ck_142
    · exact mz_ck_143
    · exact mz_ck_144
    · exact mz_ck_145
    · exact mz_ck_146
    · exact mz_ck_147
    · exact mz_ck_148
    · exact mz_ck_149
    · exact mz_ck_150
    · exact mz_ck_151
    · exact mz_ck_152
    · exact mz_ck_153
    · exact mz_ck_154
    · exact mz_ck_155
    · exact mz_ck_156
    · exact mz_ck_157
    · exact mz_ck_158
    · exact mz_ck_159
  by_cases h160 : M < 180
  · rcases (show M = 160 ∨ M = 161 ∨ M = 162 ∨ M = 163 ∨ M = 164 ∨ M = 165 ∨ M = 166 ∨ M = 167 ∨ M = 168 ∨ M = 169 ∨ M = 170 ∨ M = 171 ∨ M = 172 ∨ M = 173 ∨ M = 174 ∨ M = 175 ∨ M = 176 ∨ M = 177 ∨ M = 178 ∨ M = 179 by omega) with rfl | rfl | rfl | rfl | rfl | rfl | rfl | rfl | rfl | rfl | rfl | rfl | rfl | rfl | rfl | rfl | rfl | rfl | rfl | rfl
    · exact mz_ck_160
    · exact mz_ck_161
    · exact mz_ck_162
    · exact mz_ck_163
    · exact mz_ck_164
    · exact mz_ck_165
    · exact mz_ck_166
    · exact mz_ck_167
    · exact mz_ck_168
    · exact mz_ck_169
    · exact mz_ck_170
    · exact mz_ck_171
    · exact mz_ck_172
    · exact mz_ck_173
    · exact mz_ck_174
    · exact mz_ck_175
    · exact mz_ck_176
    · exact mz_ck_177
    · exact mz_ck_178
    · exact mz_ck_179
  by_cases h180 : M < 200
  · rcases (show M = 180 ∨ M = 181 ∨ M = 182 ∨ M = 183 ∨ M = 184 ∨ M = 185 ∨ M = 186 ∨ M = 187 ∨ M = 188 ∨ M = 189 ∨ M = 190 ∨ M = 191 ∨ M = 192 ∨ M = 193 ∨ M = 194 ∨ M = 195 ∨ M = 196 ∨ M = 197 ∨ M = 198 ∨ M = 199 by omega) with rfl | rfl | rfl | rfl | rfl | rfl | rfl | rfl | rfl | rfl | rfl | rfl | rfl | rfl | rfl | rfl | rfl | rfl | rfl | rfl
    · exact mz_ck_180
    · exact mz_ck_181
    · exact mz_ck_182
    · exact mz_ck_183
    · exact mz_ck_184
    · exact mz_ck_185
    · exact mz_ck_186
    · exact mz_ck_187
    · exact mz_ck_188
    · exact mz_ck_189
    · exact mz_ck_190
    · exact mz_ck_191
    · exact mz_ck_192
    · exact mz_ck_193
    · exact mz_ck_194
    · exact mz_ck_195
    · exact mz_ck_196
    · exact mz_ck_197
    · exact mz_ck_198
    · exact mz_ck_199
  by_cases h200 : M < 220
  · rcases (show M = 200 ∨ M = 201 ∨ M = 202 ∨ M = 203 ∨ M = 204 ∨ M = 205 ∨ M = 206 ∨ M = 207 ∨ M = 208 ∨ M = 209 ∨ M = 210 ∨ M = 211 ∨ M = 212 ∨ M = 213 ∨ M = 214 ∨ M = 215 ∨ M = 216 ∨ M = 217 ∨ M = 218 ∨ M = 219 by omega) with rfl | rfl | rfl | rfl | rfl | rfl | rfl | rfl | rfl | rfl | rfl | rfl | rfl | rfl | rfl | rfl | rfl | rfl | rfl | rfl
    · exact mz_ck_200
    · exact mz_ck_201
    · exact mz_ck_202
    · exact mz_ck_203
    · exact mz_ck_204
    · exact mz_ck_205
    · exact mz_ck_206
    · exact mz_ck_207
    · exact mz_ck_208
    · exact mz_ck_209
    · exact mz_ck_210
    · exact mz_ck_211
    · exact mz_ck_212
    · exact mz_ck_213
    · exact mz_ck_214
    · exact mz_ck_215
    · exact mz_ck_216
    · exact mz_ck_217
    · exact mz_ck_218
    · exact mz_ck_219
  by_cases h220 : M < 240
  · rcases (show M = 220 ∨ M = 221 ∨ M = 222 ∨ M = 223 ∨ M = 224 ∨ M = 225 ∨ M = 226 ∨ M = 227 ∨ M = 228 ∨ M = 229 ∨ M = 230 ∨ M = 231 ∨ M = 232 ∨ M = 233 ∨ M = 234 ∨ M = 235 ∨ M = 236 ∨ M = 237 ∨ M = 238 ∨ M = 239 by omega) with rfl | rfl | rfl | rfl | rfl | rfl | rfl | rfl | rfl | rfl | rfl | rfl | rfl | rfl | rfl | rfl | rfl | rfl | rfl | rfl
    · exact mz_ck_220
    · exact mz_ck_221
    · exact mz_ck_222
    · exact mz_ck_223
    · exact mz_ck_224
    · exact mz_ck_225
    · exact mz_ck_226
    · exact mz_ck_227
    · exact mz_ck_228
    · exact mz_ck_229
    · exact mz_ck_230
    · exact mz_ck_231
    · exact mz_ck_232
    · exact mz_ck_233
    · exact mz_ck_234
    · exact mz_ck_235
    · exact mz_ck_236
    · exact mz_ck_237
    · exact mz_ck_238
    · exact mz_ck_239
  by_cases h240 : M < 260
  · rcases (show M = 240 ∨ M = 241 ∨ M = 242 ∨ M = 243 ∨ M = 244 ∨ M = 245 ∨ M = 246 ∨ M = 247 ∨ M = 248 ∨ M = 249 ∨ M = 250 ∨ M = 251 ∨ M = 252 ∨ M = 253 ∨ M = 254 ∨ M = 255 ∨ M = 256 ∨ M = 257 ∨ M = 258 ∨ M = 259 by omega) with rfl | rfl | rfl | rfl | rfl | rfl | rfl | rfl | rfl | rfl | rfl | rfl | rfl | rfl | rfl | rfl | rfl | rfl | rfl | rfl
    · exact mz_ck_240
    · exact mz_ck_241
    · exact mz_ck_242
    · exact mz_ck_243
    · exact mz_ck_244
    · exact mz_ck_245
    · exact mz_ck_246
    · exact mz_ck_247
    · exact mz_ck_248
    · exact mz_ck_249
    · exact mz_ck_250
    · exact mz_ck_251
    · exact mz_ck_252
    · exact mz_ck_253
    · exact mz_ck_254
    · exact mz_ck_255
    · exact mz_ck_256
    · exact mz_ck_257
    · exact mz_ck_258
    · exact mz_ck_259
  by_cases h260 : M < 280
  · rcases (show M = 260 ∨ M = 261 ∨ M = 262 ∨ M = 263 ∨ M = 264 ∨ M = 265 ∨ M = 266 ∨ M = 267 ∨ M = 268 ∨ M = 269 ∨ M = 270 ∨ M = 271 ∨ M = 272 ∨ M = 273 ∨ M = 274 ∨ M = 275 ∨ M = 276 ∨ M = 277 ∨ M = 278 ∨ M = 279 by omega) with rfl | rfl | rfl | rfl | rfl | rfl | rfl | rfl | rfl | rfl | rfl | rfl | rfl | rfl | rfl | rfl | rfl | rfl | rfl | rfl
    · exact mz_ck_260
    · exact mz_ck_261
    · exact mz_ck_262
    · exact mz_ck_263
    · exact mz_ck_264
    · exact mz_ck_265
    · exact mz_ck_266
    · exact mz_ck_267
    · exact mz_ck_268
    · exact mz_ck_269
    · exact mz_ck_270
    · exact mz_ck_271
    · exact mz_ck_272
    · exact mz_ck_273
    · exact mz_ck_274
    · exact mz_ck_275
    · exact mz_ck_276
    · exact mz_ck_277
    · exact mz_ck_278
    · exact mz_ck_279
  by_cases h280 : M < 292
  · rcases (show M = 280 ∨ M = 281 ∨ M = 282 ∨ M = 283 ∨ M = 284 ∨ M = 285 ∨ M = 286 ∨ M = 287 ∨ M = 288 ∨ M = 289 ∨ M = 290 ∨ M = 291 by omega) with rfl | rfl | rfl | rfl | rfl | rfl | rfl | rfl | rfl | rfl | rfl | rfl
    · exact mz_ck_280
    · exact mz_ck_281
    · exact mz_ck_282
    · exact mz_ck_283
    · exact mz_ck_284
    · exact mz_ck_285
    · exact mz_ck_286
    · exact mz_ck_287
    · exact mz_ck_288
    · exact mz_ck_289
    · exact mz_ck_290
    · exact mz_ck_291
  omega
theorem mz_ml_len : mz_cl.length = 292 := by decide +kernel
theorem mz_fd_mem : ∀ (t : List MzE) (pc : Nat) (e : MzE), mz_fd t pc = some e → e ∈ t ∧ e.1 = pc := by
  intro t
  induction t with
  | nil => intro pc e h; cases h
  | cons x t ih =>
    intro pc e h
    rw [mz_fd] at h
    cases hb : Nat.beq x.1 pc with
    | true =>
      rw [hb] at h
      cases h
      exact ⟨List.mem_cons_self, Nat.eq_of_beq_eq_true hb⟩
    | false =>
      rw [hb] at h
      obtain ⟨h1, h2⟩ := ih pc e h
      exact ⟨List.mem_cons_of_mem _ h1, h2⟩
theorem mz_ck_at {M pc : Nat} {e : MzE} (h : mz_fd (mz_code M) pc = some e) : e.1 = pc ∧ mz_ckD (mz_b M) e = true ∧ mz_ckE (mz_c M) (decide ((mz_y M).name = "<init>")) e = true := by
  obtain ⟨h1, h2⟩ := mz_fd_mem _ _ _ h
  have hM : M < 292 := by
    rcases Nat.lt_or_ge M 292 with q | q
    · exact q
    · have : mz_code M = [] := by
        unfold mz_code
        rw [List.getD_eq_getElem?_getD, List.getElem?_eq_none (by rw [mz_ml_len]; exact q)]
        rfl
      rw [this] at h1
      cases h1
  have hc := List.all_eq_true.mp (mz_ck_all M hM) e h1
  simp only [Bool.and_eq_true] at hc
  exact ⟨h2, hc.1, hc.2⟩
