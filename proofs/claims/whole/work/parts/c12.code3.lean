/-! ===== written by gen_c12.py: do not edit ===== -/
set_option maxRecDepth 100000 in
theorem cdok_154 : codeB prog_12_method_2_code cd_154 = true := by decide +kernel
set_option maxRecDepth 100000 in
theorem cdok_155 : codeB prog_1_method_40_code cd_155 = true := by decide +kernel
set_option maxRecDepth 100000 in
theorem cdok_156 : codeB prog_1_method_41_code cd_156 = true := by decide +kernel
set_option maxRecDepth 100000 in
theorem cdok_158 : codeB prog_1_method_8_code cd_158 = true := by decide +kernel
set_option maxRecDepth 100000 in
theorem cdok_166 : codeB prog_1_method_28_code cd_166 = true := by decide +kernel
set_option maxRecDepth 100000 in
theorem cdok_167 : codeB prog_1_method_58_code cd_167 = true := by decide +kernel
set_option maxRecDepth 100000 in
theorem cdok_169 : codeB prog_1_method_29_code cd_169 = true := by decide +kernel
set_option maxRecDepth 100000 in
theorem cdok_170 : codeB prog_14_method_1_code cd_170 = true := by decide +kernel
set_option maxRecDepth 100000 in
theorem cdok_171 : codeB prog_14_method_4_code cd_171 = true := by decide +kernel
set_option maxRecDepth 100000 in
theorem cdok_172 : codeB prog_14_method_3_code cd_172 = true := by decide +kernel
set_option maxRecDepth 100000 in
theorem cdok_173 : codeB prog_14_method_5_code cd_173 = true := by decide +kernel
set_option maxRecDepth 100000 in
theorem cdok_174 : codeB prog_14_method_26_code cd_174 = true := by decide +kernel
set_option maxRecDepth 100000 in
theorem cdok_175 : codeB prog_14_method_27_code cd_175 = true := by decide +kernel
set_option maxRecDepth 100000 in
theorem cdok_176 : codeB prog_14_method_28_code cd_176 = true := by decide +kernel
set_option maxRecDepth 100000 in
theorem cdok_177 : codeB prog_14_method_42_code cd_177 = true := by decide +kernel
set_option maxRecDepth 100000 in
theorem cdok_178 : codeB prog_14_method_25_code cd_178 = true := by decide +kernel
set_option maxRecDepth 100000 in
theorem cdok_179 : codeB prog_14_method_6_code cd_179 = true := by decide +kernel
set_option maxRecDepth 100000 in
theorem cdok_180 : codeB prog_14_method_16_code cd_180 = true := by decide +kernel
set_option maxRecDepth 100000 in
theorem cdok_181 : codeB prog_14_method_15_code cd_181 = true := by decide +kernel
set_option maxRecDepth 100000 in
theorem cdok_182 : codeB prog_14_method_14_code cd_182 = true := by decide +kernel
set_option maxRecDepth 100000 in
theorem cdok_183 : codeB prog_14_method_13_code cd_183 = true := by decide +kernel
set_option maxRecDepth 100000 in
theorem cdok_184 : codeB prog_14_method_41_code cd_184 = true := by decide +kernel
set_option maxRecDepth 100000 in
theorem cdok_185 : codeB prog_14_method_19_code cd_185 = true := by decide +kernel
set_option maxRecDepth 100000 in
theorem cdok_186 : codeB prog_14_method_18_code cd_186 = true := by decide +kernel
set_option maxRecDepth 100000 in
theorem cdok_187 : codeB prog_14_method_17_code cd_187 = true := by decide +kernel
set_option maxRecDepth 100000 in
theorem cdok_188 : codeB prog_14_method_34_code cd_188 = true := by decide +kernel
set_option maxRecDepth 100000 in
theorem cdok_189 : codeB prog_14_method_31_code cd_189 = true := by decide +kernel
set_option maxRecDepth 100000 in
theorem cdok_190 : codeB prog_14_method_22_code cd_190 = true := by decide +kernel
set_option maxRecDepth 100000 in
theorem cdok_191 : codeB prog_14_method_30_code cd_191 = true := by decide +kernel
set_option maxRecDepth 100000 in
theorem cdok_192 : codeB prog_14_method_21_code cd_192 = true := by decide +kernel
set_option maxRecDepth 100000 in
theorem cdok_193 : codeB prog_14_method_29_code cd_193 = true := by decide +kernel
set_option maxRecDepth 100000 in
theorem cdok_194 : codeB prog_14_method_23_code cd_194 = true := by decide +kernel
set_option maxRecDepth 100000 in
theorem cdok_195 : codeB prog_14_method_7_code cd_195 = true := by decide +kernel
set_option maxRecDepth 100000 in
theorem cdok_196 : codeB prog_14_method_32_code cd_196 = true := by decide +kernel
set_option maxRecDepth 100000 in
theorem cdok_197 : codeB prog_14_method_35_code cd_197 = true := by decide +kernel
set_option maxRecDepth 100000 in
theorem cdok_198 : codeB prog_14_method_36_code cd_198 = true := by decide +kernel
set_option maxRecDepth 100000 in
theorem cdok_199 : codeB prog_14_method_37_code cd_199 = true := by decide +kernel
set_option maxRecDepth 100000 in
theorem cdok_200 : codeB prog_14_method_33_code cd_200 = true := by decide +kernel
set_option maxRecDepth 100000 in
theorem cdok_201 : codeB prog_14_method_8_code cd_201 = true := by decide +kernel
set_option maxRecDepth 100000 in
theorem cdok_202 : codeB prog_14_method_38_code cd_202 = true := by decide +kernel
set_option maxRecDepth 100000 in
theorem cdok_203 : codeB prog_14_method_39_code cd_203 = true := by decide +kernel
set_option maxRecDepth 100000 in
theorem cdok_204 : codeB prog_14_method_40_code cd_204 = true := by decide +kernel
set_option maxRecDepth 100000 in
theorem cdok_205 : codeB prog_14_method_24_code cd_205 = true := by decide +kernel
set_option maxRecDepth 100000 in
theorem cdok_206 : codeB prog_14_method_20_code cd_206 = true := by decide +kernel
set_option maxRecDepth 100000 in
theorem cdok_207 : codeB prog_14_method_43_code cd_207 = true := by decide +kernel
set_option maxRecDepth 100000 in
theorem cdok_208 : codeB prog_14_method_51_code cd_208 = true := by decide +kernel
set_option maxRecDepth 100000 in
theorem cdok_209 : codeB prog_14_method_44_code cd_209 = true := by decide +kernel
set_option maxRecDepth 100000 in
theorem cdok_210 : codeB prog_14_method_47_code cd_210 = true := by decide +kernel
set_option maxRecDepth 100000 in
theorem cdok_211 : codeB prog_14_method_52_code cd_211 = true := by decide +kernel
set_option maxRecDepth 100000 in
theorem cdok_212 : codeB prog_14_method_45_code cd_212 = true := by decide +kernel
set_option maxRecDepth 100000 in
theorem cdok_213 : codeB prog_14_method_53_code cd_213 = true := by decide +kernel
set_option maxRecDepth 100000 in
theorem cdok_214 : codeB prog_14_method_46_code cd_214 = true := by decide +kernel
set_option maxRecDepth 100000 in
theorem cdok_215 : codeB prog_14_method_2_code cd_215 = true := by decide +kernel
set_option maxRecDepth 100000 in
theorem cdok_216 : codeB prog_14_method_55_code cd_216 = true := by decide +kernel
set_option maxRecDepth 100000 in
theorem cdok_217 : codeB prog_14_method_54_code cd_217 = true := by decide +kernel
set_option maxRecDepth 100000 in
theorem cdok_218 : codeB prog_14_method_49_code cd_218 = true := by decide +kernel
set_option maxRecDepth 100000 in
theorem cdok_219 : codeB prog_14_method_56_code cd_219 = true := by decide +kernel
set_option maxRecDepth 100000 in
theorem cdok_220 : codeB prog_14_method_69_code cd_220 = true := by decide +kernel
set_option maxRecDepth 100000 in
theorem cdok_221 : codeB prog_14_method_68_code cd_221 = true := by decide +kernel
set_option maxRecDepth 100000 in
theorem cdok_222 : codeB prog_14_method_63_code cd_222 = true := by decide +kernel
set_option maxRecDepth 100000 in
theorem cdok_223 : codeB prog_14_method_60_code cd_223 = true := by decide +kernel
set_option maxRecDepth 100000 in
theorem cdok_224 : codeB prog_14_method_48_code cd_224 = true := by decide +kernel
set_option maxRecDepth 100000 in
theorem cdok_225 : codeB prog_14_method_61_code cd_225 = true := by decide +kernel
set_option maxRecDepth 100000 in
theorem cdok_226 : codeB prog_14_method_50_code cd_226 = true := by decide +kernel
set_option maxRecDepth 100000 in
theorem cdok_227 : codeB prog_14_method_62_code cd_227 = true := by decide +kernel
set_option maxRecDepth 100000 in
theorem cdok_228 : codeB prog_14_method_59_code cd_228 = true := by decide +kernel
set_option maxRecDepth 100000 in
theorem cdok_229 : codeB prog_14_method_57_code cd_229 = true := by decide +kernel
set_option maxRecDepth 100000 in
theorem cdok_230 : codeB prog_14_method_67_code cd_230 = true := by decide +kernel
set_option maxRecDepth 100000 in
theorem cdok_231 : codeB prog_14_method_65_code cd_231 = true := by decide +kernel
set_option maxRecDepth 100000 in
theorem cdok_232 : codeB prog_14_method_64_code cd_232 = true := by decide +kernel
set_option maxRecDepth 100000 in
theorem cdok_233 : codeB prog_14_method_66_code cd_233 = true := by decide +kernel
