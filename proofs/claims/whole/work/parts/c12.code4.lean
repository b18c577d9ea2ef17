/-! ===== written by gen_c12.py: do not edit ===== -/
set_option maxRecDepth 100000 in
theorem cdok_234 : codeB prog_14_method_70_code cd_234 = true := by decide +kernel
set_option maxRecDepth 100000 in
theorem cdok_235 : codeB prog_14_method_71_code cd_235 = true := by decide +kernel
set_option maxRecDepth 100000 in
theorem cdok_236 : codeB prog_14_method_72_code cd_236 = true := by decide +kernel
set_option maxRecDepth 100000 in
theorem cdok_237 : codeB prog_14_method_73_code cd_237 = true := by decide +kernel
set_option maxRecDepth 100000 in
theorem cdok_238 : codeB prog_14_method_58_code cd_238 = true := by decide +kernel
set_option maxRecDepth 100000 in
theorem cdok_239 : codeB prog_14_method_76_code cd_239 = true := by decide +kernel
set_option maxRecDepth 100000 in
theorem cdok_240 : codeB prog_14_method_75_code cd_240 = true := by decide +kernel
set_option maxRecDepth 100000 in
theorem cdok_241 : codeB prog_14_method_10_code cd_241 = true := by decide +kernel
set_option maxRecDepth 100000 in
theorem cdok_242 : codeB prog_14_method_74_code cd_242 = true := by decide +kernel
set_option maxRecDepth 100000 in
theorem cdok_243 : codeB prog_14_method_80_code cd_243 = true := by decide +kernel
set_option maxRecDepth 100000 in
theorem cdok_244 : codeB prog_14_method_78_code cd_244 = true := by decide +kernel
set_option maxRecDepth 100000 in
theorem cdok_245 : codeB prog_14_method_77_code cd_245 = true := by decide +kernel
set_option maxRecDepth 100000 in
theorem cdok_246 : codeB prog_14_method_79_code cd_246 = true := by decide +kernel
set_option maxRecDepth 100000 in
theorem cdok_247 : codeB prog_14_method_81_code cd_247 = true := by decide +kernel
set_option maxRecDepth 100000 in
theorem cdok_248 : codeB prog_14_method_83_code cd_248 = true := by decide +kernel
set_option maxRecDepth 100000 in
theorem cdok_249 : codeB prog_14_method_82_code cd_249 = true := by decide +kernel
set_option maxRecDepth 100000 in
theorem cdok_250 : codeB prog_14_method_84_code cd_250 = true := by decide +kernel
set_option maxRecDepth 100000 in
theorem cdok_251 : codeB prog_14_method_85_code cd_251 = true := by decide +kernel
set_option maxRecDepth 100000 in
theorem cdok_252 : codeB prog_14_method_87_code cd_252 = true := by decide +kernel
set_option maxRecDepth 100000 in
theorem cdok_253 : codeB prog_14_method_86_code cd_253 = true := by decide +kernel
set_option maxRecDepth 100000 in
theorem cdok_254 : codeB prog_14_method_89_code cd_254 = true := by decide +kernel
set_option maxRecDepth 100000 in
theorem cdok_255 : codeB prog_14_method_88_code cd_255 = true := by decide +kernel
set_option maxRecDepth 100000 in
theorem cdok_256 : codeB prog_14_method_90_code cd_256 = true := by decide +kernel
set_option maxRecDepth 100000 in
theorem cdok_257 : codeB prog_14_method_94_code cd_257 = true := by decide +kernel
set_option maxRecDepth 100000 in
theorem cdok_258 : codeB prog_14_method_93_code cd_258 = true := by decide +kernel
set_option maxRecDepth 100000 in
theorem cdok_259 : codeB prog_14_method_91_code cd_259 = true := by decide +kernel
set_option maxRecDepth 100000 in
theorem cdok_260 : codeB prog_14_method_92_code cd_260 = true := by decide +kernel
set_option maxRecDepth 100000 in
theorem cdok_261 : codeB prog_14_method_95_code cd_261 = true := by decide +kernel
set_option maxRecDepth 100000 in
theorem cdok_262 : codeB prog_14_method_96_code cd_262 = true := by decide +kernel
set_option maxRecDepth 100000 in
theorem cdok_263 : codeB prog_14_method_98_code cd_263 = true := by decide +kernel
set_option maxRecDepth 100000 in
theorem cdok_264 : codeB prog_14_method_97_code cd_264 = true := by decide +kernel
set_option maxRecDepth 100000 in
theorem cdok_265 : codeB prog_14_method_12_code cd_265 = true := by decide +kernel
set_option maxRecDepth 100000 in
theorem cdok_266 : codeB prog_14_method_99_code cd_266 = true := by decide +kernel
set_option maxRecDepth 100000 in
theorem cdok_267 : codeB prog_14_method_100_code cd_267 = true := by decide +kernel
set_option maxRecDepth 100000 in
theorem cdok_268 : codeB prog_14_method_104_code cd_268 = true := by decide +kernel
set_option maxRecDepth 100000 in
theorem cdok_269 : codeB prog_14_method_102_code cd_269 = true := by decide +kernel
set_option maxRecDepth 100000 in
theorem cdok_270 : codeB prog_14_method_101_code cd_270 = true := by decide +kernel
set_option maxRecDepth 100000 in
theorem cdok_271 : codeB prog_14_method_103_code cd_271 = true := by decide +kernel
set_option maxRecDepth 100000 in
theorem cdok_272 : codeB prog_14_method_105_code cd_272 = true := by decide +kernel
set_option maxRecDepth 100000 in
theorem cdok_273 : codeB prog_14_method_111_code cd_273 = true := by decide +kernel
set_option maxRecDepth 100000 in
theorem cdok_274 : codeB prog_14_method_110_code cd_274 = true := by decide +kernel
set_option maxRecDepth 100000 in
theorem cdok_275 : codeB prog_14_method_109_code cd_275 = true := by decide +kernel
set_option maxRecDepth 100000 in
theorem cdok_276 : codeB prog_14_method_106_code cd_276 = true := by decide +kernel
set_option maxRecDepth 100000 in
theorem cdok_277 : codeB prog_14_method_108_code cd_277 = true := by decide +kernel
set_option maxRecDepth 100000 in
theorem cdok_278 : codeB prog_14_method_107_code cd_278 = true := by decide +kernel
set_option maxRecDepth 100000 in
theorem cdok_279 : codeB prog_14_method_112_code cd_279 = true := by decide +kernel
set_option maxRecDepth 100000 in
theorem cdok_280 : codeB prog_14_method_120_code cd_280 = true := by decide +kernel
set_option maxRecDepth 100000 in
theorem cdok_281 : codeB prog_14_method_118_code cd_281 = true := by decide +kernel
set_option maxRecDepth 100000 in
theorem cdok_282 : codeB prog_14_method_116_code cd_282 = true := by decide +kernel
set_option maxRecDepth 100000 in
theorem cdok_283 : codeB prog_14_method_114_code cd_283 = true := by decide +kernel
set_option maxRecDepth 100000 in
theorem cdok_284 : codeB prog_14_method_113_code cd_284 = true := by decide +kernel
set_option maxRecDepth 100000 in
theorem cdok_285 : codeB prog_14_method_115_code cd_285 = true := by decide +kernel
set_option maxRecDepth 100000 in
theorem cdok_286 : codeB prog_14_method_117_code cd_286 = true := by decide +kernel
set_option maxRecDepth 100000 in
theorem cdok_287 : codeB prog_14_method_119_code cd_287 = true := by decide +kernel
set_option maxRecDepth 100000 in
theorem cdok_288 : codeB prog_14_method_121_code cd_288 = true := by decide +kernel
set_option maxRecDepth 100000 in
theorem cdok_289 : codeB prog_14_method_122_code cd_289 = true := by decide +kernel
set_option maxRecDepth 100000 in
theorem cdok_290 : codeB prog_14_method_132_code cd_290 = true := by decide +kernel
set_option maxRecDepth 100000 in
theorem cdok_291 : codeB prog_14_method_125_code cd_291 = true := by decide +kernel
set_option maxRecDepth 100000 in
theorem cdok_292 : codeB prog_14_method_126_code cd_292 = true := by decide +kernel
set_option maxRecDepth 100000 in
theorem cdok_293 : codeB prog_14_method_127_code cd_293 = true := by decide +kernel
set_option maxRecDepth 100000 in
theorem cdok_294 : codeB prog_14_method_129_code cd_294 = true := by decide +kernel
set_option maxRecDepth 100000 in
theorem cdok_295 : codeB prog_14_method_128_code cd_295 = true := by decide +kernel
set_option maxRecDepth 100000 in
theorem cdok_296 : codeB prog_14_method_124_code cd_296 = true := by decide +kernel
set_option maxRecDepth 100000 in
theorem cdok_297 : codeB prog_14_method_130_code cd_297 = true := by decide +kernel
set_option maxRecDepth 100000 in
theorem cdok_298 : codeB prog_14_method_123_code cd_298 = true := by decide +kernel
set_option maxRecDepth 100000 in
theorem cdok_299 : codeB prog_14_method_131_code cd_299 = true := by decide +kernel
set_option maxRecDepth 100000 in
theorem cdok_300 : codeB prog_14_method_134_code cd_300 = true := by decide +kernel
set_option maxRecDepth 100000 in
theorem cdok_301 : codeB prog_14_method_133_code cd_301 = true := by decide +kernel
set_option maxRecDepth 100000 in
theorem cdok_302 : codeB prog_14_method_135_code cd_302 = true := by decide +kernel
set_option maxRecDepth 100000 in
theorem cdok_303 : codeB prog_14_method_136_code cd_303 = true := by decide +kernel
set_option maxRecDepth 100000 in
theorem cdok_304 : codeB prog_14_method_137_code cd_304 = true := by decide +kernel
