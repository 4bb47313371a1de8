/-! words of the tables, and the decoded instructions of the methods walked here (written by program) -/
theorem wm_148 : Cond.fieldLink RX8 238 RX8 "planeKnown" "Z" ∈ xW := xW_at 351 (by decide +kernel) rfl
theorem wm_149 : Cond.fieldLink RX8 242 RX8 "turnsKnown" "Z" ∈ xW := xW_at 353 (by decide +kernel) rfl
theorem wm_150 : Cond.fieldLink RX8 245 RX8 "drawingKnown" "Z" ∈ xW := xW_at 354 (by decide +kernel) rfl
theorem wm_151 : Cond.fieldLink RX8 248 RX8 "pieceKnown" "Z" ∈ xW := xW_at 355 (by decide +kernel) rfl
theorem wm_152 : Cond.code yX8_forget cX8_forget 1 none ∈ xW := xW_at 396 (by decide +kernel) rfl
theorem wm_153 : Cond.methodLink RX8 85 yX8_forget ∈ xW := xW_at 393 (by decide +kernel) rfl
theorem wm_154 : Cond.instanceMethod yX8_forget ∈ xW := xW_at 395 (by decide +kernel) rfl
theorem wm_155 : Cond.selects RX8 yX8_forget yX8_forget ∈ xW := xW_at 0 (by decide +kernel) rfl
theorem wm_156 : Cond.initialized RX8 ∈ xW := xW_at 93 (by decide +kernel) rfl
theorem wm_157 : Cond.fieldLink RX7 18 RX7 "count" "I" ∈ xW := xW_at 158 (by decide +kernel) rfl
theorem wm_158 : Cond.code yX7_open cX7_open 1 none ∈ xW := xW_at 400 (by decide +kernel) rfl
theorem wm_159 : Cond.methodLink RX8 88 yX7_open ∈ xW := xW_at 397 (by decide +kernel) rfl
theorem wm_160 : Cond.instanceMethod yX7_open ∈ xW := xW_at 398 (by decide +kernel) rfl
theorem wm_161 : Cond.selects RX7 yX7_open yX7_open ∈ xW := xW_at 399 (by decide +kernel) rfl
theorem wm_162 : Cond.fieldLink RX3 22 RX3 "nodes" "I" ∈ xW := xW_at 127 (by decide +kernel) rfl
theorem wm_163 : Cond.code yX3_addNode cX3_addNode 1 (some .int) ∈ xW := xW_at 404 (by decide +kernel) rfl
theorem wm_164 : Cond.methodLink RX8 91 yX3_addNode ∈ xW := xW_at 401 (by decide +kernel) rfl
theorem wm_165 : Cond.instanceMethod yX3_addNode ∈ xW := xW_at 402 (by decide +kernel) rfl
theorem wm_166 : Cond.selects RX3 yX3_addNode yX3_addNode ∈ xW := xW_at 403 (by decide +kernel) rfl
theorem wm_167 : Cond.fieldLink RX9 210 RX9 "nodes" "I" ∈ xW := xW_at 865 (by decide +kernel) rfl
theorem wm_168 : Cond.fieldLink RX9 216 RX9 "known" "Z" ∈ xW := xW_at 872 (by decide +kernel) rfl
theorem wm_169 : Cond.code yX3_hasNode cX3_hasNode 2 (some .boolean) ∈ xW := xW_at 412 (by decide +kernel) rfl
theorem wm_170 : Cond.methodLink RX8 95 yX3_hasNode ∈ xW := xW_at 409 (by decide +kernel) rfl
theorem wm_171 : Cond.instanceMethod yX3_hasNode ∈ xW := xW_at 410 (by decide +kernel) rfl
theorem wm_172 : Cond.selects RX3 yX3_hasNode yX3_hasNode ∈ xW := xW_at 411 (by decide +kernel) rfl
theorem wm_173 : Cond.code yX9_isNode cX9_isNode 2 (some .boolean) ∈ xW := xW_at 1051 (by decide +kernel) rfl
theorem wm_174 : Cond.methodLink RX9 302 yX9_isNode ∈ xW := xW_at 1048 (by decide +kernel) rfl
theorem wm_175 : Cond.instanceMethod yX9_isNode ∈ xW := xW_at 1050 (by decide +kernel) rfl
theorem wm_176 : Cond.selects RX9 yX9_isNode yX9_isNode ∈ xW := xW_at 44 (by decide +kernel) rfl
theorem wm_177 : Cond.initialized RX9 ∈ xW := xW_at 102 (by decide +kernel) rfl
theorem wm_178 : Cond.fieldLink RX3 26 RX3 "made" "I" ∈ xW := xW_at 130 (by decide +kernel) rfl
theorem wm_179 : Cond.code yX3_hasArc cX3_hasArc 2 (some .boolean) ∈ xW := xW_at 439 (by decide +kernel) rfl
theorem wm_180 : Cond.methodLink RX8 110 yX3_hasArc ∈ xW := xW_at 436 (by decide +kernel) rfl
theorem wm_181 : Cond.instanceMethod yX3_hasArc ∈ xW := xW_at 437 (by decide +kernel) rfl
theorem wm_182 : Cond.selects RX3 yX3_hasArc yX3_hasArc ∈ xW := xW_at 438 (by decide +kernel) rfl
theorem wm_183 : Cond.fieldLink RX9 213 RX9 "made" "I" ∈ xW := xW_at 866 (by decide +kernel) rfl
theorem wm_184 : Cond.code yX9_isArc cX9_isArc 2 (some .boolean) ∈ xW := xW_at 1063 (by decide +kernel) rfl
theorem wm_185 : Cond.methodLink RX9 309 yX9_isArc ∈ xW := xW_at 1060 (by decide +kernel) rfl
theorem wm_186 : Cond.instanceMethod yX9_isArc ∈ xW := xW_at 1062 (by decide +kernel) rfl
theorem wm_187 : Cond.selects RX9 yX9_isArc yX9_isArc ∈ xW := xW_at 46 (by decide +kernel) rfl
theorem wm_188 : Cond.fieldLink RX3 29 RX3 "left" "I" ∈ xW := xW_at 133 (by decide +kernel) rfl
theorem wm_189 : Cond.code yJ7_fill_53178 cJ7_fill_53178 4 none ∈ xW := xW_at 423 (by decide +kernel) rfl
theorem wm_190 : Cond.methodLink RX3 36 yJ7_fill_53178 ∈ xW := xW_at 421 (by decide +kernel) rfl
theorem wm_191 : Cond.static yJ7_fill_53178 ∈ xW := xW_at 422 (by decide +kernel) rfl
theorem wm_192 : Cond.initialized RJ7 ∈ xW := xW_at 103 (by decide +kernel) rfl
theorem wm_193 : Cond.code yX3_findNeighbours cX3_findNeighbours 4 none ∈ xW := xW_at 420 (by decide +kernel) rfl
theorem wm_194 : Cond.methodLink RX3 32 yX3_findNeighbours ∈ xW := xW_at 417 (by decide +kernel) rfl
theorem wm_195 : Cond.instanceMethod yX3_findNeighbours ∈ xW := xW_at 418 (by decide +kernel) rfl
theorem wm_196 : Cond.selects RX3 yX3_findNeighbours yX3_findNeighbours ∈ xW := xW_at 419 (by decide +kernel) rfl
theorem wm_197 : Cond.code yX3_empty cX3_empty 1 none ∈ xW := xW_at 455 (by decide +kernel) rfl
theorem wm_198 : Cond.methodLink RX8 123 yX3_empty ∈ xW := xW_at 452 (by decide +kernel) rfl
theorem wm_199 : Cond.instanceMethod yX3_empty ∈ xW := xW_at 453 (by decide +kernel) rfl
theorem wm_200 : Cond.selects RX3 yX3_empty yX3_empty ∈ xW := xW_at 454 (by decide +kernel) rfl
theorem wm_201 : Cond.code yX7_empty cX7_empty 1 none ∈ xW := xW_at 459 (by decide +kernel) rfl
theorem wm_202 : Cond.methodLink RX8 126 yX7_empty ∈ xW := xW_at 456 (by decide +kernel) rfl
theorem wm_203 : Cond.instanceMethod yX7_empty ∈ xW := xW_at 457 (by decide +kernel) rfl
theorem wm_204 : Cond.selects RX7 yX7_empty yX7_empty ∈ xW := xW_at 458 (by decide +kernel) rfl
theorem wm_205 : Cond.code yX2_isOf cX2_isOf 4 (some .boolean) ∈ xW := xW_at 471 (by decide +kernel) rfl
theorem wm_206 : Cond.methodLink RX8 251 yX2_isOf ∈ xW := xW_at 468 (by decide +kernel) rfl
theorem wm_207 : Cond.instanceMethod yX2_isOf ∈ xW := xW_at 469 (by decide +kernel) rfl
theorem wm_208 : Cond.selects RX2 yX2_isOf yX2_isOf ∈ xW := xW_at 470 (by decide +kernel) rfl
theorem wm_209 : Cond.code yX5_accepts cX5_accepts 5 (some .boolean) ∈ xW := xW_at 475 (by decide +kernel) rfl
theorem wm_210 : Cond.methodLink RX8 134 yX5_accepts ∈ xW := xW_at 472 (by decide +kernel) rfl
theorem wm_211 : Cond.instanceMethod yX5_accepts ∈ xW := xW_at 473 (by decide +kernel) rfl
theorem wm_212 : Cond.selects RX5 yX5_accepts yX5_accepts ∈ xW := xW_at 474 (by decide +kernel) rfl
theorem wm_213 : Cond.fieldLink RX8 254 RX8 "plane" "Z" ∈ xW := xW_at 352 (by decide +kernel) rfl
theorem wm_214 : Cond.code yX8_isPlane cX8_isPlane 2 (some .boolean) ∈ xW := xW_at 467 (by decide +kernel) rfl
theorem wm_215 : Cond.methodLink RX8 127 yX8_isPlane ∈ xW := xW_at 464 (by decide +kernel) rfl
theorem wm_216 : Cond.instanceMethod yX8_isPlane ∈ xW := xW_at 466 (by decide +kernel) rfl
theorem wm_217 : Cond.selects RX8 yX8_isPlane yX8_isPlane ∈ xW := xW_at 1 (by decide +kernel) rfl
theorem wm_218 : Cond.fieldLink RX9 131 RX9 "gNodes" "I" ∈ xW := xW_at 874 (by decide +kernel) rfl
theorem wm_219 : Cond.code yX9_takeSimple cX9_takeSimple 4 none ∈ xW := xW_at 1091 (by decide +kernel) rfl
theorem wm_220 : Cond.methodLink RX9 220 yX9_takeSimple ∈ xW := xW_at 1088 (by decide +kernel) rfl
theorem wm_221 : Cond.instanceMethod yX9_takeSimple ∈ xW := xW_at 1090 (by decide +kernel) rfl
theorem wm_222 : Cond.selects RX9 yX9_takeSimple yX9_takeSimple ∈ xW := xW_at 51 (by decide +kernel) rfl
theorem wm_223 : Cond.fieldLink RX9 135 RX9 "edges" "I" ∈ xW := xW_at 878 (by decide +kernel) rfl
theorem wm_224 : Cond.code yX9_findBlocks cX9_findBlocks 7 none ∈ xW := xW_at 1099 (by decide +kernel) rfl
theorem wm_225 : Cond.methodLink RX9 149 yX9_findBlocks ∈ xW := xW_at 1096 (by decide +kernel) rfl
theorem wm_226 : Cond.instanceMethod yX9_findBlocks ∈ xW := xW_at 1098 (by decide +kernel) rfl
theorem wm_227 : Cond.selects RX9 yX9_findBlocks yX9_findBlocks ∈ xW := xW_at 53 (by decide +kernel) rfl
theorem wm_228 : Cond.code yX9_isPlane cX9_isPlane 5 (some .boolean) ∈ xW := xW_at 1095 (by decide +kernel) rfl
theorem wm_229 : Cond.methodLink RX9 224 yX9_isPlane ∈ xW := xW_at 1092 (by decide +kernel) rfl
theorem wm_230 : Cond.instanceMethod yX9_isPlane ∈ xW := xW_at 1094 (by decide +kernel) rfl
theorem wm_231 : Cond.selects RX9 yX9_isPlane yX9_isPlane ∈ xW := xW_at 52 (by decide +kernel) rfl
theorem wm_232 : Cond.fieldLink RX9 227 RX9 "plane" "Z" ∈ xW := xW_at 894 (by decide +kernel) rfl
theorem wm_233 : Cond.code yX9_takeFilled cX9_takeFilled 2 none ∈ xW := xW_at 1163 (by decide +kernel) rfl
theorem wm_234 : Cond.methodLink RX9 245 yX9_takeFilled ∈ xW := xW_at 1160 (by decide +kernel) rfl
theorem wm_235 : Cond.instanceMethod yX9_takeFilled ∈ xW := xW_at 1162 (by decide +kernel) rfl
theorem wm_236 : Cond.selects RX9 yX9_takeFilled yX9_takeFilled ∈ xW := xW_at 69 (by decide +kernel) rfl
theorem wm_237 : Cond.code yX9_fill cX9_fill 3 none ∈ xW := xW_at 1159 (by decide +kernel) rfl
theorem wm_238 : Cond.methodLink RX9 230 yX9_fill ∈ xW := xW_at 1156 (by decide +kernel) rfl
theorem wm_239 : Cond.instanceMethod yX9_fill ∈ xW := xW_at 1158 (by decide +kernel) rfl
theorem wm_240 : Cond.selects RX9 yX9_fill yX9_fill ∈ xW := xW_at 68 (by decide +kernel) rfl
theorem wm_241 : Cond.code yX9_findRounds cX9_findRounds 7 none ∈ xW := xW_at 1167 (by decide +kernel) rfl
theorem wm_242 : Cond.methodLink RX9 233 yX9_findRounds ∈ xW := xW_at 1164 (by decide +kernel) rfl
theorem wm_243 : Cond.instanceMethod yX9_findRounds ∈ xW := xW_at 1166 (by decide +kernel) rfl
theorem wm_244 : Cond.selects RX9 yX9_findRounds yX9_findRounds ∈ xW := xW_at 70 (by decide +kernel) rfl
theorem wm_245 : Cond.code yX9_findTurns cX9_findTurns 7 none ∈ xW := xW_at 1178 (by decide +kernel) rfl
theorem wm_246 : Cond.methodLink RX9 236 yX9_findTurns ∈ xW := xW_at 1175 (by decide +kernel) rfl
theorem wm_247 : Cond.instanceMethod yX9_findTurns ∈ xW := xW_at 1177 (by decide +kernel) rfl
theorem wm_248 : Cond.selects RX9 yX9_findTurns yX9_findTurns ∈ xW := xW_at 72 (by decide +kernel) rfl
theorem wm_249 : Cond.code yX9_findDrawing cX9_findDrawing 4 none ∈ xW := xW_at 1182 (by decide +kernel) rfl
theorem wm_250 : Cond.methodLink RX9 239 yX9_findDrawing ∈ xW := xW_at 1179 (by decide +kernel) rfl
theorem wm_251 : Cond.instanceMethod yX9_findDrawing ∈ xW := xW_at 1181 (by decide +kernel) rfl
theorem wm_252 : Cond.selects RX9 yX9_findDrawing yX9_findDrawing ∈ xW := xW_at 73 (by decide +kernel) rfl
theorem wm_253 : Cond.code yX9_know cX9_know 2 none ∈ xW := xW_at 1087 (by decide +kernel) rfl
theorem wm_254 : Cond.methodLink RX9 299 yX9_know ∈ xW := xW_at 1084 (by decide +kernel) rfl
theorem wm_255 : Cond.instanceMethod yX9_know ∈ xW := xW_at 1086 (by decide +kernel) rfl
theorem wm_256 : Cond.selects RX9 yX9_know yX9_know ∈ xW := xW_at 50 (by decide +kernel) rfl
theorem wm_257 : Cond.code yX9_isPlaneNow cX9_isPlaneNow 1 (some .boolean) ∈ xW := xW_at 1083 (by decide +kernel) rfl
theorem wm_258 : Cond.methodLink RX9 318 yX9_isPlaneNow ∈ xW := xW_at 1080 (by decide +kernel) rfl
theorem wm_259 : Cond.instanceMethod yX9_isPlaneNow ∈ xW := xW_at 1082 (by decide +kernel) rfl
theorem wm_260 : Cond.selects RX9 yX9_isPlaneNow yX9_isPlaneNow ∈ xW := xW_at 49 (by decide +kernel) rfl
theorem wm_261 : Cond.methodLink RX2 22 arraycopyName ∈ xW := xW_at 546 (by decide +kernel) rfl
theorem wm_262 : Cond.native arraycopyName ∈ xW := xW_at 548 (by decide +kernel) rfl
theorem wm_263 : Cond.static arraycopyName ∈ xW := xW_at 547 (by decide +kernel) rfl
theorem wm_264 : Cond.initialized RJ10 ∈ xW := xW_at 105 (by decide +kernel) rfl
theorem wm_265 : Cond.code yX2_fill cX2_fill 8 none ∈ xW := xW_at 545 (by decide +kernel) rfl
theorem wm_266 : Cond.methodLink RX8 257 yX2_fill ∈ xW := xW_at 542 (by decide +kernel) rfl
theorem wm_267 : Cond.instanceMethod yX2_fill ∈ xW := xW_at 543 (by decide +kernel) rfl
theorem wm_268 : Cond.selects RX2 yX2_fill yX2_fill ∈ xW := xW_at 544 (by decide +kernel) rfl
theorem wm_269 : Cond.methodLink RX6 35 yJ7_fill_53178 ∈ xW := xW_at 562 (by decide +kernel) rfl
theorem wm_270 : Cond.code yX6_findFaces cX6_findFaces 6 none ∈ xW := xW_at 561 (by decide +kernel) rfl
theorem wm_271 : Cond.methodLink RX8 261 yX6_findFaces ∈ xW := xW_at 558 (by decide +kernel) rfl
theorem wm_272 : Cond.instanceMethod yX6_findFaces ∈ xW := xW_at 559 (by decide +kernel) rfl
theorem wm_273 : Cond.selects RX6 yX6_findFaces yX6_findFaces ∈ xW := xW_at 560 (by decide +kernel) rfl
theorem wm_274 : Cond.code yX6_layRising cX6_layRising 5 none ∈ xW := xW_at 584 (by decide +kernel) rfl
theorem wm_275 : Cond.methodLink RX6 57 yX6_layRising ∈ xW := xW_at 581 (by decide +kernel) rfl
theorem wm_276 : Cond.instanceMethod yX6_layRising ∈ xW := xW_at 583 (by decide +kernel) rfl
theorem wm_277 : Cond.selects RX6 yX6_layRising yX6_layRising ∈ xW := xW_at 14 (by decide +kernel) rfl
theorem wm_278 : Cond.code yX6_lay cX6_lay 1 none ∈ xW := xW_at 580 (by decide +kernel) rfl
theorem wm_279 : Cond.methodLink RX8 264 yX6_lay ∈ xW := xW_at 577 (by decide +kernel) rfl
theorem wm_280 : Cond.instanceMethod yX6_lay ∈ xW := xW_at 578 (by decide +kernel) rfl
theorem wm_281 : Cond.selects RX6 yX6_lay yX6_lay ∈ xW := xW_at 579 (by decide +kernel) rfl
theorem wm_282 : Cond.code yX8_makeFilled cX8_makeFilled 1 none ∈ xW := xW_at 541 (by decide +kernel) rfl
theorem wm_283 : Cond.methodLink RX8 141 yX8_makeFilled ∈ xW := xW_at 538 (by decide +kernel) rfl
theorem wm_284 : Cond.instanceMethod yX8_makeFilled ∈ xW := xW_at 540 (by decide +kernel) rfl
theorem wm_285 : Cond.selects RX8 yX8_makeFilled yX8_makeFilled ∈ xW := xW_at 10 (by decide +kernel) rfl
theorem wm_286 : Cond.methodLink RX1 29 yJ7_fill_53178 ∈ xW := xW_at 640 (by decide +kernel) rfl
theorem wm_287 : Cond.code yX1_findBehind cX1_findBehind 5 none ∈ xW := xW_at 639 (by decide +kernel) rfl
theorem wm_288 : Cond.methodLink RX1 25 yX1_findBehind ∈ xW := xW_at 636 (by decide +kernel) rfl
theorem wm_289 : Cond.instanceMethod yX1_findBehind ∈ xW := xW_at 638 (by decide +kernel) rfl
theorem wm_290 : Cond.selects RX1 yX1_findBehind yX1_findBehind ∈ xW := xW_at 24 (by decide +kernel) rfl
theorem wm_291 : Cond.methodLink RX1 35 yX7_empty ∈ xW := xW_at 646 (by decide +kernel) rfl
theorem wm_292 : Cond.code yX1_trace cX1_trace 3 none ∈ xW := xW_at 635 (by decide +kernel) rfl
theorem wm_293 : Cond.methodLink RX8 175 yX1_trace ∈ xW := xW_at 632 (by decide +kernel) rfl
theorem wm_294 : Cond.instanceMethod yX1_trace ∈ xW := xW_at 633 (by decide +kernel) rfl
theorem wm_295 : Cond.selects RX1 yX1_trace yX1_trace ∈ xW := xW_at 634 (by decide +kernel) rfl
theorem wm_296 : Cond.code yX8_makeTurns cX8_makeTurns 2 none ∈ xW := xW_at 613 (by decide +kernel) rfl
theorem wm_297 : Cond.methodLink RX8 144 yX8_makeTurns ∈ xW := xW_at 610 (by decide +kernel) rfl
theorem wm_298 : Cond.instanceMethod yX8_makeTurns ∈ xW := xW_at 612 (by decide +kernel) rfl
theorem wm_299 : Cond.selects RX8 yX8_makeTurns yX8_makeTurns ∈ xW := xW_at 20 (by decide +kernel) rfl
theorem wm_300 : Cond.fieldLink RX9 293 RX9 "rounds" "I" ∈ xW := xW_at 921 (by decide +kernel) rfl
theorem wm_301 : Cond.code yX9_trace cX9_trace 5 none ∈ xW := xW_at 1231 (by decide +kernel) rfl
theorem wm_302 : Cond.methodLink RX9 321 yX9_trace ∈ xW := xW_at 1228 (by decide +kernel) rfl
theorem wm_303 : Cond.instanceMethod yX9_trace ∈ xW := xW_at 1230 (by decide +kernel) rfl
theorem wm_304 : Cond.selects RX9 yX9_trace yX9_trace ∈ xW := xW_at 81 (by decide +kernel) rfl
theorem wm_305 : Cond.code yX9_bare cX9_bare 3 (some .int) ∈ xW := xW_at 1243 (by decide +kernel) rfl
theorem wm_306 : Cond.methodLink RX9 324 yX9_bare ∈ xW := xW_at 1240 (by decide +kernel) rfl
theorem wm_307 : Cond.instanceMethod yX9_bare ∈ xW := xW_at 1242 (by decide +kernel) rfl
theorem wm_308 : Cond.selects RX9 yX9_bare yX9_bare ∈ xW := xW_at 84 (by decide +kernel) rfl
theorem wm_309 : Cond.code yX7_has cX7_has 3 (some .boolean) ∈ xW := xW_at 656 (by decide +kernel) rfl
theorem wm_310 : Cond.methodLink RX8 147 yX7_has ∈ xW := xW_at 653 (by decide +kernel) rfl
theorem wm_311 : Cond.instanceMethod yX7_has ∈ xW := xW_at 654 (by decide +kernel) rfl
theorem wm_312 : Cond.selects RX7 yX7_has yX7_has ∈ xW := xW_at 655 (by decide +kernel) rfl
theorem wm_313 : Cond.code yX8_hasDual cX8_hasDual 1 (some .boolean) ∈ xW := xW_at 682 (by decide +kernel) rfl
theorem wm_314 : Cond.methodLink RX8 169 yX8_hasDual ∈ xW := xW_at 679 (by decide +kernel) rfl
theorem wm_315 : Cond.instanceMethod yX8_hasDual ∈ xW := xW_at 681 (by decide +kernel) rfl
theorem wm_316 : Cond.selects RX8 yX8_hasDual yX8_hasDual ∈ xW := xW_at 26 (by decide +kernel) rfl
theorem wm_317 : Cond.code yX9_arcs cX9_arcs 3 (some .int) ∈ xW := xW_at 1071 (by decide +kernel) rfl
theorem wm_318 : Cond.methodLink RX9 315 yX9_arcs ∈ xW := xW_at 1068 (by decide +kernel) rfl
theorem wm_319 : Cond.instanceMethod yX9_arcs ∈ xW := xW_at 1070 (by decide +kernel) rfl
theorem wm_320 : Cond.selects RX9 yX9_arcs yX9_arcs ∈ xW := xW_at 48 (by decide +kernel) rfl
theorem wm_321 : Cond.code yX9_hasDual cX9_hasDual 1 (some .boolean) ∈ xW := xW_at 1259 (by decide +kernel) rfl
theorem wm_322 : Cond.methodLink RX9 330 yX9_hasDual ∈ xW := xW_at 1256 (by decide +kernel) rfl
theorem wm_323 : Cond.instanceMethod yX9_hasDual ∈ xW := xW_at 1258 (by decide +kernel) rfl
theorem wm_324 : Cond.selects RX9 yX9_hasDual yX9_hasDual ∈ xW := xW_at 85 (by decide +kernel) rfl
theorem wm_325 : Cond.methodLink RX0 47 yJ7_fill_53178 ∈ xW := xW_at 708 (by decide +kernel) rfl
theorem wm_326 : Cond.code yX0_lay cX0_lay 1 none ∈ xW := xW_at 707 (by decide +kernel) rfl
theorem wm_327 : Cond.methodLink RX8 290 yX0_lay ∈ xW := xW_at 704 (by decide +kernel) rfl
theorem wm_328 : Cond.instanceMethod yX0_lay ∈ xW := xW_at 705 (by decide +kernel) rfl
theorem wm_329 : Cond.selects RX0 yX0_lay yX0_lay ∈ xW := xW_at 706 (by decide +kernel) rfl
theorem wm_330 : Cond.code yX8_makeDrawing cX8_makeDrawing 1 none ∈ xW := xW_at 703 (by decide +kernel) rfl
theorem wm_331 : Cond.methodLink RX8 183 yX8_makeDrawing ∈ xW := xW_at 700 (by decide +kernel) rfl
theorem wm_332 : Cond.instanceMethod yX8_makeDrawing ∈ xW := xW_at 702 (by decide +kernel) rfl
theorem wm_333 : Cond.selects RX8 yX8_makeDrawing yX8_makeDrawing ∈ xW := xW_at 29 (by decide +kernel) rfl
theorem wm_334 : Cond.methodLink RX7 26 arraycopyName ∈ xW := xW_at 850 (by decide +kernel) rfl
theorem wm_335 : Cond.code yX7_copy cX7_copy 2 none ∈ xW := xW_at 849 (by decide +kernel) rfl
theorem wm_336 : Cond.methodLink RX8 229 yX7_copy ∈ xW := xW_at 846 (by decide +kernel) rfl
theorem wm_337 : Cond.instanceMethod yX7_copy ∈ xW := xW_at 847 (by decide +kernel) rfl
theorem wm_338 : Cond.selects RX7 yX7_copy yX7_copy ∈ xW := xW_at 848 (by decide +kernel) rfl
theorem wm_339 : Cond.code yX8_countParts cX8_countParts 5 (some .int) ∈ xW := xW_at 686 (by decide +kernel) rfl
theorem wm_340 : Cond.methodLink RX8 232 yX8_countParts ∈ xW := xW_at 683 (by decide +kernel) rfl
theorem wm_341 : Cond.instanceMethod yX8_countParts ∈ xW := xW_at 685 (by decide +kernel) rfl
theorem wm_342 : Cond.selects RX8 yX8_countParts yX8_countParts ∈ xW := xW_at 27 (by decide +kernel) rfl
theorem wm_343 : Cond.code yX9_parts cX9_parts 4 (some .int) ∈ xW := xW_at 1263 (by decide +kernel) rfl
theorem wm_344 : Cond.methodLink RX9 327 yX9_parts ∈ xW := xW_at 1260 (by decide +kernel) rfl
theorem wm_345 : Cond.instanceMethod yX9_parts ∈ xW := xW_at 1262 (by decide +kernel) rfl
theorem wm_346 : Cond.selects RX9 yX9_parts yX9_parts ∈ xW := xW_at 86 (by decide +kernel) rfl
theorem dX0_lay_0 : decode cX0_lay 0 = .ok (.aload_n 0, 1) := by decide +kernel
theorem dX0_lay_1 : decode cX0_lay 1 = .ok (.getfield 9, 3) := by decide +kernel
theorem dX0_lay_4 : decode cX0_lay 4 = .ok (.iconst 0, 1) := by decide +kernel
theorem dX0_lay_5 : decode cX0_lay 5 = .ok (.invokestatic 47, 3) := by decide +kernel
theorem dX0_lay_8 : decode cX0_lay 8 = .ok (.aload_n 0, 1) := by decide +kernel
theorem dX0_lay_9 : decode cX0_lay 9 = .ok (.getfield 15, 3) := by decide +kernel
theorem dX0_lay_12 : decode cX0_lay 12 = .ok (.iconst 0, 1) := by decide +kernel
theorem dX0_lay_13 : decode cX0_lay 13 = .ok (.invokestatic 47, 3) := by decide +kernel
theorem dX0_lay_16 : decode cX0_lay 16 = .ok (.aload_n 0, 1) := by decide +kernel
theorem dX0_lay_17 : decode cX0_lay 17 = .ok (.getfield 39, 3) := by decide +kernel
theorem dX0_lay_20 : decode cX0_lay 20 = .ok (.getfield 53, 3) := by decide +kernel
theorem dX0_lay_23 : decode cX0_lay 23 = .ok (.iconst 2, 1) := by decide +kernel
theorem dX0_lay_24 : decode cX0_lay 24 = .ok (.if_icmp .ne 10, 3) := by decide +kernel
theorem dX0_lay_34 : decode cX0_lay 34 = .ok (.aload_n 0, 1) := by decide +kernel
theorem dX0_lay_35 : decode cX0_lay 35 = .ok (.getfield 39, 3) := by decide +kernel
theorem dX0_lay_38 : decode cX0_lay 38 = .ok (.getfield 53, 3) := by decide +kernel
theorem dX0_lay_41 : decode cX0_lay 41 = .ok (.iconst 3, 1) := by decide +kernel
theorem dX0_lay_42 : decode cX0_lay 42 = .ok (.if_icmp .lt 18, 3) := by decide +kernel
theorem dX0_lay_60 : decode cX0_lay 60 = .ok (.return_, 1) := by decide +kernel
theorem dX1_findBehind_0 : decode cX1_findBehind 0 = .ok (.aload_n 0, 1) := by decide +kernel
theorem dX1_findBehind_1 : decode cX1_findBehind 1 = .ok (.getfield 22, 3) := by decide +kernel
theorem dX1_findBehind_4 : decode cX1_findBehind 4 = .ok (.iconst (-1), 1) := by decide +kernel
theorem dX1_findBehind_5 : decode cX1_findBehind 5 = .ok (.invokestatic 29, 3) := by decide +kernel
theorem dX1_findBehind_8 : decode cX1_findBehind 8 = .ok (.iconst 0, 1) := by decide +kernel
theorem dX1_findBehind_9 : decode cX1_findBehind 9 = .ok (.istore_n 2, 1) := by decide +kernel
theorem dX1_findBehind_10 : decode cX1_findBehind 10 = .ok (.iload_n 2, 1) := by decide +kernel
theorem dX1_findBehind_11 : decode cX1_findBehind 11 = .ok (.aload_n 1, 1) := by decide +kernel
theorem dX1_findBehind_12 : decode cX1_findBehind 12 = .ok (.getfield 42, 3) := by decide +kernel
theorem dX1_findBehind_15 : decode cX1_findBehind 15 = .ok (.if_icmp .ge 63, 3) := by decide +kernel
theorem dX1_findBehind_78 : decode cX1_findBehind 78 = .ok (.return_, 1) := by decide +kernel
theorem dX1_trace_0 : decode cX1_trace 0 = .ok (.aload_n 0, 1) := by decide +kernel
theorem dX1_trace_1 : decode cX1_trace 1 = .ok (.aload_n 1, 1) := by decide +kernel
theorem dX1_trace_2 : decode cX1_trace 2 = .ok (.invokevirtual 25, 3) := by decide +kernel
theorem dX1_trace_5 : decode cX1_trace 5 = .ok (.aload_n 0, 1) := by decide +kernel
theorem dX1_trace_6 : decode cX1_trace 6 = .ok (.getfield 18, 3) := by decide +kernel
theorem dX1_trace_9 : decode cX1_trace 9 = .ok (.iconst (-1), 1) := by decide +kernel
theorem dX1_trace_10 : decode cX1_trace 10 = .ok (.invokestatic 29, 3) := by decide +kernel
theorem dX1_trace_13 : decode cX1_trace 13 = .ok (.aload_n 0, 1) := by decide +kernel
theorem dX1_trace_14 : decode cX1_trace 14 = .ok (.getfield 12, 3) := by decide +kernel
theorem dX1_trace_17 : decode cX1_trace 17 = .ok (.invokevirtual 35, 3) := by decide +kernel
theorem dX1_trace_20 : decode cX1_trace 20 = .ok (.iconst 0, 1) := by decide +kernel
theorem dX1_trace_21 : decode cX1_trace 21 = .ok (.istore_n 2, 1) := by decide +kernel
theorem dX1_trace_22 : decode cX1_trace 22 = .ok (.iload_n 2, 1) := by decide +kernel
theorem dX1_trace_23 : decode cX1_trace 23 = .ok (.sipush 160, 3) := by decide +kernel
theorem dX1_trace_26 : decode cX1_trace 26 = .ok (.if_icmp .ge 32, 3) := by decide +kernel
theorem dX1_trace_29 : decode cX1_trace 29 = .ok (.aload_n 0, 1) := by decide +kernel
theorem dX1_trace_30 : decode cX1_trace 30 = .ok (.getfield 22, 3) := by decide +kernel
theorem dX1_trace_33 : decode cX1_trace 33 = .ok (.iload_n 2, 1) := by decide +kernel
theorem dX1_trace_34 : decode cX1_trace 34 = .ok (.iaload, 1) := by decide +kernel
theorem dX1_trace_35 : decode cX1_trace 35 = .ok (.ifCond .lt 17, 3) := by decide +kernel
theorem dX1_trace_52 : decode cX1_trace 52 = .ok (.iinc 2 1, 3) := by decide +kernel
theorem dX1_trace_55 : decode cX1_trace 55 = .ok (.goto (-33), 3) := by decide +kernel
theorem dX1_trace_58 : decode cX1_trace 58 = .ok (.iconst 0, 1) := by decide +kernel
theorem dX1_trace_59 : decode cX1_trace 59 = .ok (.istore_n 2, 1) := by decide +kernel
theorem dX1_trace_60 : decode cX1_trace 60 = .ok (.iload_n 2, 1) := by decide +kernel
theorem dX1_trace_61 : decode cX1_trace 61 = .ok (.aload_n 1, 1) := by decide +kernel
theorem dX1_trace_62 : decode cX1_trace 62 = .ok (.getfield 42, 3) := by decide +kernel
theorem dX1_trace_65 : decode cX1_trace 65 = .ok (.if_icmp .ge 24, 3) := by decide +kernel
theorem dX1_trace_89 : decode cX1_trace 89 = .ok (.return_, 1) := by decide +kernel
theorem dX2_fill_0 : decode cX2_fill 0 = .ok (.aload_n 0, 1) := by decide +kernel
theorem dX2_fill_1 : decode cX2_fill 1 = .ok (.iload_n 2, 1) := by decide +kernel
theorem dX2_fill_2 : decode cX2_fill 2 = .ok (.putfield 18, 3) := by decide +kernel
theorem dX2_fill_5 : decode cX2_fill 5 = .ok (.aload_n 1, 1) := by decide +kernel
theorem dX2_fill_6 : decode cX2_fill 6 = .ok (.iconst 0, 1) := by decide +kernel
theorem dX2_fill_7 : decode cX2_fill 7 = .ok (.aload_n 0, 1) := by decide +kernel
theorem dX2_fill_8 : decode cX2_fill 8 = .ok (.getfield 9, 3) := by decide +kernel
theorem dX2_fill_11 : decode cX2_fill 11 = .ok (.iconst 0, 1) := by decide +kernel
theorem dX2_fill_12 : decode cX2_fill 12 = .ok (.iload_n 2, 1) := by decide +kernel
theorem dX2_fill_13 : decode cX2_fill 13 = .ok (.invokestatic 22, 3) := by decide +kernel
theorem dX2_fill_16 : decode cX2_fill 16 = .ok (.aload_n 1, 1) := by decide +kernel
theorem dX2_fill_17 : decode cX2_fill 17 = .ok (.iconst 0, 1) := by decide +kernel
theorem dX2_fill_18 : decode cX2_fill 18 = .ok (.aload_n 0, 1) := by decide +kernel
theorem dX2_fill_19 : decode cX2_fill 19 = .ok (.getfield 15, 3) := by decide +kernel
theorem dX2_fill_22 : decode cX2_fill 22 = .ok (.iconst 0, 1) := by decide +kernel
theorem dX2_fill_23 : decode cX2_fill 23 = .ok (.iload_n 2, 1) := by decide +kernel
theorem dX2_fill_24 : decode cX2_fill 24 = .ok (.invokestatic 22, 3) := by decide +kernel
theorem dX2_fill_27 : decode cX2_fill 27 = .ok (.iconst 0, 1) := by decide +kernel
theorem dX2_fill_28 : decode cX2_fill 28 = .ok (.istore 4, 2) := by decide +kernel
theorem dX2_fill_30 : decode cX2_fill 30 = .ok (.iconst 0, 1) := by decide +kernel
theorem dX2_fill_31 : decode cX2_fill 31 = .ok (.istore 5, 2) := by decide +kernel
theorem dX2_fill_33 : decode cX2_fill 33 = .ok (.iload 5, 2) := by decide +kernel
theorem dX2_fill_35 : decode cX2_fill 35 = .ok (.iload_n 2, 1) := by decide +kernel
theorem dX2_fill_36 : decode cX2_fill 36 = .ok (.if_icmp .ge 24, 3) := by decide +kernel
theorem dX2_fill_60 : decode cX2_fill 60 = .ok (.iload_n 2, 1) := by decide +kernel
theorem dX2_fill_61 : decode cX2_fill 61 = .ok (.iconst 3, 1) := by decide +kernel
theorem dX2_fill_62 : decode cX2_fill 62 = .ok (.if_icmp .ge 13, 3) := by decide +kernel
theorem dX2_fill_65 : decode cX2_fill 65 = .ok (.iload_n 2, 1) := by decide +kernel
theorem dX2_fill_66 : decode cX2_fill 66 = .ok (.iload_n 2, 1) := by decide +kernel
theorem dX2_fill_67 : decode cX2_fill 67 = .ok (.iconst 1, 1) := by decide +kernel
theorem dX2_fill_68 : decode cX2_fill 68 = .ok (.isub, 1) := by decide +kernel
theorem dX2_fill_69 : decode cX2_fill 69 = .ok (.imul, 1) := by decide +kernel
theorem dX2_fill_70 : decode cX2_fill 70 = .ok (.iconst 2, 1) := by decide +kernel
theorem dX2_fill_71 : decode cX2_fill 71 = .ok (.idiv, 1) := by decide +kernel
theorem dX2_fill_72 : decode cX2_fill 72 = .ok (.goto 9, 3) := by decide +kernel
theorem dX2_fill_81 : decode cX2_fill 81 = .ok (.iload 4, 2) := by decide +kernel
theorem dX2_fill_83 : decode cX2_fill 83 = .ok (.iconst 2, 1) := by decide +kernel
theorem dX2_fill_84 : decode cX2_fill 84 = .ok (.idiv, 1) := by decide +kernel
theorem dX2_fill_85 : decode cX2_fill 85 = .ok (.isub, 1) := by decide +kernel
theorem dX2_fill_86 : decode cX2_fill 86 = .ok (.istore 5, 2) := by decide +kernel
theorem dX2_fill_88 : decode cX2_fill 88 = .ok (.iconst 0, 1) := by decide +kernel
theorem dX2_fill_89 : decode cX2_fill 89 = .ok (.istore 6, 2) := by decide +kernel
theorem dX2_fill_91 : decode cX2_fill 91 = .ok (.iload 6, 2) := by decide +kernel
theorem dX2_fill_93 : decode cX2_fill 93 = .ok (.iload_n 2, 1) := by decide +kernel
theorem dX2_fill_94 : decode cX2_fill 94 = .ok (.if_icmp .ge 84, 3) := by decide +kernel
theorem dX2_fill_178 : decode cX2_fill 178 = .ok (.return_, 1) := by decide +kernel
theorem dX2_isOf_0 : decode cX2_isOf 0 = .ok (.iload_n 2, 1) := by decide +kernel
theorem dX2_isOf_1 : decode cX2_isOf 1 = .ok (.aload_n 0, 1) := by decide +kernel
theorem dX2_isOf_2 : decode cX2_isOf 2 = .ok (.getfield 18, 3) := by decide +kernel
theorem dX2_isOf_5 : decode cX2_isOf 5 = .ok (.if_icmp .eq 5, 3) := by decide +kernel
theorem dX2_isOf_8 : decode cX2_isOf 8 = .ok (.iconst 0, 1) := by decide +kernel
theorem dX2_isOf_9 : decode cX2_isOf 9 = .ok (.ireturn, 1) := by decide +kernel
theorem dX3_addNode_0 : decode cX3_addNode 0 = .ok (.aload_n 0, 1) := by decide +kernel
theorem dX3_addNode_1 : decode cX3_addNode 1 = .ok (.dup, 1) := by decide +kernel
theorem dX3_addNode_2 : decode cX3_addNode 2 = .ok (.getfield 22, 3) := by decide +kernel
theorem dX3_addNode_5 : decode cX3_addNode 5 = .ok (.iconst 1, 1) := by decide +kernel
theorem dX3_addNode_6 : decode cX3_addNode 6 = .ok (.iadd, 1) := by decide +kernel
theorem dX3_addNode_7 : decode cX3_addNode 7 = .ok (.putfield 22, 3) := by decide +kernel
theorem dX3_addNode_10 : decode cX3_addNode 10 = .ok (.aload_n 0, 1) := by decide +kernel
theorem dX3_addNode_11 : decode cX3_addNode 11 = .ok (.getfield 22, 3) := by decide +kernel
theorem dX3_addNode_14 : decode cX3_addNode 14 = .ok (.iconst 1, 1) := by decide +kernel
theorem dX3_addNode_15 : decode cX3_addNode 15 = .ok (.isub, 1) := by decide +kernel
theorem dX3_addNode_16 : decode cX3_addNode 16 = .ok (.ireturn, 1) := by decide +kernel
theorem dX3_empty_0 : decode cX3_empty 0 = .ok (.aload_n 0, 1) := by decide +kernel
theorem dX3_empty_1 : decode cX3_empty 1 = .ok (.iconst 0, 1) := by decide +kernel
theorem dX3_empty_2 : decode cX3_empty 2 = .ok (.putfield 22, 3) := by decide +kernel
theorem dX3_empty_5 : decode cX3_empty 5 = .ok (.aload_n 0, 1) := by decide +kernel
theorem dX3_empty_6 : decode cX3_empty 6 = .ok (.iconst 0, 1) := by decide +kernel
theorem dX3_empty_7 : decode cX3_empty 7 = .ok (.putfield 26, 3) := by decide +kernel
theorem dX3_empty_10 : decode cX3_empty 10 = .ok (.aload_n 0, 1) := by decide +kernel
theorem dX3_empty_11 : decode cX3_empty 11 = .ok (.iconst 0, 1) := by decide +kernel
theorem dX3_empty_12 : decode cX3_empty 12 = .ok (.putfield 29, 3) := by decide +kernel
theorem dX3_empty_15 : decode cX3_empty 15 = .ok (.aload_n 0, 1) := by decide +kernel
theorem dX3_empty_16 : decode cX3_empty 16 = .ok (.aload_n 0, 1) := by decide +kernel
theorem dX3_empty_17 : decode cX3_empty 17 = .ok (.getfield 15, 3) := by decide +kernel
theorem dX3_empty_20 : decode cX3_empty 20 = .ok (.aload_n 0, 1) := by decide +kernel
theorem dX3_empty_21 : decode cX3_empty 21 = .ok (.getfield 19, 3) := by decide +kernel
theorem dX3_empty_24 : decode cX3_empty 24 = .ok (.invokevirtual 32, 3) := by decide +kernel
theorem dX3_empty_27 : decode cX3_empty 27 = .ok (.return_, 1) := by decide +kernel
theorem dX3_findNeighbours_0 : decode cX3_findNeighbours 0 = .ok (.aload_n 2, 1) := by decide +kernel
theorem dX3_findNeighbours_1 : decode cX3_findNeighbours 1 = .ok (.iconst 0, 1) := by decide +kernel
theorem dX3_findNeighbours_2 : decode cX3_findNeighbours 2 = .ok (.invokestatic 36, 3) := by decide +kernel
theorem dX3_findNeighbours_5 : decode cX3_findNeighbours 5 = .ok (.iconst 0, 1) := by decide +kernel
theorem dX3_findNeighbours_6 : decode cX3_findNeighbours 6 = .ok (.istore_n 3, 1) := by decide +kernel
theorem dX3_findNeighbours_7 : decode cX3_findNeighbours 7 = .ok (.iload_n 3, 1) := by decide +kernel
theorem dX3_findNeighbours_8 : decode cX3_findNeighbours 8 = .ok (.aload_n 0, 1) := by decide +kernel
theorem dX3_findNeighbours_9 : decode cX3_findNeighbours 9 = .ok (.getfield 26, 3) := by decide +kernel
theorem dX3_findNeighbours_12 : decode cX3_findNeighbours 12 = .ok (.if_icmp .ge 73, 3) := by decide +kernel
theorem dX3_findNeighbours_85 : decode cX3_findNeighbours 85 = .ok (.return_, 1) := by decide +kernel
theorem dX3_hasArc_0 : decode cX3_hasArc 0 = .ok (.iload_n 1, 1) := by decide +kernel
theorem dX3_hasArc_1 : decode cX3_hasArc 1 = .ok (.ifCond .lt 24, 3) := by decide +kernel
theorem dX3_hasArc_4 : decode cX3_hasArc 4 = .ok (.iload_n 1, 1) := by decide +kernel
theorem dX3_hasArc_5 : decode cX3_hasArc 5 = .ok (.aload_n 0, 1) := by decide +kernel
theorem dX3_hasArc_6 : decode cX3_hasArc 6 = .ok (.getfield 26, 3) := by decide +kernel
theorem dX3_hasArc_9 : decode cX3_hasArc 9 = .ok (.if_icmp .ge 16, 3) := by decide +kernel
theorem dX3_hasArc_25 : decode cX3_hasArc 25 = .ok (.iconst 0, 1) := by decide +kernel
theorem dX3_hasArc_26 : decode cX3_hasArc 26 = .ok (.ireturn, 1) := by decide +kernel
theorem dX3_hasNode_0 : decode cX3_hasNode 0 = .ok (.iload_n 1, 1) := by decide +kernel
theorem dX3_hasNode_1 : decode cX3_hasNode 1 = .ok (.ifCond .lt 15, 3) := by decide +kernel
theorem dX3_hasNode_4 : decode cX3_hasNode 4 = .ok (.iload_n 1, 1) := by decide +kernel
theorem dX3_hasNode_5 : decode cX3_hasNode 5 = .ok (.aload_n 0, 1) := by decide +kernel
theorem dX3_hasNode_6 : decode cX3_hasNode 6 = .ok (.getfield 22, 3) := by decide +kernel
theorem dX3_hasNode_9 : decode cX3_hasNode 9 = .ok (.if_icmp .ge 7, 3) := by decide +kernel
theorem dX3_hasNode_16 : decode cX3_hasNode 16 = .ok (.iconst 0, 1) := by decide +kernel
theorem dX3_hasNode_17 : decode cX3_hasNode 17 = .ok (.ireturn, 1) := by decide +kernel
theorem dX5_accepts_0 : decode cX5_accepts 0 = .ok (.iload_n 2, 1) := by decide +kernel
theorem dX5_accepts_1 : decode cX5_accepts 1 = .ok (.iconst 3, 1) := by decide +kernel
theorem dX5_accepts_2 : decode cX5_accepts 2 = .ok (.if_icmp .ge 5, 3) := by decide +kernel
theorem dX5_accepts_5 : decode cX5_accepts 5 = .ok (.iconst 1, 1) := by decide +kernel
theorem dX5_accepts_6 : decode cX5_accepts 6 = .ok (.ireturn, 1) := by decide +kernel
theorem dX6_findFaces_0 : decode cX6_findFaces 0 = .ok (.aload_n 0, 1) := by decide +kernel
theorem dX6_findFaces_1 : decode cX6_findFaces 1 = .ok (.getfield 9, 3) := by decide +kernel
theorem dX6_findFaces_4 : decode cX6_findFaces 4 = .ok (.iconst 0, 1) := by decide +kernel
theorem dX6_findFaces_5 : decode cX6_findFaces 5 = .ok (.invokestatic 35, 3) := by decide +kernel
theorem dX6_findFaces_8 : decode cX6_findFaces 8 = .ok (.aload_n 0, 1) := by decide +kernel
theorem dX6_findFaces_9 : decode cX6_findFaces 9 = .ok (.getfield 18, 3) := by decide +kernel
theorem dX6_findFaces_12 : decode cX6_findFaces 12 = .ok (.getfield 22, 3) := by decide +kernel
theorem dX6_findFaces_15 : decode cX6_findFaces 15 = .ok (.astore_n 1, 1) := by decide +kernel
theorem dX6_findFaces_16 : decode cX6_findFaces 16 = .ok (.iconst 0, 1) := by decide +kernel
theorem dX6_findFaces_17 : decode cX6_findFaces 17 = .ok (.istore_n 2, 1) := by decide +kernel
theorem dX6_findFaces_18 : decode cX6_findFaces 18 = .ok (.iload_n 2, 1) := by decide +kernel
theorem dX6_findFaces_19 : decode cX6_findFaces 19 = .ok (.aload_n 0, 1) := by decide +kernel
theorem dX6_findFaces_20 : decode cX6_findFaces 20 = .ok (.getfield 18, 3) := by decide +kernel
theorem dX6_findFaces_23 : decode cX6_findFaces 23 = .ok (.getfield 41, 3) := by decide +kernel
theorem dX6_findFaces_26 : decode cX6_findFaces 26 = .ok (.if_icmp .ge 121, 3) := by decide +kernel
theorem dX6_findFaces_147 : decode cX6_findFaces 147 = .ok (.return_, 1) := by decide +kernel
theorem dX6_lay_0 : decode cX6_lay 0 = .ok (.aload_n 0, 1) := by decide +kernel
theorem dX6_lay_1 : decode cX6_lay 1 = .ok (.getfield 18, 3) := by decide +kernel
theorem dX6_lay_4 : decode cX6_lay 4 = .ok (.getfield 41, 3) := by decide +kernel
theorem dX6_lay_7 : decode cX6_lay 7 = .ok (.iconst 4, 1) := by decide +kernel
theorem dX6_lay_8 : decode cX6_lay 8 = .ok (.if_icmp .ge 10, 3) := by decide +kernel
theorem dX6_lay_11 : decode cX6_lay 11 = .ok (.aload_n 0, 1) := by decide +kernel
theorem dX6_lay_12 : decode cX6_lay 12 = .ok (.invokevirtual 57, 3) := by decide +kernel
theorem dX6_lay_15 : decode cX6_lay 15 = .ok (.goto 7, 3) := by decide +kernel
theorem dX6_lay_22 : decode cX6_lay 22 = .ok (.return_, 1) := by decide +kernel
theorem dX6_layRising_0 : decode cX6_layRising 0 = .ok (.iconst 0, 1) := by decide +kernel
theorem dX6_layRising_1 : decode cX6_layRising 1 = .ok (.istore_n 1, 1) := by decide +kernel
theorem dX6_layRising_2 : decode cX6_layRising 2 = .ok (.iload_n 1, 1) := by decide +kernel
theorem dX6_layRising_3 : decode cX6_layRising 3 = .ok (.aload_n 0, 1) := by decide +kernel
theorem dX6_layRising_4 : decode cX6_layRising 4 = .ok (.getfield 18, 3) := by decide +kernel
theorem dX6_layRising_7 : decode cX6_layRising 7 = .ok (.getfield 41, 3) := by decide +kernel
theorem dX6_layRising_10 : decode cX6_layRising 10 = .ok (.if_icmp .ge 71, 3) := by decide +kernel
theorem dX6_layRising_81 : decode cX6_layRising 81 = .ok (.return_, 1) := by decide +kernel
theorem dX7_copy_0 : decode cX7_copy 0 = .ok (.aload_n 0, 1) := by decide +kernel
theorem dX7_copy_1 : decode cX7_copy 1 = .ok (.aload_n 1, 1) := by decide +kernel
theorem dX7_copy_2 : decode cX7_copy 2 = .ok (.getfield 18, 3) := by decide +kernel
theorem dX7_copy_5 : decode cX7_copy 5 = .ok (.putfield 18, 3) := by decide +kernel
theorem dX7_copy_8 : decode cX7_copy 8 = .ok (.aload_n 1, 1) := by decide +kernel
theorem dX7_copy_9 : decode cX7_copy 9 = .ok (.getfield 9, 3) := by decide +kernel
theorem dX7_copy_12 : decode cX7_copy 12 = .ok (.iconst 0, 1) := by decide +kernel
theorem dX7_copy_13 : decode cX7_copy 13 = .ok (.aload_n 0, 1) := by decide +kernel
theorem dX7_copy_14 : decode cX7_copy 14 = .ok (.getfield 9, 3) := by decide +kernel
theorem dX7_copy_17 : decode cX7_copy 17 = .ok (.iconst 0, 1) := by decide +kernel
theorem dX7_copy_18 : decode cX7_copy 18 = .ok (.sipush 160, 3) := by decide +kernel
theorem dX7_copy_21 : decode cX7_copy 21 = .ok (.invokestatic 26, 3) := by decide +kernel
theorem dX7_copy_24 : decode cX7_copy 24 = .ok (.aload_n 1, 1) := by decide +kernel
theorem dX7_copy_25 : decode cX7_copy 25 = .ok (.getfield 15, 3) := by decide +kernel
theorem dX7_copy_28 : decode cX7_copy 28 = .ok (.iconst 0, 1) := by decide +kernel
theorem dX7_copy_29 : decode cX7_copy 29 = .ok (.aload_n 0, 1) := by decide +kernel
theorem dX7_copy_30 : decode cX7_copy 30 = .ok (.getfield 15, 3) := by decide +kernel
theorem dX7_copy_33 : decode cX7_copy 33 = .ok (.iconst 0, 1) := by decide +kernel
theorem dX7_copy_34 : decode cX7_copy 34 = .ok (.sipush 181, 3) := by decide +kernel
theorem dX7_copy_37 : decode cX7_copy 37 = .ok (.invokestatic 26, 3) := by decide +kernel
theorem dX7_copy_40 : decode cX7_copy 40 = .ok (.return_, 1) := by decide +kernel
theorem dX7_empty_0 : decode cX7_empty 0 = .ok (.aload_n 0, 1) := by decide +kernel
theorem dX7_empty_1 : decode cX7_empty 1 = .ok (.iconst 0, 1) := by decide +kernel
theorem dX7_empty_2 : decode cX7_empty 2 = .ok (.putfield 18, 3) := by decide +kernel
theorem dX7_empty_5 : decode cX7_empty 5 = .ok (.return_, 1) := by decide +kernel
theorem dX7_has_0 : decode cX7_has 0 = .ok (.iload_n 1, 1) := by decide +kernel
theorem dX7_has_1 : decode cX7_has 1 = .ok (.ifCond .lt 28, 3) := by decide +kernel
theorem dX7_has_4 : decode cX7_has 4 = .ok (.iload_n 1, 1) := by decide +kernel
theorem dX7_has_5 : decode cX7_has 5 = .ok (.aload_n 0, 1) := by decide +kernel
theorem dX7_has_6 : decode cX7_has 6 = .ok (.getfield 18, 3) := by decide +kernel
theorem dX7_has_9 : decode cX7_has 9 = .ok (.if_icmp .ge 20, 3) := by decide +kernel
theorem dX7_has_29 : decode cX7_has 29 = .ok (.iconst 0, 1) := by decide +kernel
theorem dX7_has_30 : decode cX7_has 30 = .ok (.ireturn, 1) := by decide +kernel
theorem dX7_open_0 : decode cX7_open 0 = .ok (.aload_n 0, 1) := by decide +kernel
theorem dX7_open_1 : decode cX7_open 1 = .ok (.getfield 18, 3) := by decide +kernel
theorem dX7_open_4 : decode cX7_open 4 = .ok (.sipush 180, 3) := by decide +kernel
theorem dX7_open_7 : decode cX7_open 7 = .ok (.if_icmp .ge 33, 3) := by decide +kernel
theorem dX7_open_10 : decode cX7_open 10 = .ok (.aload_n 0, 1) := by decide +kernel
theorem dX7_open_11 : decode cX7_open 11 = .ok (.getfield 15, 3) := by decide +kernel
theorem dX7_open_14 : decode cX7_open 14 = .ok (.aload_n 0, 1) := by decide +kernel
theorem dX7_open_15 : decode cX7_open 15 = .ok (.getfield 18, 3) := by decide +kernel
theorem dX7_open_18 : decode cX7_open 18 = .ok (.iconst 1, 1) := by decide +kernel
theorem dX7_open_19 : decode cX7_open 19 = .ok (.iadd, 1) := by decide +kernel
theorem dX7_open_20 : decode cX7_open 20 = .ok (.aload_n 0, 1) := by decide +kernel
theorem dX7_open_21 : decode cX7_open 21 = .ok (.getfield 15, 3) := by decide +kernel
theorem dX7_open_24 : decode cX7_open 24 = .ok (.aload_n 0, 1) := by decide +kernel
theorem dX7_open_25 : decode cX7_open 25 = .ok (.getfield 18, 3) := by decide +kernel
theorem dX7_open_28 : decode cX7_open 28 = .ok (.iaload, 1) := by decide +kernel
theorem dX7_open_29 : decode cX7_open 29 = .ok (.iastore, 1) := by decide +kernel
theorem dX7_open_30 : decode cX7_open 30 = .ok (.aload_n 0, 1) := by decide +kernel
theorem dX7_open_31 : decode cX7_open 31 = .ok (.dup, 1) := by decide +kernel
theorem dX7_open_32 : decode cX7_open 32 = .ok (.getfield 18, 3) := by decide +kernel
theorem dX7_open_35 : decode cX7_open 35 = .ok (.iconst 1, 1) := by decide +kernel
theorem dX7_open_36 : decode cX7_open 36 = .ok (.iadd, 1) := by decide +kernel
theorem dX7_open_37 : decode cX7_open 37 = .ok (.putfield 18, 3) := by decide +kernel
theorem dX7_open_40 : decode cX7_open 40 = .ok (.return_, 1) := by decide +kernel
theorem dX8_arc_0 : decode cX8_arc 0 = .ok (.aload_n 0, 1) := by decide +kernel
theorem dX8_arc_1 : decode cX8_arc 1 = .ok (.getfield 12, 3) := by decide +kernel
theorem dX8_arc_4 : decode cX8_arc 4 = .ok (.iload_n 1, 1) := by decide +kernel
theorem dX8_arc_5 : decode cX8_arc 5 = .ok (.invokevirtual 95, 3) := by decide +kernel
theorem dX8_arc_8 : decode cX8_arc 8 = .ok (.ifCond .eq 14, 3) := by decide +kernel
theorem dX8_arc_22 : decode cX8_arc 22 = .ok (.iconst (-1), 1) := by decide +kernel
theorem dX8_arc_23 : decode cX8_arc 23 = .ok (.ireturn, 1) := by decide +kernel
theorem dX8_barred_0 : decode cX8_barred 0 = .ok (.aload_n 0, 1) := by decide +kernel
theorem dX8_barred_1 : decode cX8_barred 1 = .ok (.invokevirtual 127, 3) := by decide +kernel
theorem dX8_barred_4 : decode cX8_barred 4 = .ok (.ifCond .eq 5, 3) := by decide +kernel
theorem dX8_barred_7 : decode cX8_barred 7 = .ok (.iconst 0, 1) := by decide +kernel
theorem dX8_barred_8 : decode cX8_barred 8 = .ok (.ireturn, 1) := by decide +kernel
theorem dX8_branch_0 : decode cX8_branch 0 = .ok (.aload_n 0, 1) := by decide +kernel
theorem dX8_branch_1 : decode cX8_branch 1 = .ok (.invokevirtual 127, 3) := by decide +kernel
theorem dX8_branch_4 : decode cX8_branch 4 = .ok (.ifCond .eq 6, 3) := by decide +kernel
theorem dX8_branch_7 : decode cX8_branch 7 = .ok (.bipush (-3), 2) := by decide +kernel
theorem dX8_branch_9 : decode cX8_branch 9 = .ok (.ireturn, 1) := by decide +kernel
theorem dX8_clear_0 : decode cX8_clear 0 = .ok (.aload_n 0, 1) := by decide +kernel
theorem dX8_clear_1 : decode cX8_clear 1 = .ok (.getfield 12, 3) := by decide +kernel
theorem dX8_clear_4 : decode cX8_clear 4 = .ok (.getfield 81, 3) := by decide +kernel
theorem dX8_clear_7 : decode cX8_clear 7 = .ok (.istore_n 1, 1) := by decide +kernel
theorem dX8_clear_8 : decode cX8_clear 8 = .ok (.aload_n 0, 1) := by decide +kernel
theorem dX8_clear_9 : decode cX8_clear 9 = .ok (.invokevirtual 85, 3) := by decide +kernel
theorem dX8_clear_12 : decode cX8_clear 12 = .ok (.aload_n 0, 1) := by decide +kernel
theorem dX8_clear_13 : decode cX8_clear 13 = .ok (.getfield 12, 3) := by decide +kernel
theorem dX8_clear_16 : decode cX8_clear 16 = .ok (.invokevirtual 123, 3) := by decide +kernel
theorem dX8_clear_19 : decode cX8_clear 19 = .ok (.aload_n 0, 1) := by decide +kernel
theorem dX8_clear_20 : decode cX8_clear 20 = .ok (.getfield 19, 3) := by decide +kernel
theorem dX8_clear_23 : decode cX8_clear 23 = .ok (.invokevirtual 126, 3) := by decide +kernel
theorem dX8_clear_26 : decode cX8_clear 26 = .ok (.iload_n 1, 1) := by decide +kernel
theorem dX8_clear_27 : decode cX8_clear 27 = .ok (.ireturn, 1) := by decide +kernel
theorem dX8_countParts_0 : decode cX8_countParts 0 = .ok (.iconst 1, 1) := by decide +kernel
theorem dX8_countParts_1 : decode cX8_countParts 1 = .ok (.aload_n 0, 1) := by decide +kernel
theorem dX8_countParts_2 : decode cX8_countParts 2 = .ok (.getfield 12, 3) := by decide +kernel
theorem dX8_countParts_5 : decode cX8_countParts 5 = .ok (.getfield 81, 3) := by decide +kernel
theorem dX8_countParts_8 : decode cX8_countParts 8 = .ok (.ishl, 1) := by decide +kernel
theorem dX8_countParts_9 : decode cX8_countParts 9 = .ok (.iconst 1, 1) := by decide +kernel
theorem dX8_countParts_10 : decode cX8_countParts 10 = .ok (.isub, 1) := by decide +kernel
theorem dX8_countParts_11 : decode cX8_countParts 11 = .ok (.istore_n 1, 1) := by decide +kernel
theorem dX8_countParts_12 : decode cX8_countParts 12 = .ok (.iconst 0, 1) := by decide +kernel
theorem dX8_countParts_13 : decode cX8_countParts 13 = .ok (.istore_n 2, 1) := by decide +kernel
theorem dX8_countParts_14 : decode cX8_countParts 14 = .ok (.iconst 0, 1) := by decide +kernel
theorem dX8_countParts_15 : decode cX8_countParts 15 = .ok (.istore_n 3, 1) := by decide +kernel
theorem dX8_countParts_16 : decode cX8_countParts 16 = .ok (.iconst 0, 1) := by decide +kernel
theorem dX8_countParts_17 : decode cX8_countParts 17 = .ok (.istore 4, 2) := by decide +kernel
theorem dX8_countParts_19 : decode cX8_countParts 19 = .ok (.iload 4, 2) := by decide +kernel
theorem dX8_countParts_21 : decode cX8_countParts 21 = .ok (.aload_n 0, 1) := by decide +kernel
theorem dX8_countParts_22 : decode cX8_countParts 22 = .ok (.getfield 12, 3) := by decide +kernel
theorem dX8_countParts_25 : decode cX8_countParts 25 = .ok (.getfield 81, 3) := by decide +kernel
theorem dX8_countParts_28 : decode cX8_countParts 28 = .ok (.if_icmp .ge 37, 3) := by decide +kernel
theorem dX8_countParts_65 : decode cX8_countParts 65 = .ok (.iload_n 3, 1) := by decide +kernel
theorem dX8_countParts_66 : decode cX8_countParts 66 = .ok (.ireturn, 1) := by decide +kernel
theorem dX8_crossing_0 : decode cX8_crossing 0 = .ok (.aload_n 0, 1) := by decide +kernel
theorem dX8_crossing_1 : decode cX8_crossing 1 = .ok (.invokevirtual 127, 3) := by decide +kernel
theorem dX8_crossing_4 : decode cX8_crossing 4 = .ok (.ifCond .ne 6, 3) := by decide +kernel
theorem dX8_crossing_10 : decode cX8_crossing 10 = .ok (.aload_n 0, 1) := by decide +kernel
theorem dX8_crossing_11 : decode cX8_crossing 11 = .ok (.invokevirtual 141, 3) := by decide +kernel
theorem dX8_crossing_14 : decode cX8_crossing 14 = .ok (.aload_n 0, 1) := by decide +kernel
theorem dX8_crossing_15 : decode cX8_crossing 15 = .ok (.invokevirtual 183, 3) := by decide +kernel
theorem dX8_crossing_18 : decode cX8_crossing 18 = .ok (.iconst 0, 1) := by decide +kernel
theorem dX8_crossing_19 : decode cX8_crossing 19 = .ok (.istore_n 1, 1) := by decide +kernel
theorem dX8_crossing_20 : decode cX8_crossing 20 = .ok (.iload_n 1, 1) := by decide +kernel
theorem dX8_crossing_21 : decode cX8_crossing 21 = .ok (.aload_n 0, 1) := by decide +kernel
theorem dX8_crossing_22 : decode cX8_crossing 22 = .ok (.getfield 12, 3) := by decide +kernel
theorem dX8_crossing_25 : decode cX8_crossing 25 = .ok (.getfield 99, 3) := by decide +kernel
theorem dX8_crossing_28 : decode cX8_crossing 28 = .ok (.if_icmp .ge 42, 3) := by decide +kernel
theorem dX8_crossing_70 : decode cX8_crossing 70 = .ok (.iconst 0, 1) := by decide +kernel
theorem dX8_crossing_71 : decode cX8_crossing 71 = .ok (.ireturn, 1) := by decide +kernel
theorem dX8_cut_0 : decode cX8_cut 0 = .ok (.aload_n 0, 1) := by decide +kernel
theorem dX8_cut_1 : decode cX8_cut 1 = .ok (.getfield 12, 3) := by decide +kernel
theorem dX8_cut_4 : decode cX8_cut 4 = .ok (.iload_n 1, 1) := by decide +kernel
theorem dX8_cut_5 : decode cX8_cut 5 = .ok (.invokevirtual 110, 3) := by decide +kernel
theorem dX8_cut_8 : decode cX8_cut 8 = .ok (.ifCond .ne 5, 3) := by decide +kernel
theorem dX8_cut_11 : decode cX8_cut 11 = .ok (.iconst (-1), 1) := by decide +kernel
theorem dX8_cut_12 : decode cX8_cut 12 = .ok (.ireturn, 1) := by decide +kernel
theorem dX8_degree_0 : decode cX8_degree 0 = .ok (.aload_n 0, 1) := by decide +kernel
theorem dX8_degree_1 : decode cX8_degree 1 = .ok (.getfield 12, 3) := by decide +kernel
theorem dX8_degree_4 : decode cX8_degree 4 = .ok (.iload_n 1, 1) := by decide +kernel
theorem dX8_degree_5 : decode cX8_degree 5 = .ok (.invokevirtual 95, 3) := by decide +kernel
theorem dX8_degree_8 : decode cX8_degree 8 = .ok (.ifCond .eq 14, 3) := by decide +kernel
theorem dX8_degree_22 : decode cX8_degree 22 = .ok (.iconst (-1), 1) := by decide +kernel
theorem dX8_degree_23 : decode cX8_degree 23 = .ok (.ireturn, 1) := by decide +kernel
theorem dX8_dual_0 : decode cX8_dual 0 = .ok (.aload_n 0, 1) := by decide +kernel
theorem dX8_dual_1 : decode cX8_dual 1 = .ok (.getfield 12, 3) := by decide +kernel
theorem dX8_dual_4 : decode cX8_dual 4 = .ok (.iload_n 1, 1) := by decide +kernel
theorem dX8_dual_5 : decode cX8_dual 5 = .ok (.invokevirtual 110, 3) := by decide +kernel
theorem dX8_dual_8 : decode cX8_dual 8 = .ok (.ifCond .ne 5, 3) := by decide +kernel
theorem dX8_dual_11 : decode cX8_dual 11 = .ok (.iconst (-1), 1) := by decide +kernel
theorem dX8_dual_12 : decode cX8_dual 12 = .ok (.ireturn, 1) := by decide +kernel
theorem dX8_dualBack_0 : decode cX8_dualBack 0 = .ok (.aload_n 0, 1) := by decide +kernel
theorem dX8_dualBack_1 : decode cX8_dualBack 1 = .ok (.invokevirtual 169, 3) := by decide +kernel
theorem dX8_dualBack_4 : decode cX8_dualBack 4 = .ok (.ifCond .ne 6, 3) := by decide +kernel
theorem dX8_dualBack_7 : decode cX8_dualBack 7 = .ok (.bipush (-3), 2) := by decide +kernel
theorem dX8_dualBack_9 : decode cX8_dualBack 9 = .ok (.ireturn, 1) := by decide +kernel
theorem dX8_face_0 : decode cX8_face 0 = .ok (.aload_n 0, 1) := by decide +kernel
theorem dX8_face_1 : decode cX8_face 1 = .ok (.invokevirtual 127, 3) := by decide +kernel
theorem dX8_face_4 : decode cX8_face 4 = .ok (.ifCond .ne 6, 3) := by decide +kernel
theorem dX8_face_10 : decode cX8_face 10 = .ok (.aload_n 0, 1) := by decide +kernel
theorem dX8_face_11 : decode cX8_face 11 = .ok (.invokevirtual 141, 3) := by decide +kernel
theorem dX8_face_14 : decode cX8_face 14 = .ok (.aload_n 0, 1) := by decide +kernel
theorem dX8_face_15 : decode cX8_face 15 = .ok (.invokevirtual 144, 3) := by decide +kernel
theorem dX8_face_18 : decode cX8_face 18 = .ok (.aload_n 0, 1) := by decide +kernel
theorem dX8_face_19 : decode cX8_face 19 = .ok (.getfield 56, 3) := by decide +kernel
theorem dX8_face_22 : decode cX8_face 22 = .ok (.getfield 154, 3) := by decide +kernel
theorem dX8_face_25 : decode cX8_face 25 = .ok (.iload_n 1, 1) := by decide +kernel
theorem dX8_face_26 : decode cX8_face 26 = .ok (.iload_n 2, 1) := by decide +kernel
theorem dX8_face_27 : decode cX8_face 27 = .ok (.invokevirtual 147, 3) := by decide +kernel
theorem dX8_face_30 : decode cX8_face 30 = .ok (.ifCond .eq 18, 3) := by decide +kernel
theorem dX8_face_48 : decode cX8_face 48 = .ok (.iconst (-1), 1) := by decide +kernel
theorem dX8_face_49 : decode cX8_face 49 = .ok (.ireturn, 1) := by decide +kernel
theorem dX8_faces_0 : decode cX8_faces 0 = .ok (.aload_n 0, 1) := by decide +kernel
theorem dX8_faces_1 : decode cX8_faces 1 = .ok (.invokevirtual 127, 3) := by decide +kernel
theorem dX8_faces_4 : decode cX8_faces 4 = .ok (.ifCond .ne 6, 3) := by decide +kernel
theorem dX8_faces_10 : decode cX8_faces 10 = .ok (.aload_n 0, 1) := by decide +kernel
theorem dX8_faces_11 : decode cX8_faces 11 = .ok (.invokevirtual 141, 3) := by decide +kernel
theorem dX8_faces_14 : decode cX8_faces 14 = .ok (.aload_n 0, 1) := by decide +kernel
theorem dX8_faces_15 : decode cX8_faces 15 = .ok (.invokevirtual 144, 3) := by decide +kernel
theorem dX8_faces_18 : decode cX8_faces 18 = .ok (.aload_n 0, 1) := by decide +kernel
theorem dX8_faces_19 : decode cX8_faces 19 = .ok (.getfield 56, 3) := by decide +kernel
theorem dX8_faces_22 : decode cX8_faces 22 = .ok (.getfield 154, 3) := by decide +kernel
theorem dX8_faces_25 : decode cX8_faces 25 = .ok (.getfield 157, 3) := by decide +kernel
theorem dX8_faces_28 : decode cX8_faces 28 = .ok (.ireturn, 1) := by decide +kernel
theorem dX8_forget_0 : decode cX8_forget 0 = .ok (.aload_n 0, 1) := by decide +kernel
theorem dX8_forget_1 : decode cX8_forget 1 = .ok (.iconst 0, 1) := by decide +kernel
theorem dX8_forget_2 : decode cX8_forget 2 = .ok (.putfield 238, 3) := by decide +kernel
theorem dX8_forget_5 : decode cX8_forget 5 = .ok (.aload_n 0, 1) := by decide +kernel
theorem dX8_forget_6 : decode cX8_forget 6 = .ok (.iconst 0, 1) := by decide +kernel
theorem dX8_forget_7 : decode cX8_forget 7 = .ok (.putfield 242, 3) := by decide +kernel
theorem dX8_forget_10 : decode cX8_forget 10 = .ok (.aload_n 0, 1) := by decide +kernel
theorem dX8_forget_11 : decode cX8_forget 11 = .ok (.iconst 0, 1) := by decide +kernel
theorem dX8_forget_12 : decode cX8_forget 12 = .ok (.putfield 245, 3) := by decide +kernel
theorem dX8_forget_15 : decode cX8_forget 15 = .ok (.aload_n 0, 1) := by decide +kernel
theorem dX8_forget_16 : decode cX8_forget 16 = .ok (.iconst 0, 1) := by decide +kernel
theorem dX8_forget_17 : decode cX8_forget 17 = .ok (.putfield 248, 3) := by decide +kernel
theorem dX8_forget_20 : decode cX8_forget 20 = .ok (.return_, 1) := by decide +kernel
theorem dX8_genus_0 : decode cX8_genus 0 = .ok (.aload_n 0, 1) := by decide +kernel
theorem dX8_genus_1 : decode cX8_genus 1 = .ok (.getfield 60, 3) := by decide +kernel
theorem dX8_genus_4 : decode cX8_genus 4 = .ok (.aload_n 0, 1) := by decide +kernel
theorem dX8_genus_5 : decode cX8_genus 5 = .ok (.getfield 19, 3) := by decide +kernel
theorem dX8_genus_8 : decode cX8_genus 8 = .ok (.invokevirtual 175, 3) := by decide +kernel
theorem dX8_genus_11 : decode cX8_genus 11 = .ok (.aload_n 0, 1) := by decide +kernel
theorem dX8_genus_12 : decode cX8_genus 12 = .ok (.getfield 60, 3) := by decide +kernel
theorem dX8_genus_15 : decode cX8_genus 15 = .ok (.getfield 154, 3) := by decide +kernel
theorem dX8_genus_18 : decode cX8_genus 18 = .ok (.getfield 157, 3) := by decide +kernel
theorem dX8_genus_21 : decode cX8_genus 21 = .ok (.istore_n 1, 1) := by decide +kernel
theorem dX8_genus_22 : decode cX8_genus 22 = .ok (.iconst 2, 1) := by decide +kernel
theorem dX8_genus_23 : decode cX8_genus 23 = .ok (.aload_n 0, 1) := by decide +kernel
theorem dX8_genus_24 : decode cX8_genus 24 = .ok (.invokevirtual 232, 3) := by decide +kernel
theorem dX8_genus_27 : decode cX8_genus 27 = .ok (.imul, 1) := by decide +kernel
theorem dX8_genus_28 : decode cX8_genus 28 = .ok (.aload_n 0, 1) := by decide +kernel
theorem dX8_genus_29 : decode cX8_genus 29 = .ok (.getfield 12, 3) := by decide +kernel
theorem dX8_genus_32 : decode cX8_genus 32 = .ok (.getfield 81, 3) := by decide +kernel
theorem dX8_genus_35 : decode cX8_genus 35 = .ok (.isub, 1) := by decide +kernel
theorem dX8_genus_36 : decode cX8_genus 36 = .ok (.aload_n 0, 1) := by decide +kernel
theorem dX8_genus_37 : decode cX8_genus 37 = .ok (.getfield 12, 3) := by decide +kernel
theorem dX8_genus_40 : decode cX8_genus 40 = .ok (.getfield 235, 3) := by decide +kernel
theorem dX8_genus_43 : decode cX8_genus 43 = .ok (.iadd, 1) := by decide +kernel
theorem dX8_genus_44 : decode cX8_genus 44 = .ok (.iload_n 1, 1) := by decide +kernel
theorem dX8_genus_45 : decode cX8_genus 45 = .ok (.isub, 1) := by decide +kernel
theorem dX8_genus_46 : decode cX8_genus 46 = .ok (.iconst 2, 1) := by decide +kernel
theorem dX8_genus_47 : decode cX8_genus 47 = .ok (.idiv, 1) := by decide +kernel
theorem dX8_genus_48 : decode cX8_genus 48 = .ok (.ireturn, 1) := by decide +kernel
theorem dX8_hasDual_0 : decode cX8_hasDual 0 = .ok (.aload_n 0, 1) := by decide +kernel
theorem dX8_hasDual_1 : decode cX8_hasDual 1 = .ok (.invokevirtual 127, 3) := by decide +kernel
theorem dX8_hasDual_4 : decode cX8_hasDual 4 = .ok (.ifCond .eq 25, 3) := by decide +kernel
theorem dX8_hasDual_7 : decode cX8_hasDual 7 = .ok (.aload_n 0, 1) := by decide +kernel
theorem dX8_hasDual_8 : decode cX8_hasDual 8 = .ok (.getfield 12, 3) := by decide +kernel
theorem dX8_hasDual_11 : decode cX8_hasDual 11 = .ok (.getfield 235, 3) := by decide +kernel
theorem dX8_hasDual_14 : decode cX8_hasDual 14 = .ok (.ifCond .le 15, 3) := by decide +kernel
theorem dX8_hasDual_29 : decode cX8_hasDual 29 = .ok (.iconst 0, 1) := by decide +kernel
theorem dX8_hasDual_30 : decode cX8_hasDual 30 = .ok (.ireturn, 1) := by decide +kernel
theorem dX8_isPlane_0 : decode cX8_isPlane 0 = .ok (.aload_n 0, 1) := by decide +kernel
theorem dX8_isPlane_1 : decode cX8_isPlane 1 = .ok (.getfield 238, 3) := by decide +kernel
theorem dX8_isPlane_4 : decode cX8_isPlane 4 = .ok (.ifCond .ne 61, 3) := by decide +kernel
theorem dX8_isPlane_7 : decode cX8_isPlane 7 = .ok (.aload_n 0, 1) := by decide +kernel
theorem dX8_isPlane_8 : decode cX8_isPlane 8 = .ok (.getfield 12, 3) := by decide +kernel
theorem dX8_isPlane_11 : decode cX8_isPlane 11 = .ok (.getfield 81, 3) := by decide +kernel
theorem dX8_isPlane_14 : decode cX8_isPlane 14 = .ok (.istore_n 1, 1) := by decide +kernel
theorem dX8_isPlane_15 : decode cX8_isPlane 15 = .ok (.aload_n 0, 1) := by decide +kernel
theorem dX8_isPlane_16 : decode cX8_isPlane 16 = .ok (.aload_n 0, 1) := by decide +kernel
theorem dX8_isPlane_17 : decode cX8_isPlane 17 = .ok (.getfield 37, 3) := by decide +kernel
theorem dX8_isPlane_20 : decode cX8_isPlane 20 = .ok (.aload_n 0, 1) := by decide +kernel
theorem dX8_isPlane_21 : decode cX8_isPlane 21 = .ok (.getfield 12, 3) := by decide +kernel
theorem dX8_isPlane_24 : decode cX8_isPlane 24 = .ok (.getfield 131, 3) := by decide +kernel
theorem dX8_isPlane_27 : decode cX8_isPlane 27 = .ok (.iload_n 1, 1) := by decide +kernel
theorem dX8_isPlane_28 : decode cX8_isPlane 28 = .ok (.invokevirtual 251, 3) := by decide +kernel
theorem dX8_isPlane_31 : decode cX8_isPlane 31 = .ok (.ifCond .ne 21, 3) := by decide +kernel
theorem dX8_isPlane_34 : decode cX8_isPlane 34 = .ok (.aload_n 0, 1) := by decide +kernel
theorem dX8_isPlane_35 : decode cX8_isPlane 35 = .ok (.getfield 30, 3) := by decide +kernel
theorem dX8_isPlane_38 : decode cX8_isPlane 38 = .ok (.aload_n 0, 1) := by decide +kernel
theorem dX8_isPlane_39 : decode cX8_isPlane 39 = .ok (.getfield 12, 3) := by decide +kernel
theorem dX8_isPlane_42 : decode cX8_isPlane 42 = .ok (.getfield 131, 3) := by decide +kernel
theorem dX8_isPlane_45 : decode cX8_isPlane 45 = .ok (.iload_n 1, 1) := by decide +kernel
theorem dX8_isPlane_46 : decode cX8_isPlane 46 = .ok (.invokevirtual 134, 3) := by decide +kernel
theorem dX8_isPlane_49 : decode cX8_isPlane 49 = .ok (.ifCond .eq 7, 3) := by decide +kernel
theorem dX8_isPlane_52 : decode cX8_isPlane 52 = .ok (.iconst 1, 1) := by decide +kernel
theorem dX8_isPlane_53 : decode cX8_isPlane 53 = .ok (.goto 4, 3) := by decide +kernel
theorem dX8_isPlane_57 : decode cX8_isPlane 57 = .ok (.putfield 254, 3) := by decide +kernel
theorem dX8_isPlane_60 : decode cX8_isPlane 60 = .ok (.aload_n 0, 1) := by decide +kernel
theorem dX8_isPlane_61 : decode cX8_isPlane 61 = .ok (.iconst 1, 1) := by decide +kernel
theorem dX8_isPlane_62 : decode cX8_isPlane 62 = .ok (.putfield 238, 3) := by decide +kernel
theorem dX8_isPlane_65 : decode cX8_isPlane 65 = .ok (.aload_n 0, 1) := by decide +kernel
theorem dX8_isPlane_66 : decode cX8_isPlane 66 = .ok (.getfield 254, 3) := by decide +kernel
theorem dX8_isPlane_69 : decode cX8_isPlane 69 = .ok (.ireturn, 1) := by decide +kernel
theorem dX8_makeDrawing_0 : decode cX8_makeDrawing 0 = .ok (.aload_n 0, 1) := by decide +kernel
theorem dX8_makeDrawing_1 : decode cX8_makeDrawing 1 = .ok (.getfield 245, 3) := by decide +kernel
theorem dX8_makeDrawing_4 : decode cX8_makeDrawing 4 = .ok (.ifCond .ne 15, 3) := by decide +kernel
theorem dX8_makeDrawing_7 : decode cX8_makeDrawing 7 = .ok (.aload_n 0, 1) := by decide +kernel
theorem dX8_makeDrawing_8 : decode cX8_makeDrawing 8 = .ok (.getfield 68, 3) := by decide +kernel
theorem dX8_makeDrawing_11 : decode cX8_makeDrawing 11 = .ok (.invokevirtual 290, 3) := by decide +kernel
theorem dX8_makeDrawing_14 : decode cX8_makeDrawing 14 = .ok (.aload_n 0, 1) := by decide +kernel
theorem dX8_makeDrawing_15 : decode cX8_makeDrawing 15 = .ok (.iconst 1, 1) := by decide +kernel
theorem dX8_makeDrawing_16 : decode cX8_makeDrawing 16 = .ok (.putfield 245, 3) := by decide +kernel
theorem dX8_makeDrawing_19 : decode cX8_makeDrawing 19 = .ok (.return_, 1) := by decide +kernel
theorem dX8_makeFilled_0 : decode cX8_makeFilled 0 = .ok (.aload_n 0, 1) := by decide +kernel
theorem dX8_makeFilled_1 : decode cX8_makeFilled 1 = .ok (.getfield 37, 3) := by decide +kernel
theorem dX8_makeFilled_4 : decode cX8_makeFilled 4 = .ok (.aload_n 0, 1) := by decide +kernel
theorem dX8_makeFilled_5 : decode cX8_makeFilled 5 = .ok (.getfield 12, 3) := by decide +kernel
theorem dX8_makeFilled_8 : decode cX8_makeFilled 8 = .ok (.getfield 131, 3) := by decide +kernel
theorem dX8_makeFilled_11 : decode cX8_makeFilled 11 = .ok (.aload_n 0, 1) := by decide +kernel
theorem dX8_makeFilled_12 : decode cX8_makeFilled 12 = .ok (.getfield 12, 3) := by decide +kernel
theorem dX8_makeFilled_15 : decode cX8_makeFilled 15 = .ok (.getfield 81, 3) := by decide +kernel
theorem dX8_makeFilled_18 : decode cX8_makeFilled 18 = .ok (.invokevirtual 251, 3) := by decide +kernel
theorem dX8_makeFilled_21 : decode cX8_makeFilled 21 = .ok (.ifCond .ne 42, 3) := by decide +kernel
theorem dX8_makeFilled_24 : decode cX8_makeFilled 24 = .ok (.aload_n 0, 1) := by decide +kernel
theorem dX8_makeFilled_25 : decode cX8_makeFilled 25 = .ok (.getfield 37, 3) := by decide +kernel
theorem dX8_makeFilled_28 : decode cX8_makeFilled 28 = .ok (.aload_n 0, 1) := by decide +kernel
theorem dX8_makeFilled_29 : decode cX8_makeFilled 29 = .ok (.getfield 12, 3) := by decide +kernel
theorem dX8_makeFilled_32 : decode cX8_makeFilled 32 = .ok (.getfield 131, 3) := by decide +kernel
theorem dX8_makeFilled_35 : decode cX8_makeFilled 35 = .ok (.aload_n 0, 1) := by decide +kernel
theorem dX8_makeFilled_36 : decode cX8_makeFilled 36 = .ok (.getfield 12, 3) := by decide +kernel
theorem dX8_makeFilled_39 : decode cX8_makeFilled 39 = .ok (.getfield 81, 3) := by decide +kernel
theorem dX8_makeFilled_42 : decode cX8_makeFilled 42 = .ok (.aload_n 0, 1) := by decide +kernel
theorem dX8_makeFilled_43 : decode cX8_makeFilled 43 = .ok (.getfield 30, 3) := by decide +kernel
theorem dX8_makeFilled_46 : decode cX8_makeFilled 46 = .ok (.invokevirtual 257, 3) := by decide +kernel
theorem dX8_makeFilled_49 : decode cX8_makeFilled 49 = .ok (.aload_n 0, 1) := by decide +kernel
theorem dX8_makeFilled_50 : decode cX8_makeFilled 50 = .ok (.getfield 46, 3) := by decide +kernel
theorem dX8_makeFilled_53 : decode cX8_makeFilled 53 = .ok (.invokevirtual 261, 3) := by decide +kernel
theorem dX8_makeFilled_56 : decode cX8_makeFilled 56 = .ok (.aload_n 0, 1) := by decide +kernel
theorem dX8_makeFilled_57 : decode cX8_makeFilled 57 = .ok (.getfield 46, 3) := by decide +kernel
theorem dX8_makeFilled_60 : decode cX8_makeFilled 60 = .ok (.invokevirtual 264, 3) := by decide +kernel
theorem dX8_makeFilled_63 : decode cX8_makeFilled 63 = .ok (.return_, 1) := by decide +kernel
theorem dX8_makeTurns_0 : decode cX8_makeTurns 0 = .ok (.aload_n 0, 1) := by decide +kernel
theorem dX8_makeTurns_1 : decode cX8_makeTurns 1 = .ok (.getfield 242, 3) := by decide +kernel
theorem dX8_makeTurns_4 : decode cX8_makeTurns 4 = .ok (.ifCond .eq 4, 3) := by decide +kernel
theorem dX8_makeTurns_8 : decode cX8_makeTurns 8 = .ok (.aload_n 0, 1) := by decide +kernel
theorem dX8_makeTurns_9 : decode cX8_makeTurns 9 = .ok (.getfield 50, 3) := by decide +kernel
theorem dX8_makeTurns_12 : decode cX8_makeTurns 12 = .ok (.invokevirtual 126, 3) := by decide +kernel
theorem dX8_makeTurns_15 : decode cX8_makeTurns 15 = .ok (.iconst 0, 1) := by decide +kernel
theorem dX8_makeTurns_16 : decode cX8_makeTurns 16 = .ok (.istore_n 1, 1) := by decide +kernel
theorem dX8_makeTurns_17 : decode cX8_makeTurns 17 = .ok (.iload_n 1, 1) := by decide +kernel
theorem dX8_makeTurns_18 : decode cX8_makeTurns 18 = .ok (.aload_n 0, 1) := by decide +kernel
theorem dX8_makeTurns_19 : decode cX8_makeTurns 19 = .ok (.getfield 12, 3) := by decide +kernel
theorem dX8_makeTurns_22 : decode cX8_makeTurns 22 = .ok (.getfield 81, 3) := by decide +kernel
theorem dX8_makeTurns_25 : decode cX8_makeTurns 25 = .ok (.if_icmp .ge 26, 3) := by decide +kernel
theorem dX8_makeTurns_51 : decode cX8_makeTurns 51 = .ok (.aload_n 0, 1) := by decide +kernel
theorem dX8_makeTurns_52 : decode cX8_makeTurns 52 = .ok (.getfield 56, 3) := by decide +kernel
theorem dX8_makeTurns_55 : decode cX8_makeTurns 55 = .ok (.aload_n 0, 1) := by decide +kernel
theorem dX8_makeTurns_56 : decode cX8_makeTurns 56 = .ok (.getfield 50, 3) := by decide +kernel
theorem dX8_makeTurns_59 : decode cX8_makeTurns 59 = .ok (.invokevirtual 175, 3) := by decide +kernel
theorem dX8_makeTurns_62 : decode cX8_makeTurns 62 = .ok (.aload_n 0, 1) := by decide +kernel
theorem dX8_makeTurns_63 : decode cX8_makeTurns 63 = .ok (.iconst 1, 1) := by decide +kernel
theorem dX8_makeTurns_64 : decode cX8_makeTurns 64 = .ok (.putfield 242, 3) := by decide +kernel
theorem dX8_makeTurns_67 : decode cX8_makeTurns 67 = .ok (.return_, 1) := by decide +kernel
theorem dX8_node_0 : decode cX8_node 0 = .ok (.aload_n 0, 1) := by decide +kernel
theorem dX8_node_1 : decode cX8_node 1 = .ok (.getfield 12, 3) := by decide +kernel
theorem dX8_node_4 : decode cX8_node 4 = .ok (.getfield 81, 3) := by decide +kernel
theorem dX8_node_7 : decode cX8_node 7 = .ok (.bipush 20, 2) := by decide +kernel
theorem dX8_node_9 : decode cX8_node 9 = .ok (.if_icmp .lt 6, 3) := by decide +kernel
theorem dX8_node_15 : decode cX8_node 15 = .ok (.aload_n 0, 1) := by decide +kernel
theorem dX8_node_16 : decode cX8_node 16 = .ok (.invokevirtual 85, 3) := by decide +kernel
theorem dX8_node_19 : decode cX8_node 19 = .ok (.aload_n 0, 1) := by decide +kernel
theorem dX8_node_20 : decode cX8_node 20 = .ok (.getfield 19, 3) := by decide +kernel
theorem dX8_node_23 : decode cX8_node 23 = .ok (.invokevirtual 88, 3) := by decide +kernel
theorem dX8_node_26 : decode cX8_node 26 = .ok (.aload_n 0, 1) := by decide +kernel
theorem dX8_node_27 : decode cX8_node 27 = .ok (.getfield 12, 3) := by decide +kernel
theorem dX8_node_30 : decode cX8_node 30 = .ok (.invokevirtual 91, 3) := by decide +kernel
theorem dX8_node_33 : decode cX8_node 33 = .ok (.ireturn, 1) := by decide +kernel
theorem dX8_outer_0 : decode cX8_outer 0 = .ok (.aload_n 0, 1) := by decide +kernel
theorem dX8_outer_1 : decode cX8_outer 1 = .ok (.getfield 12, 3) := by decide +kernel
theorem dX8_outer_4 : decode cX8_outer 4 = .ok (.getfield 81, 3) := by decide +kernel
theorem dX8_outer_7 : decode cX8_outer 7 = .ok (.istore_n 1, 1) := by decide +kernel
theorem dX8_outer_8 : decode cX8_outer 8 = .ok (.aload_n 0, 1) := by decide +kernel
theorem dX8_outer_9 : decode cX8_outer 9 = .ok (.getfield 23, 3) := by decide +kernel
theorem dX8_outer_12 : decode cX8_outer 12 = .ok (.iload_n 1, 1) := by decide +kernel
theorem dX8_outer_13 : decode cX8_outer 13 = .ok (.iconst 1, 1) := by decide +kernel
theorem dX8_outer_14 : decode cX8_outer 14 = .ok (.iload_n 1, 1) := by decide +kernel
theorem dX8_outer_15 : decode cX8_outer 15 = .ok (.ishl, 1) := by decide +kernel
theorem dX8_outer_16 : decode cX8_outer 16 = .ok (.iconst 1, 1) := by decide +kernel
theorem dX8_outer_17 : decode cX8_outer 17 = .ok (.isub, 1) := by decide +kernel
theorem dX8_outer_18 : decode cX8_outer 18 = .ok (.iastore, 1) := by decide +kernel
theorem dX8_outer_19 : decode cX8_outer 19 = .ok (.iconst 0, 1) := by decide +kernel
theorem dX8_outer_20 : decode cX8_outer 20 = .ok (.istore_n 2, 1) := by decide +kernel
theorem dX8_outer_21 : decode cX8_outer 21 = .ok (.iload_n 2, 1) := by decide +kernel
theorem dX8_outer_22 : decode cX8_outer 22 = .ok (.iload_n 1, 1) := by decide +kernel
theorem dX8_outer_23 : decode cX8_outer 23 = .ok (.if_icmp .ge 28, 3) := by decide +kernel
theorem dX8_outer_51 : decode cX8_outer 51 = .ok (.aload_n 0, 1) := by decide +kernel
theorem dX8_outer_52 : decode cX8_outer 52 = .ok (.getfield 30, 3) := by decide +kernel
theorem dX8_outer_55 : decode cX8_outer 55 = .ok (.aload_n 0, 1) := by decide +kernel
theorem dX8_outer_56 : decode cX8_outer 56 = .ok (.getfield 23, 3) := by decide +kernel
theorem dX8_outer_59 : decode cX8_outer 59 = .ok (.iload_n 1, 1) := by decide +kernel
theorem dX8_outer_60 : decode cX8_outer 60 = .ok (.iconst 1, 1) := by decide +kernel
theorem dX8_outer_61 : decode cX8_outer 61 = .ok (.iadd, 1) := by decide +kernel
theorem dX8_outer_62 : decode cX8_outer 62 = .ok (.invokevirtual 134, 3) := by decide +kernel
theorem dX8_outer_65 : decode cX8_outer 65 = .ok (.ifCond .eq 7, 3) := by decide +kernel
theorem dX8_outer_68 : decode cX8_outer 68 = .ok (.iconst 1, 1) := by decide +kernel
theorem dX8_outer_69 : decode cX8_outer 69 = .ok (.goto 4, 3) := by decide +kernel
theorem dX8_outer_73 : decode cX8_outer 73 = .ok (.ireturn, 1) := by decide +kernel
theorem dX8_piece_0 : decode cX8_piece 0 = .ok (.aload_n 0, 1) := by decide +kernel
theorem dX8_piece_1 : decode cX8_piece 1 = .ok (.invokevirtual 127, 3) := by decide +kernel
theorem dX8_piece_4 : decode cX8_piece 4 = .ok (.ifCond .eq 6, 3) := by decide +kernel
theorem dX8_piece_7 : decode cX8_piece 7 = .ok (.bipush (-3), 2) := by decide +kernel
theorem dX8_piece_9 : decode cX8_piece 9 = .ok (.ireturn, 1) := by decide +kernel
theorem dX8_place_0 : decode cX8_place 0 = .ok (.aload_n 0, 1) := by decide +kernel
theorem dX8_place_1 : decode cX8_place 1 = .ok (.getfield 12, 3) := by decide +kernel
theorem dX8_place_4 : decode cX8_place 4 = .ok (.iload_n 1, 1) := by decide +kernel
theorem dX8_place_5 : decode cX8_place 5 = .ok (.invokevirtual 95, 3) := by decide +kernel
theorem dX8_place_8 : decode cX8_place 8 = .ok (.ifCond .ne 5, 3) := by decide +kernel
theorem dX8_place_11 : decode cX8_place 11 = .ok (.iconst (-1), 1) := by decide +kernel
theorem dX8_place_12 : decode cX8_place 12 = .ok (.ireturn, 1) := by decide +kernel
theorem dX8_round_0 : decode cX8_round 0 = .ok (.aload_n 0, 1) := by decide +kernel
theorem dX8_round_1 : decode cX8_round 1 = .ok (.getfield 12, 3) := by decide +kernel
theorem dX8_round_4 : decode cX8_round 4 = .ok (.iload_n 1, 1) := by decide +kernel
theorem dX8_round_5 : decode cX8_round 5 = .ok (.invokevirtual 95, 3) := by decide +kernel
theorem dX8_round_8 : decode cX8_round 8 = .ok (.ifCond .ne 5, 3) := by decide +kernel
theorem dX8_round_11 : decode cX8_round 11 = .ok (.iconst (-1), 1) := by decide +kernel
theorem dX8_round_12 : decode cX8_round 12 = .ok (.ireturn, 1) := by decide +kernel
theorem dX8_strand_0 : decode cX8_strand 0 = .ok (.aload_n 0, 1) := by decide +kernel
theorem dX8_strand_1 : decode cX8_strand 1 = .ok (.getfield 12, 3) := by decide +kernel
theorem dX8_strand_4 : decode cX8_strand 4 = .ok (.iload_n 1, 1) := by decide +kernel
theorem dX8_strand_5 : decode cX8_strand 5 = .ok (.invokevirtual 110, 3) := by decide +kernel
theorem dX8_strand_8 : decode cX8_strand 8 = .ok (.ifCond .ne 5, 3) := by decide +kernel
theorem dX8_strand_11 : decode cX8_strand 11 = .ok (.iconst (-1), 1) := by decide +kernel
theorem dX8_strand_12 : decode cX8_strand 12 = .ok (.ireturn, 1) := by decide +kernel
theorem dX8_swap_0 : decode cX8_swap 0 = .ok (.aload_n 0, 1) := by decide +kernel
theorem dX8_swap_1 : decode cX8_swap 1 = .ok (.getfield 12, 3) := by decide +kernel
theorem dX8_swap_4 : decode cX8_swap 4 = .ok (.iload_n 1, 1) := by decide +kernel
theorem dX8_swap_5 : decode cX8_swap 5 = .ok (.invokevirtual 95, 3) := by decide +kernel
theorem dX8_swap_8 : decode cX8_swap 8 = .ok (.ifCond .eq 27, 3) := by decide +kernel
theorem dX8_swap_35 : decode cX8_swap 35 = .ok (.iconst (-1), 1) := by decide +kernel
theorem dX8_swap_36 : decode cX8_swap 36 = .ok (.ireturn, 1) := by decide +kernel
theorem dX8_take_0 : decode cX8_take 0 = .ok (.aload_n 0, 1) := by decide +kernel
theorem dX8_take_1 : decode cX8_take 1 = .ok (.invokevirtual 127, 3) := by decide +kernel
theorem dX8_take_4 : decode cX8_take 4 = .ok (.ifCond .ne 6, 3) := by decide +kernel
theorem dX8_take_10 : decode cX8_take 10 = .ok (.aload_n 0, 1) := by decide +kernel
theorem dX8_take_11 : decode cX8_take 11 = .ok (.invokevirtual 141, 3) := by decide +kernel
theorem dX8_take_14 : decode cX8_take 14 = .ok (.aload_n 0, 1) := by decide +kernel
theorem dX8_take_15 : decode cX8_take 15 = .ok (.invokevirtual 144, 3) := by decide +kernel
theorem dX8_take_18 : decode cX8_take 18 = .ok (.aload_n 0, 1) := by decide +kernel
theorem dX8_take_19 : decode cX8_take 19 = .ok (.getfield 19, 3) := by decide +kernel
theorem dX8_take_22 : decode cX8_take 22 = .ok (.aload_n 0, 1) := by decide +kernel
theorem dX8_take_23 : decode cX8_take 23 = .ok (.getfield 50, 3) := by decide +kernel
theorem dX8_take_26 : decode cX8_take 26 = .ok (.invokevirtual 229, 3) := by decide +kernel
theorem dX8_take_29 : decode cX8_take 29 = .ok (.iconst 1, 1) := by decide +kernel
theorem dX8_take_30 : decode cX8_take 30 = .ok (.ireturn, 1) := by decide +kernel
theorem dX8_test_0 : decode cX8_test 0 = .ok (.aload_n 0, 1) := by decide +kernel
theorem dX8_test_1 : decode cX8_test 1 = .ok (.invokevirtual 127, 3) := by decide +kernel
theorem dX8_test_4 : decode cX8_test 4 = .ok (.ifCond .eq 7, 3) := by decide +kernel
theorem dX8_test_7 : decode cX8_test 7 = .ok (.iconst 1, 1) := by decide +kernel
theorem dX8_test_8 : decode cX8_test 8 = .ok (.goto 4, 3) := by decide +kernel
theorem dX8_test_12 : decode cX8_test 12 = .ok (.ireturn, 1) := by decide +kernel
theorem dX8_told_0 : decode cX8_told 0 = .ok (.aload_n 0, 1) := by decide +kernel
theorem dX8_told_1 : decode cX8_told 1 = .ok (.getfield 12, 3) := by decide +kernel
theorem dX8_told_4 : decode cX8_told 4 = .ok (.iload_n 1, 1) := by decide +kernel
theorem dX8_told_5 : decode cX8_told 5 = .ok (.invokevirtual 95, 3) := by decide +kernel
theorem dX8_told_8 : decode cX8_told 8 = .ok (.ifCond .eq 15, 3) := by decide +kernel
theorem dX8_told_23 : decode cX8_told 23 = .ok (.iconst (-1), 1) := by decide +kernel
theorem dX8_told_24 : decode cX8_told 24 = .ok (.ireturn, 1) := by decide +kernel
theorem dX8_toldFaces_0 : decode cX8_toldFaces 0 = .ok (.aload_n 0, 1) := by decide +kernel
theorem dX8_toldFaces_1 : decode cX8_toldFaces 1 = .ok (.getfield 60, 3) := by decide +kernel
theorem dX8_toldFaces_4 : decode cX8_toldFaces 4 = .ok (.aload_n 0, 1) := by decide +kernel
theorem dX8_toldFaces_5 : decode cX8_toldFaces 5 = .ok (.getfield 19, 3) := by decide +kernel
theorem dX8_toldFaces_8 : decode cX8_toldFaces 8 = .ok (.invokevirtual 175, 3) := by decide +kernel
theorem dX8_toldFaces_11 : decode cX8_toldFaces 11 = .ok (.aload_n 0, 1) := by decide +kernel
theorem dX8_toldFaces_12 : decode cX8_toldFaces 12 = .ok (.getfield 60, 3) := by decide +kernel
theorem dX8_toldFaces_15 : decode cX8_toldFaces 15 = .ok (.getfield 154, 3) := by decide +kernel
theorem dX8_toldFaces_18 : decode cX8_toldFaces 18 = .ok (.getfield 157, 3) := by decide +kernel
theorem dX8_toldFaces_21 : decode cX8_toldFaces 21 = .ok (.ireturn, 1) := by decide +kernel
theorem dX8_turn_0 : decode cX8_turn 0 = .ok (.aload_n 0, 1) := by decide +kernel
theorem dX8_turn_1 : decode cX8_turn 1 = .ok (.getfield 12, 3) := by decide +kernel
theorem dX8_turn_4 : decode cX8_turn 4 = .ok (.iload_n 1, 1) := by decide +kernel
theorem dX8_turn_5 : decode cX8_turn 5 = .ok (.invokevirtual 95, 3) := by decide +kernel
theorem dX8_turn_8 : decode cX8_turn 8 = .ok (.ifCond .ne 5, 3) := by decide +kernel
theorem dX8_turn_11 : decode cX8_turn 11 = .ok (.iconst (-1), 1) := by decide +kernel
theorem dX8_turn_12 : decode cX8_turn 12 = .ok (.ireturn, 1) := by decide +kernel
theorem dX9_arc_0 : decode cX9_arc 0 = .ok (.aload_n 0, 1) := by decide +kernel
theorem dX9_arc_1 : decode cX9_arc 1 = .ok (.iload_n 1, 1) := by decide +kernel
theorem dX9_arc_2 : decode cX9_arc 2 = .ok (.invokevirtual 302, 3) := by decide +kernel
theorem dX9_arc_5 : decode cX9_arc 5 = .ok (.ifCond .eq 11, 3) := by decide +kernel
theorem dX9_arc_16 : decode cX9_arc 16 = .ok (.iconst (-1), 1) := by decide +kernel
theorem dX9_arc_17 : decode cX9_arc 17 = .ok (.ireturn, 1) := by decide +kernel
theorem dX9_arcs_0 : decode cX9_arcs 0 = .ok (.iconst 0, 1) := by decide +kernel
theorem dX9_arcs_1 : decode cX9_arcs 1 = .ok (.istore_n 1, 1) := by decide +kernel
theorem dX9_arcs_2 : decode cX9_arcs 2 = .ok (.iconst 0, 1) := by decide +kernel
theorem dX9_arcs_3 : decode cX9_arcs 3 = .ok (.istore_n 2, 1) := by decide +kernel
theorem dX9_arcs_4 : decode cX9_arcs 4 = .ok (.iload_n 2, 1) := by decide +kernel
theorem dX9_arcs_5 : decode cX9_arcs 5 = .ok (.aload_n 0, 1) := by decide +kernel
theorem dX9_arcs_6 : decode cX9_arcs 6 = .ok (.getfield 213, 3) := by decide +kernel
theorem dX9_arcs_9 : decode cX9_arcs 9 = .ok (.if_icmp .ge 26, 3) := by decide +kernel
theorem dX9_arcs_35 : decode cX9_arcs 35 = .ok (.iload_n 1, 1) := by decide +kernel
theorem dX9_arcs_36 : decode cX9_arcs 36 = .ok (.ireturn, 1) := by decide +kernel
theorem dX9_bare_0 : decode cX9_bare 0 = .ok (.iconst 0, 1) := by decide +kernel
theorem dX9_bare_1 : decode cX9_bare 1 = .ok (.istore_n 1, 1) := by decide +kernel
theorem dX9_bare_2 : decode cX9_bare 2 = .ok (.iconst 0, 1) := by decide +kernel
theorem dX9_bare_3 : decode cX9_bare 3 = .ok (.istore_n 2, 1) := by decide +kernel
theorem dX9_bare_4 : decode cX9_bare 4 = .ok (.iload_n 2, 1) := by decide +kernel
theorem dX9_bare_5 : decode cX9_bare 5 = .ok (.aload_n 0, 1) := by decide +kernel
theorem dX9_bare_6 : decode cX9_bare 6 = .ok (.getfield 210, 3) := by decide +kernel
theorem dX9_bare_9 : decode cX9_bare 9 = .ok (.if_icmp .ge 26, 3) := by decide +kernel
theorem dX9_bare_35 : decode cX9_bare 35 = .ok (.iload_n 1, 1) := by decide +kernel
theorem dX9_bare_36 : decode cX9_bare 36 = .ok (.ireturn, 1) := by decide +kernel
theorem dX9_barred_0 : decode cX9_barred 0 = .ok (.aload_n 0, 1) := by decide +kernel
theorem dX9_barred_1 : decode cX9_barred 1 = .ok (.invokevirtual 318, 3) := by decide +kernel
theorem dX9_barred_4 : decode cX9_barred 4 = .ok (.ifCond .eq 5, 3) := by decide +kernel
theorem dX9_barred_7 : decode cX9_barred 7 = .ok (.iconst 0, 1) := by decide +kernel
theorem dX9_barred_8 : decode cX9_barred 8 = .ok (.ireturn, 1) := by decide +kernel
theorem dX9_branch_0 : decode cX9_branch 0 = .ok (.aload_n 0, 1) := by decide +kernel
theorem dX9_branch_1 : decode cX9_branch 1 = .ok (.invokevirtual 318, 3) := by decide +kernel
theorem dX9_branch_4 : decode cX9_branch 4 = .ok (.ifCond .eq 6, 3) := by decide +kernel
theorem dX9_branch_7 : decode cX9_branch 7 = .ok (.bipush (-3), 2) := by decide +kernel
theorem dX9_branch_9 : decode cX9_branch 9 = .ok (.ireturn, 1) := by decide +kernel
theorem dX9_clear_0 : decode cX9_clear 0 = .ok (.aload_n 0, 1) := by decide +kernel
theorem dX9_clear_1 : decode cX9_clear 1 = .ok (.getfield 210, 3) := by decide +kernel
theorem dX9_clear_4 : decode cX9_clear 4 = .ok (.istore_n 1, 1) := by decide +kernel
theorem dX9_clear_5 : decode cX9_clear 5 = .ok (.aload_n 0, 1) := by decide +kernel
theorem dX9_clear_6 : decode cX9_clear 6 = .ok (.iconst 0, 1) := by decide +kernel
theorem dX9_clear_7 : decode cX9_clear 7 = .ok (.putfield 210, 3) := by decide +kernel
theorem dX9_clear_10 : decode cX9_clear 10 = .ok (.aload_n 0, 1) := by decide +kernel
theorem dX9_clear_11 : decode cX9_clear 11 = .ok (.iconst 0, 1) := by decide +kernel
theorem dX9_clear_12 : decode cX9_clear 12 = .ok (.putfield 213, 3) := by decide +kernel
theorem dX9_clear_15 : decode cX9_clear 15 = .ok (.aload_n 0, 1) := by decide +kernel
theorem dX9_clear_16 : decode cX9_clear 16 = .ok (.iconst 0, 1) := by decide +kernel
theorem dX9_clear_17 : decode cX9_clear 17 = .ok (.putfield 216, 3) := by decide +kernel
theorem dX9_clear_20 : decode cX9_clear 20 = .ok (.iload_n 1, 1) := by decide +kernel
theorem dX9_clear_21 : decode cX9_clear 21 = .ok (.ireturn, 1) := by decide +kernel
theorem dX9_crossing_0 : decode cX9_crossing 0 = .ok (.aload_n 0, 1) := by decide +kernel
theorem dX9_crossing_1 : decode cX9_crossing 1 = .ok (.invokevirtual 318, 3) := by decide +kernel
theorem dX9_crossing_4 : decode cX9_crossing 4 = .ok (.ifCond .ne 6, 3) := by decide +kernel
theorem dX9_crossing_10 : decode cX9_crossing 10 = .ok (.iconst 0, 1) := by decide +kernel
theorem dX9_crossing_11 : decode cX9_crossing 11 = .ok (.istore_n 1, 1) := by decide +kernel
theorem dX9_crossing_12 : decode cX9_crossing 12 = .ok (.iload_n 1, 1) := by decide +kernel
theorem dX9_crossing_13 : decode cX9_crossing 13 = .ok (.aload_n 0, 1) := by decide +kernel
theorem dX9_crossing_14 : decode cX9_crossing 14 = .ok (.getfield 213, 3) := by decide +kernel
theorem dX9_crossing_17 : decode cX9_crossing 17 = .ok (.if_icmp .ge 168, 3) := by decide +kernel
theorem dX9_crossing_185 : decode cX9_crossing 185 = .ok (.iconst 0, 1) := by decide +kernel
theorem dX9_crossing_186 : decode cX9_crossing 186 = .ok (.ireturn, 1) := by decide +kernel
theorem dX9_cut_0 : decode cX9_cut 0 = .ok (.aload_n 0, 1) := by decide +kernel
theorem dX9_cut_1 : decode cX9_cut 1 = .ok (.iload_n 1, 1) := by decide +kernel
theorem dX9_cut_2 : decode cX9_cut 2 = .ok (.invokevirtual 309, 3) := by decide +kernel
theorem dX9_cut_5 : decode cX9_cut 5 = .ok (.ifCond .ne 5, 3) := by decide +kernel
theorem dX9_cut_8 : decode cX9_cut 8 = .ok (.iconst (-1), 1) := by decide +kernel
theorem dX9_cut_9 : decode cX9_cut 9 = .ok (.ireturn, 1) := by decide +kernel
theorem dX9_degree_0 : decode cX9_degree 0 = .ok (.aload_n 0, 1) := by decide +kernel
theorem dX9_degree_1 : decode cX9_degree 1 = .ok (.iload_n 1, 1) := by decide +kernel
theorem dX9_degree_2 : decode cX9_degree 2 = .ok (.invokevirtual 302, 3) := by decide +kernel
theorem dX9_degree_5 : decode cX9_degree 5 = .ok (.ifCond .eq 12, 3) := by decide +kernel
theorem dX9_degree_17 : decode cX9_degree 17 = .ok (.iconst (-1), 1) := by decide +kernel
theorem dX9_degree_18 : decode cX9_degree 18 = .ok (.ireturn, 1) := by decide +kernel
theorem dX9_dual_0 : decode cX9_dual 0 = .ok (.aload_n 0, 1) := by decide +kernel
theorem dX9_dual_1 : decode cX9_dual 1 = .ok (.iload_n 1, 1) := by decide +kernel
theorem dX9_dual_2 : decode cX9_dual 2 = .ok (.invokevirtual 309, 3) := by decide +kernel
theorem dX9_dual_5 : decode cX9_dual 5 = .ok (.ifCond .ne 5, 3) := by decide +kernel
theorem dX9_dual_8 : decode cX9_dual 8 = .ok (.iconst (-1), 1) := by decide +kernel
theorem dX9_dual_9 : decode cX9_dual 9 = .ok (.ireturn, 1) := by decide +kernel
theorem dX9_dualBack_0 : decode cX9_dualBack 0 = .ok (.aload_n 0, 1) := by decide +kernel
theorem dX9_dualBack_1 : decode cX9_dualBack 1 = .ok (.invokevirtual 330, 3) := by decide +kernel
theorem dX9_dualBack_4 : decode cX9_dualBack 4 = .ok (.ifCond .ne 6, 3) := by decide +kernel
theorem dX9_dualBack_7 : decode cX9_dualBack 7 = .ok (.bipush (-3), 2) := by decide +kernel
theorem dX9_dualBack_9 : decode cX9_dualBack 9 = .ok (.ireturn, 1) := by decide +kernel
theorem dX9_face_0 : decode cX9_face 0 = .ok (.aload_n 0, 1) := by decide +kernel
theorem dX9_face_1 : decode cX9_face 1 = .ok (.invokevirtual 318, 3) := by decide +kernel
theorem dX9_face_4 : decode cX9_face 4 = .ok (.ifCond .ne 6, 3) := by decide +kernel
theorem dX9_face_10 : decode cX9_face 10 = .ok (.aload_n 0, 1) := by decide +kernel
theorem dX9_face_11 : decode cX9_face 11 = .ok (.iconst 0, 1) := by decide +kernel
theorem dX9_face_12 : decode cX9_face 12 = .ok (.invokevirtual 321, 3) := by decide +kernel
theorem dX9_face_15 : decode cX9_face 15 = .ok (.iload_n 1, 1) := by decide +kernel
theorem dX9_face_16 : decode cX9_face 16 = .ok (.ifCond .lt 50, 3) := by decide +kernel
theorem dX9_face_19 : decode cX9_face 19 = .ok (.iload_n 1, 1) := by decide +kernel
theorem dX9_face_20 : decode cX9_face 20 = .ok (.aload_n 0, 1) := by decide +kernel
theorem dX9_face_21 : decode cX9_face 21 = .ok (.getfield 293, 3) := by decide +kernel
theorem dX9_face_24 : decode cX9_face 24 = .ok (.if_icmp .ge 42, 3) := by decide +kernel
theorem dX9_face_66 : decode cX9_face 66 = .ok (.iconst (-1), 1) := by decide +kernel
theorem dX9_face_67 : decode cX9_face 67 = .ok (.ireturn, 1) := by decide +kernel
theorem dX9_faces_0 : decode cX9_faces 0 = .ok (.aload_n 0, 1) := by decide +kernel
theorem dX9_faces_1 : decode cX9_faces 1 = .ok (.invokevirtual 318, 3) := by decide +kernel
theorem dX9_faces_4 : decode cX9_faces 4 = .ok (.ifCond .ne 6, 3) := by decide +kernel
theorem dX9_faces_10 : decode cX9_faces 10 = .ok (.aload_n 0, 1) := by decide +kernel
theorem dX9_faces_11 : decode cX9_faces 11 = .ok (.iconst 0, 1) := by decide +kernel
theorem dX9_faces_12 : decode cX9_faces 12 = .ok (.invokevirtual 321, 3) := by decide +kernel
theorem dX9_faces_15 : decode cX9_faces 15 = .ok (.aload_n 0, 1) := by decide +kernel
theorem dX9_faces_16 : decode cX9_faces 16 = .ok (.getfield 293, 3) := by decide +kernel
theorem dX9_faces_19 : decode cX9_faces 19 = .ok (.aload_n 0, 1) := by decide +kernel
theorem dX9_faces_20 : decode cX9_faces 20 = .ok (.invokevirtual 324, 3) := by decide +kernel
theorem dX9_faces_23 : decode cX9_faces 23 = .ok (.iadd, 1) := by decide +kernel
theorem dX9_faces_24 : decode cX9_faces 24 = .ok (.ireturn, 1) := by decide +kernel
theorem dX9_fill_0 : decode cX9_fill 0 = .ok (.iconst 0, 1) := by decide +kernel
theorem dX9_fill_1 : decode cX9_fill 1 = .ok (.istore_n 1, 1) := by decide +kernel
theorem dX9_fill_2 : decode cX9_fill 2 = .ok (.iload_n 1, 1) := by decide +kernel
theorem dX9_fill_3 : decode cX9_fill 3 = .ok (.aload_n 0, 1) := by decide +kernel
theorem dX9_fill_4 : decode cX9_fill 4 = .ok (.getfield 210, 3) := by decide +kernel
theorem dX9_fill_7 : decode cX9_fill 7 = .ok (.if_icmp .ge 21, 3) := by decide +kernel
theorem dX9_fill_28 : decode cX9_fill 28 = .ok (.iconst 0, 1) := by decide +kernel
theorem dX9_fill_29 : decode cX9_fill 29 = .ok (.istore_n 1, 1) := by decide +kernel
theorem dX9_fill_30 : decode cX9_fill 30 = .ok (.iload_n 1, 1) := by decide +kernel
theorem dX9_fill_31 : decode cX9_fill 31 = .ok (.aload_n 0, 1) := by decide +kernel
theorem dX9_fill_32 : decode cX9_fill 32 = .ok (.getfield 210, 3) := by decide +kernel
theorem dX9_fill_35 : decode cX9_fill 35 = .ok (.if_icmp .ge 103, 3) := by decide +kernel
theorem dX9_fill_138 : decode cX9_fill 138 = .ok (.aload_n 0, 1) := by decide +kernel
theorem dX9_fill_139 : decode cX9_fill 139 = .ok (.invokevirtual 245, 3) := by decide +kernel
theorem dX9_fill_142 : decode cX9_fill 142 = .ok (.aload_n 0, 1) := by decide +kernel
theorem dX9_fill_143 : decode cX9_fill 143 = .ok (.invokevirtual 224, 3) := by decide +kernel
theorem dX9_fill_146 : decode cX9_fill 146 = .ok (.istore_n 1, 1) := by decide +kernel
theorem dX9_fill_147 : decode cX9_fill 147 = .ok (.return_, 1) := by decide +kernel
theorem dX9_findBlocks_0 : decode cX9_findBlocks 0 = .ok (.aload_n 0, 1) := by decide +kernel
theorem dX9_findBlocks_1 : decode cX9_findBlocks 1 = .ok (.iconst 0, 1) := by decide +kernel
theorem dX9_findBlocks_2 : decode cX9_findBlocks 2 = .ok (.putfield 135, 3) := by decide +kernel
theorem dX9_findBlocks_5 : decode cX9_findBlocks 5 = .ok (.iconst 0, 1) := by decide +kernel
theorem dX9_findBlocks_6 : decode cX9_findBlocks 6 = .ok (.istore_n 1, 1) := by decide +kernel
theorem dX9_findBlocks_7 : decode cX9_findBlocks 7 = .ok (.iload_n 1, 1) := by decide +kernel
theorem dX9_findBlocks_8 : decode cX9_findBlocks 8 = .ok (.aload_n 0, 1) := by decide +kernel
theorem dX9_findBlocks_9 : decode cX9_findBlocks 9 = .ok (.getfield 131, 3) := by decide +kernel
theorem dX9_findBlocks_12 : decode cX9_findBlocks 12 = .ok (.if_icmp .ge 84, 3) := by decide +kernel
theorem dX9_findBlocks_15 : decode cX9_findBlocks 15 = .ok (.iload_n 1, 1) := by decide +kernel
theorem dX9_findBlocks_16 : decode cX9_findBlocks 16 = .ok (.iconst 1, 1) := by decide +kernel
theorem dX9_findBlocks_17 : decode cX9_findBlocks 17 = .ok (.iadd, 1) := by decide +kernel
theorem dX9_findBlocks_18 : decode cX9_findBlocks 18 = .ok (.istore_n 2, 1) := by decide +kernel
theorem dX9_findBlocks_19 : decode cX9_findBlocks 19 = .ok (.iload_n 2, 1) := by decide +kernel
theorem dX9_findBlocks_20 : decode cX9_findBlocks 20 = .ok (.aload_n 0, 1) := by decide +kernel
theorem dX9_findBlocks_21 : decode cX9_findBlocks 21 = .ok (.getfield 131, 3) := by decide +kernel
theorem dX9_findBlocks_24 : decode cX9_findBlocks 24 = .ok (.if_icmp .ge 66, 3) := by decide +kernel
theorem dX9_findBlocks_90 : decode cX9_findBlocks 90 = .ok (.iinc 1 1, 3) := by decide +kernel
theorem dX9_findBlocks_93 : decode cX9_findBlocks 93 = .ok (.goto (-86), 3) := by decide +kernel
theorem dX9_findBlocks_96 : decode cX9_findBlocks 96 = .ok (.iconst 0, 1) := by decide +kernel
theorem dX9_findBlocks_97 : decode cX9_findBlocks 97 = .ok (.istore_n 1, 1) := by decide +kernel
theorem dX9_findBlocks_98 : decode cX9_findBlocks 98 = .ok (.iload_n 1, 1) := by decide +kernel
theorem dX9_findBlocks_99 : decode cX9_findBlocks 99 = .ok (.aload_n 0, 1) := by decide +kernel
theorem dX9_findBlocks_100 : decode cX9_findBlocks 100 = .ok (.getfield 131, 3) := by decide +kernel
theorem dX9_findBlocks_103 : decode cX9_findBlocks 103 = .ok (.if_icmp .ge 122, 3) := by decide +kernel
theorem dX9_findBlocks_106 : decode cX9_findBlocks 106 = .ok (.aload_n 0, 1) := by decide +kernel
theorem dX9_findBlocks_107 : decode cX9_findBlocks 107 = .ok (.getfield 26, 3) := by decide +kernel
theorem dX9_findBlocks_110 : decode cX9_findBlocks 110 = .ok (.iload_n 1, 1) := by decide +kernel
theorem dX9_findBlocks_111 : decode cX9_findBlocks 111 = .ok (.iaload, 1) := by decide +kernel
theorem dX9_findBlocks_112 : decode cX9_findBlocks 112 = .ok (.istore_n 2, 1) := by decide +kernel
theorem dX9_findBlocks_113 : decode cX9_findBlocks 113 = .ok (.iload_n 2, 1) := by decide +kernel
theorem dX9_findBlocks_114 : decode cX9_findBlocks 114 = .ok (.ifCond .eq 105, 3) := by decide +kernel
theorem dX9_findBlocks_219 : decode cX9_findBlocks 219 = .ok (.iinc 1 1, 3) := by decide +kernel
theorem dX9_findBlocks_222 : decode cX9_findBlocks 222 = .ok (.goto (-124), 3) := by decide +kernel
theorem dX9_findBlocks_225 : decode cX9_findBlocks 225 = .ok (.return_, 1) := by decide +kernel
theorem dX9_findDrawing_0 : decode cX9_findDrawing 0 = .ok (.aload_n 0, 1) := by decide +kernel
theorem dX9_findDrawing_1 : decode cX9_findDrawing 1 = .ok (.getfield 210, 3) := by decide +kernel
theorem dX9_findDrawing_4 : decode cX9_findDrawing 4 = .ok (.iconst 3, 1) := by decide +kernel
theorem dX9_findDrawing_5 : decode cX9_findDrawing 5 = .ok (.if_icmp .ge 34, 3) := by decide +kernel
theorem dX9_findDrawing_8 : decode cX9_findDrawing 8 = .ok (.iconst 0, 1) := by decide +kernel
theorem dX9_findDrawing_9 : decode cX9_findDrawing 9 = .ok (.istore_n 1, 1) := by decide +kernel
theorem dX9_findDrawing_10 : decode cX9_findDrawing 10 = .ok (.iload_n 1, 1) := by decide +kernel
theorem dX9_findDrawing_11 : decode cX9_findDrawing 11 = .ok (.aload_n 0, 1) := by decide +kernel
theorem dX9_findDrawing_12 : decode cX9_findDrawing 12 = .ok (.getfield 210, 3) := by decide +kernel
theorem dX9_findDrawing_15 : decode cX9_findDrawing 15 = .ok (.if_icmp .ge 23, 3) := by decide +kernel
theorem dX9_findDrawing_38 : decode cX9_findDrawing 38 = .ok (.return_, 1) := by decide +kernel
theorem dX9_findRounds_0 : decode cX9_findRounds 0 = .ok (.iconst 0, 1) := by decide +kernel
theorem dX9_findRounds_1 : decode cX9_findRounds 1 = .ok (.istore_n 1, 1) := by decide +kernel
theorem dX9_findRounds_2 : decode cX9_findRounds 2 = .ok (.iload_n 1, 1) := by decide +kernel
theorem dX9_findRounds_3 : decode cX9_findRounds 3 = .ok (.aload_n 0, 1) := by decide +kernel
theorem dX9_findRounds_4 : decode cX9_findRounds 4 = .ok (.getfield 210, 3) := by decide +kernel
theorem dX9_findRounds_7 : decode cX9_findRounds 7 = .ok (.if_icmp .ge 16, 3) := by decide +kernel
theorem dX9_findRounds_23 : decode cX9_findRounds 23 = .ok (.aload_n 0, 1) := by decide +kernel
theorem dX9_findRounds_24 : decode cX9_findRounds 24 = .ok (.getfield 210, 3) := by decide +kernel
theorem dX9_findRounds_27 : decode cX9_findRounds 27 = .ok (.iconst 3, 1) := by decide +kernel
theorem dX9_findRounds_28 : decode cX9_findRounds 28 = .ok (.if_icmp .ge 47, 3) := by decide +kernel
theorem dX9_findRounds_31 : decode cX9_findRounds 31 = .ok (.iconst 0, 1) := by decide +kernel
theorem dX9_findRounds_32 : decode cX9_findRounds 32 = .ok (.istore_n 1, 1) := by decide +kernel
theorem dX9_findRounds_33 : decode cX9_findRounds 33 = .ok (.iload_n 1, 1) := by decide +kernel
theorem dX9_findRounds_34 : decode cX9_findRounds 34 = .ok (.aload_n 0, 1) := by decide +kernel
theorem dX9_findRounds_35 : decode cX9_findRounds 35 = .ok (.getfield 210, 3) := by decide +kernel
theorem dX9_findRounds_38 : decode cX9_findRounds 38 = .ok (.if_icmp .ge 36, 3) := by decide +kernel
theorem dX9_findRounds_74 : decode cX9_findRounds 74 = .ok (.return_, 1) := by decide +kernel
theorem dX9_findTurns_0 : decode cX9_findTurns 0 = .ok (.iconst 0, 1) := by decide +kernel
theorem dX9_findTurns_1 : decode cX9_findTurns 1 = .ok (.istore_n 1, 1) := by decide +kernel
theorem dX9_findTurns_2 : decode cX9_findTurns 2 = .ok (.iload_n 1, 1) := by decide +kernel
theorem dX9_findTurns_3 : decode cX9_findTurns 3 = .ok (.aload_n 0, 1) := by decide +kernel
theorem dX9_findTurns_4 : decode cX9_findTurns 4 = .ok (.getfield 210, 3) := by decide +kernel
theorem dX9_findTurns_7 : decode cX9_findTurns 7 = .ok (.if_icmp .ge 266, 3) := by decide +kernel
theorem dX9_findTurns_273 : decode cX9_findTurns 273 = .ok (.return_, 1) := by decide +kernel
theorem dX9_genus_0 : decode cX9_genus 0 = .ok (.aload_n 0, 1) := by decide +kernel
theorem dX9_genus_1 : decode cX9_genus 1 = .ok (.iconst 1, 1) := by decide +kernel
theorem dX9_genus_2 : decode cX9_genus 2 = .ok (.invokevirtual 321, 3) := by decide +kernel
theorem dX9_genus_5 : decode cX9_genus 5 = .ok (.iconst 2, 1) := by decide +kernel
theorem dX9_genus_6 : decode cX9_genus 6 = .ok (.aload_n 0, 1) := by decide +kernel
theorem dX9_genus_7 : decode cX9_genus 7 = .ok (.invokevirtual 327, 3) := by decide +kernel
theorem dX9_genus_10 : decode cX9_genus 10 = .ok (.imul, 1) := by decide +kernel
theorem dX9_genus_11 : decode cX9_genus 11 = .ok (.aload_n 0, 1) := by decide +kernel
theorem dX9_genus_12 : decode cX9_genus 12 = .ok (.getfield 210, 3) := by decide +kernel
theorem dX9_genus_15 : decode cX9_genus 15 = .ok (.isub, 1) := by decide +kernel
theorem dX9_genus_16 : decode cX9_genus 16 = .ok (.aload_n 0, 1) := by decide +kernel
theorem dX9_genus_17 : decode cX9_genus 17 = .ok (.invokevirtual 315, 3) := by decide +kernel
theorem dX9_genus_20 : decode cX9_genus 20 = .ok (.iadd, 1) := by decide +kernel
theorem dX9_genus_21 : decode cX9_genus 21 = .ok (.aload_n 0, 1) := by decide +kernel
theorem dX9_genus_22 : decode cX9_genus 22 = .ok (.getfield 293, 3) := by decide +kernel
theorem dX9_genus_25 : decode cX9_genus 25 = .ok (.aload_n 0, 1) := by decide +kernel
theorem dX9_genus_26 : decode cX9_genus 26 = .ok (.invokevirtual 324, 3) := by decide +kernel
theorem dX9_genus_29 : decode cX9_genus 29 = .ok (.iadd, 1) := by decide +kernel
theorem dX9_genus_30 : decode cX9_genus 30 = .ok (.isub, 1) := by decide +kernel
theorem dX9_genus_31 : decode cX9_genus 31 = .ok (.iconst 2, 1) := by decide +kernel
theorem dX9_genus_32 : decode cX9_genus 32 = .ok (.idiv, 1) := by decide +kernel
theorem dX9_genus_33 : decode cX9_genus 33 = .ok (.ireturn, 1) := by decide +kernel
theorem dX9_hasDual_0 : decode cX9_hasDual 0 = .ok (.aload_n 0, 1) := by decide +kernel
theorem dX9_hasDual_1 : decode cX9_hasDual 1 = .ok (.invokevirtual 318, 3) := by decide +kernel
theorem dX9_hasDual_4 : decode cX9_hasDual 4 = .ok (.ifCond .eq 22, 3) := by decide +kernel
theorem dX9_hasDual_7 : decode cX9_hasDual 7 = .ok (.aload_n 0, 1) := by decide +kernel
theorem dX9_hasDual_8 : decode cX9_hasDual 8 = .ok (.invokevirtual 315, 3) := by decide +kernel
theorem dX9_hasDual_11 : decode cX9_hasDual 11 = .ok (.ifCond .le 15, 3) := by decide +kernel
theorem dX9_hasDual_26 : decode cX9_hasDual 26 = .ok (.iconst 0, 1) := by decide +kernel
theorem dX9_hasDual_27 : decode cX9_hasDual 27 = .ok (.ireturn, 1) := by decide +kernel
theorem dX9_isArc_0 : decode cX9_isArc 0 = .ok (.iload_n 1, 1) := by decide +kernel
theorem dX9_isArc_1 : decode cX9_isArc 1 = .ok (.ifCond .lt 24, 3) := by decide +kernel
theorem dX9_isArc_4 : decode cX9_isArc 4 = .ok (.iload_n 1, 1) := by decide +kernel
theorem dX9_isArc_5 : decode cX9_isArc 5 = .ok (.aload_n 0, 1) := by decide +kernel
theorem dX9_isArc_6 : decode cX9_isArc 6 = .ok (.getfield 213, 3) := by decide +kernel
theorem dX9_isArc_9 : decode cX9_isArc 9 = .ok (.if_icmp .ge 16, 3) := by decide +kernel
theorem dX9_isArc_25 : decode cX9_isArc 25 = .ok (.iconst 0, 1) := by decide +kernel
theorem dX9_isArc_26 : decode cX9_isArc 26 = .ok (.ireturn, 1) := by decide +kernel
theorem dX9_isNode_0 : decode cX9_isNode 0 = .ok (.iload_n 1, 1) := by decide +kernel
theorem dX9_isNode_1 : decode cX9_isNode 1 = .ok (.ifCond .lt 15, 3) := by decide +kernel
theorem dX9_isNode_4 : decode cX9_isNode 4 = .ok (.iload_n 1, 1) := by decide +kernel
theorem dX9_isNode_5 : decode cX9_isNode 5 = .ok (.aload_n 0, 1) := by decide +kernel
theorem dX9_isNode_6 : decode cX9_isNode 6 = .ok (.getfield 210, 3) := by decide +kernel
theorem dX9_isNode_9 : decode cX9_isNode 9 = .ok (.if_icmp .ge 7, 3) := by decide +kernel
theorem dX9_isNode_16 : decode cX9_isNode 16 = .ok (.iconst 0, 1) := by decide +kernel
theorem dX9_isNode_17 : decode cX9_isNode 17 = .ok (.ireturn, 1) := by decide +kernel
theorem dX9_isPlane_0 : decode cX9_isPlane 0 = .ok (.iconst 0, 1) := by decide +kernel
theorem dX9_isPlane_1 : decode cX9_isPlane 1 = .ok (.istore_n 1, 1) := by decide +kernel
theorem dX9_isPlane_2 : decode cX9_isPlane 2 = .ok (.iconst 0, 1) := by decide +kernel
theorem dX9_isPlane_3 : decode cX9_isPlane 3 = .ok (.istore_n 2, 1) := by decide +kernel
theorem dX9_isPlane_4 : decode cX9_isPlane 4 = .ok (.iload_n 2, 1) := by decide +kernel
theorem dX9_isPlane_5 : decode cX9_isPlane 5 = .ok (.aload_n 0, 1) := by decide +kernel
theorem dX9_isPlane_6 : decode cX9_isPlane 6 = .ok (.getfield 131, 3) := by decide +kernel
theorem dX9_isPlane_9 : decode cX9_isPlane 9 = .ok (.if_icmp .ge 40, 3) := by decide +kernel
theorem dX9_isPlane_12 : decode cX9_isPlane 12 = .ok (.iload_n 2, 1) := by decide +kernel
theorem dX9_isPlane_13 : decode cX9_isPlane 13 = .ok (.iconst 1, 1) := by decide +kernel
theorem dX9_isPlane_14 : decode cX9_isPlane 14 = .ok (.iadd, 1) := by decide +kernel
theorem dX9_isPlane_15 : decode cX9_isPlane 15 = .ok (.istore_n 3, 1) := by decide +kernel
theorem dX9_isPlane_16 : decode cX9_isPlane 16 = .ok (.iload_n 3, 1) := by decide +kernel
theorem dX9_isPlane_17 : decode cX9_isPlane 17 = .ok (.aload_n 0, 1) := by decide +kernel
theorem dX9_isPlane_18 : decode cX9_isPlane 18 = .ok (.getfield 131, 3) := by decide +kernel
theorem dX9_isPlane_21 : decode cX9_isPlane 21 = .ok (.if_icmp .ge 22, 3) := by decide +kernel
theorem dX9_isPlane_43 : decode cX9_isPlane 43 = .ok (.iinc 2 1, 3) := by decide +kernel
theorem dX9_isPlane_46 : decode cX9_isPlane 46 = .ok (.goto (-42), 3) := by decide +kernel
theorem dX9_isPlane_49 : decode cX9_isPlane 49 = .ok (.aload_n 0, 1) := by decide +kernel
theorem dX9_isPlane_50 : decode cX9_isPlane 50 = .ok (.getfield 131, 3) := by decide +kernel
theorem dX9_isPlane_53 : decode cX9_isPlane 53 = .ok (.iconst 2, 1) := by decide +kernel
theorem dX9_isPlane_54 : decode cX9_isPlane 54 = .ok (.if_icmp .le 18, 3) := by decide +kernel
theorem dX9_isPlane_72 : decode cX9_isPlane 72 = .ok (.aload_n 0, 1) := by decide +kernel
theorem dX9_isPlane_73 : decode cX9_isPlane 73 = .ok (.invokevirtual 149, 3) := by decide +kernel
theorem dX9_isPlane_76 : decode cX9_isPlane 76 = .ok (.iconst 0, 1) := by decide +kernel
theorem dX9_isPlane_77 : decode cX9_isPlane 77 = .ok (.istore_n 2, 1) := by decide +kernel
theorem dX9_isPlane_78 : decode cX9_isPlane 78 = .ok (.iload_n 2, 1) := by decide +kernel
theorem dX9_isPlane_79 : decode cX9_isPlane 79 = .ok (.aload_n 0, 1) := by decide +kernel
theorem dX9_isPlane_80 : decode cX9_isPlane 80 = .ok (.getfield 135, 3) := by decide +kernel
theorem dX9_isPlane_83 : decode cX9_isPlane 83 = .ok (.if_icmp .ge 142, 3) := by decide +kernel
theorem dX9_isPlane_225 : decode cX9_isPlane 225 = .ok (.iconst 1, 1) := by decide +kernel
theorem dX9_isPlane_226 : decode cX9_isPlane 226 = .ok (.ireturn, 1) := by decide +kernel
theorem dX9_isPlaneNow_0 : decode cX9_isPlaneNow 0 = .ok (.aload_n 0, 1) := by decide +kernel
theorem dX9_isPlaneNow_1 : decode cX9_isPlaneNow 1 = .ok (.invokevirtual 299, 3) := by decide +kernel
theorem dX9_isPlaneNow_4 : decode cX9_isPlaneNow 4 = .ok (.aload_n 0, 1) := by decide +kernel
theorem dX9_isPlaneNow_5 : decode cX9_isPlaneNow 5 = .ok (.getfield 227, 3) := by decide +kernel
theorem dX9_isPlaneNow_8 : decode cX9_isPlaneNow 8 = .ok (.ireturn, 1) := by decide +kernel
theorem dX9_know_0 : decode cX9_know 0 = .ok (.aload_n 0, 1) := by decide +kernel
theorem dX9_know_1 : decode cX9_know 1 = .ok (.getfield 216, 3) := by decide +kernel
theorem dX9_know_4 : decode cX9_know 4 = .ok (.ifCond .eq 4, 3) := by decide +kernel
theorem dX9_know_8 : decode cX9_know 8 = .ok (.aload_n 0, 1) := by decide +kernel
theorem dX9_know_9 : decode cX9_know 9 = .ok (.iconst 1, 1) := by decide +kernel
theorem dX9_know_10 : decode cX9_know 10 = .ok (.putfield 216, 3) := by decide +kernel
theorem dX9_know_13 : decode cX9_know 13 = .ok (.aload_n 0, 1) := by decide +kernel
theorem dX9_know_14 : decode cX9_know 14 = .ok (.iconst 0, 1) := by decide +kernel
theorem dX9_know_15 : decode cX9_know 15 = .ok (.iconst (-1), 1) := by decide +kernel
theorem dX9_know_16 : decode cX9_know 16 = .ok (.invokevirtual 220, 3) := by decide +kernel
theorem dX9_know_19 : decode cX9_know 19 = .ok (.iconst 0, 1) := by decide +kernel
theorem dX9_know_20 : decode cX9_know 20 = .ok (.istore_n 1, 1) := by decide +kernel
theorem dX9_know_21 : decode cX9_know 21 = .ok (.iload_n 1, 1) := by decide +kernel
theorem dX9_know_22 : decode cX9_know 22 = .ok (.aload_n 0, 1) := by decide +kernel
theorem dX9_know_23 : decode cX9_know 23 = .ok (.getfield 210, 3) := by decide +kernel
theorem dX9_know_26 : decode cX9_know 26 = .ok (.if_icmp .ge 21, 3) := by decide +kernel
theorem dX9_know_47 : decode cX9_know 47 = .ok (.aload_n 0, 1) := by decide +kernel
theorem dX9_know_48 : decode cX9_know 48 = .ok (.aload_n 0, 1) := by decide +kernel
theorem dX9_know_49 : decode cX9_know 49 = .ok (.invokevirtual 224, 3) := by decide +kernel
theorem dX9_know_52 : decode cX9_know 52 = .ok (.putfield 227, 3) := by decide +kernel
theorem dX9_know_55 : decode cX9_know 55 = .ok (.aload_n 0, 1) := by decide +kernel
theorem dX9_know_56 : decode cX9_know 56 = .ok (.getfield 227, 3) := by decide +kernel
theorem dX9_know_59 : decode cX9_know 59 = .ok (.ifCond .eq 22, 3) := by decide +kernel
theorem dX9_know_62 : decode cX9_know 62 = .ok (.aload_n 0, 1) := by decide +kernel
theorem dX9_know_63 : decode cX9_know 63 = .ok (.invokevirtual 230, 3) := by decide +kernel
theorem dX9_know_66 : decode cX9_know 66 = .ok (.aload_n 0, 1) := by decide +kernel
theorem dX9_know_67 : decode cX9_know 67 = .ok (.invokevirtual 233, 3) := by decide +kernel
theorem dX9_know_70 : decode cX9_know 70 = .ok (.aload_n 0, 1) := by decide +kernel
theorem dX9_know_71 : decode cX9_know 71 = .ok (.invokevirtual 236, 3) := by decide +kernel
theorem dX9_know_74 : decode cX9_know 74 = .ok (.aload_n 0, 1) := by decide +kernel
theorem dX9_know_75 : decode cX9_know 75 = .ok (.invokevirtual 239, 3) := by decide +kernel
theorem dX9_know_78 : decode cX9_know 78 = .ok (.goto 7, 3) := by decide +kernel
theorem dX9_know_85 : decode cX9_know 85 = .ok (.return_, 1) := by decide +kernel
theorem dX9_node_0 : decode cX9_node 0 = .ok (.aload_n 0, 1) := by decide +kernel
theorem dX9_node_1 : decode cX9_node 1 = .ok (.getfield 210, 3) := by decide +kernel
theorem dX9_node_4 : decode cX9_node 4 = .ok (.bipush 20, 2) := by decide +kernel
theorem dX9_node_6 : decode cX9_node 6 = .ok (.if_icmp .ne 6, 3) := by decide +kernel
theorem dX9_node_12 : decode cX9_node 12 = .ok (.aload_n 0, 1) := by decide +kernel
theorem dX9_node_13 : decode cX9_node 13 = .ok (.getfield 23, 3) := by decide +kernel
theorem dX9_node_16 : decode cX9_node 16 = .ok (.aload_n 0, 1) := by decide +kernel
theorem dX9_node_17 : decode cX9_node 17 = .ok (.getfield 210, 3) := by decide +kernel
theorem dX9_node_20 : decode cX9_node 20 = .ok (.iconst 0, 1) := by decide +kernel
theorem dX9_node_21 : decode cX9_node 21 = .ok (.iastore, 1) := by decide +kernel
theorem dX9_node_22 : decode cX9_node 22 = .ok (.aload_n 0, 1) := by decide +kernel
theorem dX9_node_23 : decode cX9_node 23 = .ok (.dup, 1) := by decide +kernel
theorem dX9_node_24 : decode cX9_node 24 = .ok (.getfield 210, 3) := by decide +kernel
theorem dX9_node_27 : decode cX9_node 27 = .ok (.iconst 1, 1) := by decide +kernel
theorem dX9_node_28 : decode cX9_node 28 = .ok (.iadd, 1) := by decide +kernel
theorem dX9_node_29 : decode cX9_node 29 = .ok (.putfield 210, 3) := by decide +kernel
theorem dX9_node_32 : decode cX9_node 32 = .ok (.aload_n 0, 1) := by decide +kernel
theorem dX9_node_33 : decode cX9_node 33 = .ok (.iconst 0, 1) := by decide +kernel
theorem dX9_node_34 : decode cX9_node 34 = .ok (.putfield 216, 3) := by decide +kernel
theorem dX9_node_37 : decode cX9_node 37 = .ok (.aload_n 0, 1) := by decide +kernel
theorem dX9_node_38 : decode cX9_node 38 = .ok (.getfield 210, 3) := by decide +kernel
theorem dX9_node_41 : decode cX9_node 41 = .ok (.iconst 1, 1) := by decide +kernel
theorem dX9_node_42 : decode cX9_node 42 = .ok (.isub, 1) := by decide +kernel
theorem dX9_node_43 : decode cX9_node 43 = .ok (.ireturn, 1) := by decide +kernel
theorem dX9_outer_0 : decode cX9_outer 0 = .ok (.aload_n 0, 1) := by decide +kernel
theorem dX9_outer_1 : decode cX9_outer 1 = .ok (.iconst 0, 1) := by decide +kernel
theorem dX9_outer_2 : decode cX9_outer 2 = .ok (.iconst (-1), 1) := by decide +kernel
theorem dX9_outer_3 : decode cX9_outer 3 = .ok (.invokevirtual 220, 3) := by decide +kernel
theorem dX9_outer_6 : decode cX9_outer 6 = .ok (.iconst 0, 1) := by decide +kernel
theorem dX9_outer_7 : decode cX9_outer 7 = .ok (.istore_n 1, 1) := by decide +kernel
theorem dX9_outer_8 : decode cX9_outer 8 = .ok (.iload_n 1, 1) := by decide +kernel
theorem dX9_outer_9 : decode cX9_outer 9 = .ok (.aload_n 0, 1) := by decide +kernel
theorem dX9_outer_10 : decode cX9_outer 10 = .ok (.getfield 210, 3) := by decide +kernel
theorem dX9_outer_13 : decode cX9_outer 13 = .ok (.if_icmp .ge 39, 3) := by decide +kernel
theorem dX9_outer_52 : decode cX9_outer 52 = .ok (.aload_n 0, 1) := by decide +kernel
theorem dX9_outer_53 : decode cX9_outer 53 = .ok (.aload_n 0, 1) := by decide +kernel
theorem dX9_outer_54 : decode cX9_outer 54 = .ok (.getfield 210, 3) := by decide +kernel
theorem dX9_outer_57 : decode cX9_outer 57 = .ok (.iconst 1, 1) := by decide +kernel
theorem dX9_outer_58 : decode cX9_outer 58 = .ok (.iadd, 1) := by decide +kernel
theorem dX9_outer_59 : decode cX9_outer 59 = .ok (.putfield 131, 3) := by decide +kernel
theorem dX9_outer_62 : decode cX9_outer 62 = .ok (.aload_n 0, 1) := by decide +kernel
theorem dX9_outer_63 : decode cX9_outer 63 = .ok (.invokevirtual 224, 3) := by decide +kernel
theorem dX9_outer_66 : decode cX9_outer 66 = .ok (.ifCond .eq 7, 3) := by decide +kernel
theorem dX9_outer_69 : decode cX9_outer 69 = .ok (.iconst 1, 1) := by decide +kernel
theorem dX9_outer_70 : decode cX9_outer 70 = .ok (.goto 4, 3) := by decide +kernel
theorem dX9_outer_74 : decode cX9_outer 74 = .ok (.ireturn, 1) := by decide +kernel
theorem dX9_parts_0 : decode cX9_parts 0 = .ok (.aload_n 0, 1) := by decide +kernel
theorem dX9_parts_1 : decode cX9_parts 1 = .ok (.iconst 0, 1) := by decide +kernel
theorem dX9_parts_2 : decode cX9_parts 2 = .ok (.iconst (-1), 1) := by decide +kernel
theorem dX9_parts_3 : decode cX9_parts 3 = .ok (.invokevirtual 220, 3) := by decide +kernel
theorem dX9_parts_6 : decode cX9_parts 6 = .ok (.iconst 0, 1) := by decide +kernel
theorem dX9_parts_7 : decode cX9_parts 7 = .ok (.istore_n 1, 1) := by decide +kernel
theorem dX9_parts_8 : decode cX9_parts 8 = .ok (.iconst 0, 1) := by decide +kernel
theorem dX9_parts_9 : decode cX9_parts 9 = .ok (.istore_n 2, 1) := by decide +kernel
theorem dX9_parts_10 : decode cX9_parts 10 = .ok (.iconst 0, 1) := by decide +kernel
theorem dX9_parts_11 : decode cX9_parts 11 = .ok (.istore_n 3, 1) := by decide +kernel
theorem dX9_parts_12 : decode cX9_parts 12 = .ok (.iload_n 3, 1) := by decide +kernel
theorem dX9_parts_13 : decode cX9_parts 13 = .ok (.aload_n 0, 1) := by decide +kernel
theorem dX9_parts_14 : decode cX9_parts 14 = .ok (.getfield 210, 3) := by decide +kernel
theorem dX9_parts_17 : decode cX9_parts 17 = .ok (.if_icmp .ge 29, 3) := by decide +kernel
theorem dX9_parts_46 : decode cX9_parts 46 = .ok (.iload_n 2, 1) := by decide +kernel
theorem dX9_parts_47 : decode cX9_parts 47 = .ok (.ireturn, 1) := by decide +kernel
theorem dX9_piece_0 : decode cX9_piece 0 = .ok (.aload_n 0, 1) := by decide +kernel
theorem dX9_piece_1 : decode cX9_piece 1 = .ok (.invokevirtual 318, 3) := by decide +kernel
theorem dX9_piece_4 : decode cX9_piece 4 = .ok (.ifCond .eq 6, 3) := by decide +kernel
theorem dX9_piece_7 : decode cX9_piece 7 = .ok (.bipush (-3), 2) := by decide +kernel
theorem dX9_piece_9 : decode cX9_piece 9 = .ok (.ireturn, 1) := by decide +kernel
theorem dX9_place_0 : decode cX9_place 0 = .ok (.aload_n 0, 1) := by decide +kernel
theorem dX9_place_1 : decode cX9_place 1 = .ok (.iload_n 1, 1) := by decide +kernel
theorem dX9_place_2 : decode cX9_place 2 = .ok (.invokevirtual 302, 3) := by decide +kernel
theorem dX9_place_5 : decode cX9_place 5 = .ok (.ifCond .ne 5, 3) := by decide +kernel
theorem dX9_place_8 : decode cX9_place 8 = .ok (.iconst (-1), 1) := by decide +kernel
theorem dX9_place_9 : decode cX9_place 9 = .ok (.ireturn, 1) := by decide +kernel
theorem dX9_round_0 : decode cX9_round 0 = .ok (.aload_n 0, 1) := by decide +kernel
theorem dX9_round_1 : decode cX9_round 1 = .ok (.iload_n 1, 1) := by decide +kernel
theorem dX9_round_2 : decode cX9_round 2 = .ok (.invokevirtual 302, 3) := by decide +kernel
theorem dX9_round_5 : decode cX9_round 5 = .ok (.ifCond .ne 5, 3) := by decide +kernel
theorem dX9_round_8 : decode cX9_round 8 = .ok (.iconst (-1), 1) := by decide +kernel
theorem dX9_round_9 : decode cX9_round 9 = .ok (.ireturn, 1) := by decide +kernel
theorem dX9_strand_0 : decode cX9_strand 0 = .ok (.aload_n 0, 1) := by decide +kernel
theorem dX9_strand_1 : decode cX9_strand 1 = .ok (.iload_n 1, 1) := by decide +kernel
theorem dX9_strand_2 : decode cX9_strand 2 = .ok (.invokevirtual 309, 3) := by decide +kernel
theorem dX9_strand_5 : decode cX9_strand 5 = .ok (.ifCond .ne 5, 3) := by decide +kernel
theorem dX9_strand_8 : decode cX9_strand 8 = .ok (.iconst (-1), 1) := by decide +kernel
theorem dX9_strand_9 : decode cX9_strand 9 = .ok (.ireturn, 1) := by decide +kernel
theorem dX9_swap_0 : decode cX9_swap 0 = .ok (.aload_n 0, 1) := by decide +kernel
theorem dX9_swap_1 : decode cX9_swap 1 = .ok (.iload_n 1, 1) := by decide +kernel
theorem dX9_swap_2 : decode cX9_swap 2 = .ok (.invokevirtual 302, 3) := by decide +kernel
theorem dX9_swap_5 : decode cX9_swap 5 = .ok (.ifCond .eq 31, 3) := by decide +kernel
theorem dX9_swap_36 : decode cX9_swap 36 = .ok (.iconst (-1), 1) := by decide +kernel
theorem dX9_swap_37 : decode cX9_swap 37 = .ok (.ireturn, 1) := by decide +kernel
theorem dX9_take_0 : decode cX9_take 0 = .ok (.aload_n 0, 1) := by decide +kernel
theorem dX9_take_1 : decode cX9_take 1 = .ok (.invokevirtual 318, 3) := by decide +kernel
theorem dX9_take_4 : decode cX9_take 4 = .ok (.ifCond .ne 6, 3) := by decide +kernel
theorem dX9_take_10 : decode cX9_take 10 = .ok (.iconst 0, 1) := by decide +kernel
theorem dX9_take_11 : decode cX9_take 11 = .ok (.istore_n 1, 1) := by decide +kernel
theorem dX9_take_12 : decode cX9_take 12 = .ok (.iload_n 1, 1) := by decide +kernel
theorem dX9_take_13 : decode cX9_take 13 = .ok (.aload_n 0, 1) := by decide +kernel
theorem dX9_take_14 : decode cX9_take 14 = .ok (.getfield 210, 3) := by decide +kernel
theorem dX9_take_17 : decode cX9_take 17 = .ok (.if_icmp .ge 51, 3) := by decide +kernel
theorem dX9_take_68 : decode cX9_take 68 = .ok (.iconst 1, 1) := by decide +kernel
theorem dX9_take_69 : decode cX9_take 69 = .ok (.ireturn, 1) := by decide +kernel
theorem dX9_takeFilled_0 : decode cX9_takeFilled 0 = .ok (.iconst 0, 1) := by decide +kernel
theorem dX9_takeFilled_1 : decode cX9_takeFilled 1 = .ok (.istore_n 1, 1) := by decide +kernel
theorem dX9_takeFilled_2 : decode cX9_takeFilled 2 = .ok (.iload_n 1, 1) := by decide +kernel
theorem dX9_takeFilled_3 : decode cX9_takeFilled 3 = .ok (.aload_n 0, 1) := by decide +kernel
theorem dX9_takeFilled_4 : decode cX9_takeFilled 4 = .ok (.getfield 210, 3) := by decide +kernel
theorem dX9_takeFilled_7 : decode cX9_takeFilled 7 = .ok (.if_icmp .ge 21, 3) := by decide +kernel
theorem dX9_takeFilled_28 : decode cX9_takeFilled 28 = .ok (.return_, 1) := by decide +kernel
theorem dX9_takeSimple_0 : decode cX9_takeSimple 0 = .ok (.aload_n 0, 1) := by decide +kernel
theorem dX9_takeSimple_1 : decode cX9_takeSimple 1 = .ok (.aload_n 0, 1) := by decide +kernel
theorem dX9_takeSimple_2 : decode cX9_takeSimple 2 = .ok (.getfield 210, 3) := by decide +kernel
theorem dX9_takeSimple_5 : decode cX9_takeSimple 5 = .ok (.putfield 131, 3) := by decide +kernel
theorem dX9_takeSimple_8 : decode cX9_takeSimple 8 = .ok (.iconst 0, 1) := by decide +kernel
theorem dX9_takeSimple_9 : decode cX9_takeSimple 9 = .ok (.istore_n 3, 1) := by decide +kernel
theorem dX9_takeSimple_10 : decode cX9_takeSimple 10 = .ok (.iload_n 3, 1) := by decide +kernel
theorem dX9_takeSimple_11 : decode cX9_takeSimple 11 = .ok (.bipush 21, 2) := by decide +kernel
theorem dX9_takeSimple_13 : decode cX9_takeSimple 13 = .ok (.if_icmp .ge 16, 3) := by decide +kernel
theorem dX9_takeSimple_16 : decode cX9_takeSimple 16 = .ok (.aload_n 0, 1) := by decide +kernel
theorem dX9_takeSimple_17 : decode cX9_takeSimple 17 = .ok (.getfield 26, 3) := by decide +kernel
theorem dX9_takeSimple_20 : decode cX9_takeSimple 20 = .ok (.iload_n 3, 1) := by decide +kernel
theorem dX9_takeSimple_21 : decode cX9_takeSimple 21 = .ok (.iconst 0, 1) := by decide +kernel
theorem dX9_takeSimple_22 : decode cX9_takeSimple 22 = .ok (.iastore, 1) := by decide +kernel
theorem dX9_takeSimple_23 : decode cX9_takeSimple 23 = .ok (.iinc 3 1, 3) := by decide +kernel
theorem dX9_takeSimple_26 : decode cX9_takeSimple 26 = .ok (.goto (-16), 3) := by decide +kernel
theorem dX9_takeSimple_29 : decode cX9_takeSimple 29 = .ok (.iconst 0, 1) := by decide +kernel
theorem dX9_takeSimple_30 : decode cX9_takeSimple 30 = .ok (.istore_n 3, 1) := by decide +kernel
theorem dX9_takeSimple_31 : decode cX9_takeSimple 31 = .ok (.iload_n 3, 1) := by decide +kernel
theorem dX9_takeSimple_32 : decode cX9_takeSimple 32 = .ok (.aload_n 0, 1) := by decide +kernel
theorem dX9_takeSimple_33 : decode cX9_takeSimple 33 = .ok (.getfield 213, 3) := by decide +kernel
theorem dX9_takeSimple_36 : decode cX9_takeSimple 36 = .ok (.if_icmp .ge 95, 3) := by decide +kernel
theorem dX9_takeSimple_131 : decode cX9_takeSimple 131 = .ok (.return_, 1) := by decide +kernel
theorem dX9_test_0 : decode cX9_test 0 = .ok (.aload_n 0, 1) := by decide +kernel
theorem dX9_test_1 : decode cX9_test 1 = .ok (.invokevirtual 318, 3) := by decide +kernel
theorem dX9_test_4 : decode cX9_test 4 = .ok (.ifCond .eq 7, 3) := by decide +kernel
theorem dX9_test_7 : decode cX9_test 7 = .ok (.iconst 1, 1) := by decide +kernel
theorem dX9_test_8 : decode cX9_test 8 = .ok (.goto 4, 3) := by decide +kernel
theorem dX9_test_12 : decode cX9_test 12 = .ok (.ireturn, 1) := by decide +kernel
theorem dX9_told_0 : decode cX9_told 0 = .ok (.aload_n 0, 1) := by decide +kernel
theorem dX9_told_1 : decode cX9_told 1 = .ok (.iload_n 1, 1) := by decide +kernel
theorem dX9_told_2 : decode cX9_told 2 = .ok (.invokevirtual 302, 3) := by decide +kernel
theorem dX9_told_5 : decode cX9_told 5 = .ok (.ifCond .eq 32, 3) := by decide +kernel
theorem dX9_told_37 : decode cX9_told 37 = .ok (.iconst (-1), 1) := by decide +kernel
theorem dX9_told_38 : decode cX9_told 38 = .ok (.ireturn, 1) := by decide +kernel
theorem dX9_toldFaces_0 : decode cX9_toldFaces 0 = .ok (.aload_n 0, 1) := by decide +kernel
theorem dX9_toldFaces_1 : decode cX9_toldFaces 1 = .ok (.iconst 1, 1) := by decide +kernel
theorem dX9_toldFaces_2 : decode cX9_toldFaces 2 = .ok (.invokevirtual 321, 3) := by decide +kernel
theorem dX9_toldFaces_5 : decode cX9_toldFaces 5 = .ok (.aload_n 0, 1) := by decide +kernel
theorem dX9_toldFaces_6 : decode cX9_toldFaces 6 = .ok (.getfield 293, 3) := by decide +kernel
theorem dX9_toldFaces_9 : decode cX9_toldFaces 9 = .ok (.aload_n 0, 1) := by decide +kernel
theorem dX9_toldFaces_10 : decode cX9_toldFaces 10 = .ok (.invokevirtual 324, 3) := by decide +kernel
theorem dX9_toldFaces_13 : decode cX9_toldFaces 13 = .ok (.iadd, 1) := by decide +kernel
theorem dX9_toldFaces_14 : decode cX9_toldFaces 14 = .ok (.ireturn, 1) := by decide +kernel
theorem dX9_trace_0 : decode cX9_trace 0 = .ok (.aload_n 0, 1) := by decide +kernel
theorem dX9_trace_1 : decode cX9_trace 1 = .ok (.iconst 0, 1) := by decide +kernel
theorem dX9_trace_2 : decode cX9_trace 2 = .ok (.putfield 293, 3) := by decide +kernel
theorem dX9_trace_5 : decode cX9_trace 5 = .ok (.iconst 0, 1) := by decide +kernel
theorem dX9_trace_6 : decode cX9_trace 6 = .ok (.istore_n 2, 1) := by decide +kernel
theorem dX9_trace_7 : decode cX9_trace 7 = .ok (.iconst 0, 1) := by decide +kernel
theorem dX9_trace_8 : decode cX9_trace 8 = .ok (.istore_n 3, 1) := by decide +kernel
theorem dX9_trace_9 : decode cX9_trace 9 = .ok (.iload_n 3, 1) := by decide +kernel
theorem dX9_trace_10 : decode cX9_trace 10 = .ok (.sipush 160, 3) := by decide +kernel
theorem dX9_trace_13 : decode cX9_trace 13 = .ok (.if_icmp .ge 16, 3) := by decide +kernel
theorem dX9_trace_16 : decode cX9_trace 16 = .ok (.aload_n 0, 1) := by decide +kernel
theorem dX9_trace_17 : decode cX9_trace 17 = .ok (.getfield 125, 3) := by decide +kernel
theorem dX9_trace_20 : decode cX9_trace 20 = .ok (.iload_n 3, 1) := by decide +kernel
theorem dX9_trace_21 : decode cX9_trace 21 = .ok (.iconst (-1), 1) := by decide +kernel
theorem dX9_trace_22 : decode cX9_trace 22 = .ok (.iastore, 1) := by decide +kernel
theorem dX9_trace_23 : decode cX9_trace 23 = .ok (.iinc 3 1, 3) := by decide +kernel
theorem dX9_trace_26 : decode cX9_trace 26 = .ok (.goto (-17), 3) := by decide +kernel
theorem dX9_trace_29 : decode cX9_trace 29 = .ok (.iconst 0, 1) := by decide +kernel
theorem dX9_trace_30 : decode cX9_trace 30 = .ok (.istore_n 3, 1) := by decide +kernel
theorem dX9_trace_31 : decode cX9_trace 31 = .ok (.iload_n 3, 1) := by decide +kernel
theorem dX9_trace_32 : decode cX9_trace 32 = .ok (.iconst 2, 1) := by decide +kernel
theorem dX9_trace_33 : decode cX9_trace 33 = .ok (.aload_n 0, 1) := by decide +kernel
theorem dX9_trace_34 : decode cX9_trace 34 = .ok (.getfield 213, 3) := by decide +kernel
theorem dX9_trace_37 : decode cX9_trace 37 = .ok (.imul, 1) := by decide +kernel
theorem dX9_trace_38 : decode cX9_trace 38 = .ok (.if_icmp .ge 101, 3) := by decide +kernel
theorem dX9_trace_139 : decode cX9_trace 139 = .ok (.aload_n 0, 1) := by decide +kernel
theorem dX9_trace_140 : decode cX9_trace 140 = .ok (.getfield 122, 3) := by decide +kernel
theorem dX9_trace_143 : decode cX9_trace 143 = .ok (.aload_n 0, 1) := by decide +kernel
theorem dX9_trace_144 : decode cX9_trace 144 = .ok (.getfield 293, 3) := by decide +kernel
theorem dX9_trace_147 : decode cX9_trace 147 = .ok (.iload_n 2, 1) := by decide +kernel
theorem dX9_trace_148 : decode cX9_trace 148 = .ok (.iastore, 1) := by decide +kernel
theorem dX9_trace_149 : decode cX9_trace 149 = .ok (.return_, 1) := by decide +kernel
theorem dX9_turn_0 : decode cX9_turn 0 = .ok (.aload_n 0, 1) := by decide +kernel
theorem dX9_turn_1 : decode cX9_turn 1 = .ok (.iload_n 1, 1) := by decide +kernel
theorem dX9_turn_2 : decode cX9_turn 2 = .ok (.invokevirtual 302, 3) := by decide +kernel
theorem dX9_turn_5 : decode cX9_turn 5 = .ok (.ifCond .ne 5, 3) := by decide +kernel
theorem dX9_turn_8 : decode cX9_turn 8 = .ok (.iconst (-1), 1) := by decide +kernel
theorem dX9_turn_9 : decode cX9_turn 9 = .ok (.ireturn, 1) := by decide +kernel
