/-! the law: its own instructions, the script, a case a call -/
abbrev cL_law : ByteArray := code
def qL : ZMeth := (⟨RL, "law", "([I)Z"⟩, cL_law, 4, some .boolean, RL)
theorem dL_law_0 : decode qL.2.1 0 = .ok (.new 7, 3) := by decide +kernel
theorem dL_law_3 : decode qL.2.1 3 = .ok (.dup, 1) := by decide +kernel
theorem dL_law_4 : decode qL.2.1 4 = .ok (.invokespecial 9, 3) := by decide +kernel
theorem dL_law_7 : decode qL.2.1 7 = .ok (.astore_n 1, 1) := by decide +kernel
theorem dL_law_8 : decode qL.2.1 8 = .ok (.new 10, 3) := by decide +kernel
theorem dL_law_11 : decode qL.2.1 11 = .ok (.dup, 1) := by decide +kernel
theorem dL_law_12 : decode qL.2.1 12 = .ok (.invokespecial 12, 3) := by decide +kernel
theorem dL_law_15 : decode qL.2.1 15 = .ok (.astore_n 2, 1) := by decide +kernel
theorem dL_law_16 : decode qL.2.1 16 = .ok (.iconst 0, 1) := by decide +kernel
theorem dL_law_17 : decode qL.2.1 17 = .ok (.istore_n 3, 1) := by decide +kernel
theorem dL_law_18 : decode qL.2.1 18 = .ok (.iload_n 3, 1) := by decide +kernel
theorem dL_law_19 : decode qL.2.1 19 = .ok (.aload_n 0, 1) := by decide +kernel
theorem dL_law_20 : decode qL.2.1 20 = .ok (.arraylength, 1) := by decide +kernel
theorem dL_law_21 : decode qL.2.1 21 = .ok (.iconst 4, 1) := by decide +kernel
theorem dL_law_22 : decode qL.2.1 22 = .ok (.isub, 1) := by decide +kernel
theorem dL_law_23 : decode qL.2.1 23 = .ok (.if_icmp .gt 640, 3) := by decide +kernel
theorem dL_law_26 : decode qL.2.1 26 = .ok (.aload_n 0, 1) := by decide +kernel
theorem dL_law_27 : decode qL.2.1 27 = .ok (.iload_n 3, 1) := by decide +kernel
theorem dL_law_28 : decode qL.2.1 28 = .ok (.iaload, 1) := by decide +kernel
theorem dL_law_29 : decode qL.2.1 29 = .ok (.bipush 31, 2) := by decide +kernel
theorem dL_law_31 : decode qL.2.1 31 = .ok (.iand, 1) := by decide +kernel
theorem dL_law_32 : decode qL.2.1 32 = .ok (.tableswitch 625 0 16 #[84, 107, 130, 153, 196, 229, 262, 295, 338, 381, 404, 437, 470, 493, 526, 559, 602], 84) := by decide +kernel
theorem dL_law_116 : decode qL.2.1 116 = .ok (.aload_n 1, 1) := by decide +kernel
theorem dL_law_117 : decode qL.2.1 117 = .ok (.aload_n 0, 1) := by decide +kernel
theorem dL_law_118 : decode qL.2.1 118 = .ok (.iload_n 3, 1) := by decide +kernel
theorem dL_law_119 : decode qL.2.1 119 = .ok (.iconst 1, 1) := by decide +kernel
theorem dL_law_120 : decode qL.2.1 120 = .ok (.iadd, 1) := by decide +kernel
theorem dL_law_121 : decode qL.2.1 121 = .ok (.iaload, 1) := by decide +kernel
theorem dL_law_122 : decode qL.2.1 122 = .ok (.invokevirtual 13, 3) := by decide +kernel
theorem dL_law_125 : decode qL.2.1 125 = .ok (.aload_n 2, 1) := by decide +kernel
theorem dL_law_126 : decode qL.2.1 126 = .ok (.aload_n 0, 1) := by decide +kernel
theorem dL_law_127 : decode qL.2.1 127 = .ok (.iload_n 3, 1) := by decide +kernel
theorem dL_law_128 : decode qL.2.1 128 = .ok (.iconst 1, 1) := by decide +kernel
theorem dL_law_129 : decode qL.2.1 129 = .ok (.iadd, 1) := by decide +kernel
theorem dL_law_130 : decode qL.2.1 130 = .ok (.iaload, 1) := by decide +kernel
theorem dL_law_131 : decode qL.2.1 131 = .ok (.invokevirtual 17, 3) := by decide +kernel
theorem dL_law_134 : decode qL.2.1 134 = .ok (.if_icmp .eq 523, 3) := by decide +kernel
theorem dL_law_137 : decode qL.2.1 137 = .ok (.iconst 0, 1) := by decide +kernel
theorem dL_law_138 : decode qL.2.1 138 = .ok (.ireturn, 1) := by decide +kernel
theorem dL_law_139 : decode qL.2.1 139 = .ok (.aload_n 1, 1) := by decide +kernel
theorem dL_law_140 : decode qL.2.1 140 = .ok (.aload_n 0, 1) := by decide +kernel
theorem dL_law_141 : decode qL.2.1 141 = .ok (.iload_n 3, 1) := by decide +kernel
theorem dL_law_142 : decode qL.2.1 142 = .ok (.iconst 1, 1) := by decide +kernel
theorem dL_law_143 : decode qL.2.1 143 = .ok (.iadd, 1) := by decide +kernel
theorem dL_law_144 : decode qL.2.1 144 = .ok (.iaload, 1) := by decide +kernel
theorem dL_law_145 : decode qL.2.1 145 = .ok (.invokevirtual 18, 3) := by decide +kernel
theorem dL_law_148 : decode qL.2.1 148 = .ok (.aload_n 2, 1) := by decide +kernel
theorem dL_law_149 : decode qL.2.1 149 = .ok (.aload_n 0, 1) := by decide +kernel
theorem dL_law_150 : decode qL.2.1 150 = .ok (.iload_n 3, 1) := by decide +kernel
theorem dL_law_151 : decode qL.2.1 151 = .ok (.iconst 1, 1) := by decide +kernel
theorem dL_law_152 : decode qL.2.1 152 = .ok (.iadd, 1) := by decide +kernel
theorem dL_law_153 : decode qL.2.1 153 = .ok (.iaload, 1) := by decide +kernel
theorem dL_law_154 : decode qL.2.1 154 = .ok (.invokevirtual 21, 3) := by decide +kernel
theorem dL_law_157 : decode qL.2.1 157 = .ok (.if_icmp .eq 500, 3) := by decide +kernel
theorem dL_law_160 : decode qL.2.1 160 = .ok (.iconst 0, 1) := by decide +kernel
theorem dL_law_161 : decode qL.2.1 161 = .ok (.ireturn, 1) := by decide +kernel
theorem dL_law_162 : decode qL.2.1 162 = .ok (.aload_n 1, 1) := by decide +kernel
theorem dL_law_163 : decode qL.2.1 163 = .ok (.aload_n 0, 1) := by decide +kernel
theorem dL_law_164 : decode qL.2.1 164 = .ok (.iload_n 3, 1) := by decide +kernel
theorem dL_law_165 : decode qL.2.1 165 = .ok (.iconst 1, 1) := by decide +kernel
theorem dL_law_166 : decode qL.2.1 166 = .ok (.iadd, 1) := by decide +kernel
theorem dL_law_167 : decode qL.2.1 167 = .ok (.iaload, 1) := by decide +kernel
theorem dL_law_168 : decode qL.2.1 168 = .ok (.invokevirtual 22, 3) := by decide +kernel
theorem dL_law_171 : decode qL.2.1 171 = .ok (.aload_n 2, 1) := by decide +kernel
theorem dL_law_172 : decode qL.2.1 172 = .ok (.aload_n 0, 1) := by decide +kernel
theorem dL_law_173 : decode qL.2.1 173 = .ok (.iload_n 3, 1) := by decide +kernel
theorem dL_law_174 : decode qL.2.1 174 = .ok (.iconst 1, 1) := by decide +kernel
theorem dL_law_175 : decode qL.2.1 175 = .ok (.iadd, 1) := by decide +kernel
theorem dL_law_176 : decode qL.2.1 176 = .ok (.iaload, 1) := by decide +kernel
theorem dL_law_177 : decode qL.2.1 177 = .ok (.invokevirtual 25, 3) := by decide +kernel
theorem dL_law_180 : decode qL.2.1 180 = .ok (.if_icmp .eq 477, 3) := by decide +kernel
theorem dL_law_183 : decode qL.2.1 183 = .ok (.iconst 0, 1) := by decide +kernel
theorem dL_law_184 : decode qL.2.1 184 = .ok (.ireturn, 1) := by decide +kernel
theorem dL_law_185 : decode qL.2.1 185 = .ok (.aload_n 1, 1) := by decide +kernel
theorem dL_law_186 : decode qL.2.1 186 = .ok (.aload_n 0, 1) := by decide +kernel
theorem dL_law_187 : decode qL.2.1 187 = .ok (.iload_n 3, 1) := by decide +kernel
theorem dL_law_188 : decode qL.2.1 188 = .ok (.iconst 1, 1) := by decide +kernel
theorem dL_law_189 : decode qL.2.1 189 = .ok (.iadd, 1) := by decide +kernel
theorem dL_law_190 : decode qL.2.1 190 = .ok (.iaload, 1) := by decide +kernel
theorem dL_law_191 : decode qL.2.1 191 = .ok (.aload_n 0, 1) := by decide +kernel
theorem dL_law_192 : decode qL.2.1 192 = .ok (.iload_n 3, 1) := by decide +kernel
theorem dL_law_193 : decode qL.2.1 193 = .ok (.iconst 2, 1) := by decide +kernel
theorem dL_law_194 : decode qL.2.1 194 = .ok (.iadd, 1) := by decide +kernel
theorem dL_law_195 : decode qL.2.1 195 = .ok (.iaload, 1) := by decide +kernel
theorem dL_law_196 : decode qL.2.1 196 = .ok (.aload_n 0, 1) := by decide +kernel
theorem dL_law_197 : decode qL.2.1 197 = .ok (.iload_n 3, 1) := by decide +kernel
theorem dL_law_198 : decode qL.2.1 198 = .ok (.iconst 3, 1) := by decide +kernel
theorem dL_law_199 : decode qL.2.1 199 = .ok (.iadd, 1) := by decide +kernel
theorem dL_law_200 : decode qL.2.1 200 = .ok (.iaload, 1) := by decide +kernel
theorem dL_law_201 : decode qL.2.1 201 = .ok (.invokevirtual 26, 3) := by decide +kernel
theorem dL_law_204 : decode qL.2.1 204 = .ok (.aload_n 2, 1) := by decide +kernel
theorem dL_law_205 : decode qL.2.1 205 = .ok (.aload_n 0, 1) := by decide +kernel
theorem dL_law_206 : decode qL.2.1 206 = .ok (.iload_n 3, 1) := by decide +kernel
theorem dL_law_207 : decode qL.2.1 207 = .ok (.iconst 1, 1) := by decide +kernel
theorem dL_law_208 : decode qL.2.1 208 = .ok (.iadd, 1) := by decide +kernel
theorem dL_law_209 : decode qL.2.1 209 = .ok (.iaload, 1) := by decide +kernel
theorem dL_law_210 : decode qL.2.1 210 = .ok (.aload_n 0, 1) := by decide +kernel
theorem dL_law_211 : decode qL.2.1 211 = .ok (.iload_n 3, 1) := by decide +kernel
theorem dL_law_212 : decode qL.2.1 212 = .ok (.iconst 2, 1) := by decide +kernel
theorem dL_law_213 : decode qL.2.1 213 = .ok (.iadd, 1) := by decide +kernel
theorem dL_law_214 : decode qL.2.1 214 = .ok (.iaload, 1) := by decide +kernel
theorem dL_law_215 : decode qL.2.1 215 = .ok (.aload_n 0, 1) := by decide +kernel
theorem dL_law_216 : decode qL.2.1 216 = .ok (.iload_n 3, 1) := by decide +kernel
theorem dL_law_217 : decode qL.2.1 217 = .ok (.iconst 3, 1) := by decide +kernel
theorem dL_law_218 : decode qL.2.1 218 = .ok (.iadd, 1) := by decide +kernel
theorem dL_law_219 : decode qL.2.1 219 = .ok (.iaload, 1) := by decide +kernel
theorem dL_law_220 : decode qL.2.1 220 = .ok (.invokevirtual 30, 3) := by decide +kernel
theorem dL_law_223 : decode qL.2.1 223 = .ok (.if_icmp .eq 434, 3) := by decide +kernel
theorem dL_law_226 : decode qL.2.1 226 = .ok (.iconst 0, 1) := by decide +kernel
theorem dL_law_227 : decode qL.2.1 227 = .ok (.ireturn, 1) := by decide +kernel
theorem dL_law_228 : decode qL.2.1 228 = .ok (.aload_n 1, 1) := by decide +kernel
theorem dL_law_229 : decode qL.2.1 229 = .ok (.aload_n 0, 1) := by decide +kernel
theorem dL_law_230 : decode qL.2.1 230 = .ok (.iload_n 3, 1) := by decide +kernel
theorem dL_law_231 : decode qL.2.1 231 = .ok (.iconst 1, 1) := by decide +kernel
theorem dL_law_232 : decode qL.2.1 232 = .ok (.iadd, 1) := by decide +kernel
theorem dL_law_233 : decode qL.2.1 233 = .ok (.iaload, 1) := by decide +kernel
theorem dL_law_234 : decode qL.2.1 234 = .ok (.aload_n 0, 1) := by decide +kernel
theorem dL_law_235 : decode qL.2.1 235 = .ok (.iload_n 3, 1) := by decide +kernel
theorem dL_law_236 : decode qL.2.1 236 = .ok (.iconst 2, 1) := by decide +kernel
theorem dL_law_237 : decode qL.2.1 237 = .ok (.iadd, 1) := by decide +kernel
theorem dL_law_238 : decode qL.2.1 238 = .ok (.iaload, 1) := by decide +kernel
theorem dL_law_239 : decode qL.2.1 239 = .ok (.invokevirtual 31, 3) := by decide +kernel
theorem dL_law_242 : decode qL.2.1 242 = .ok (.aload_n 2, 1) := by decide +kernel
theorem dL_law_243 : decode qL.2.1 243 = .ok (.aload_n 0, 1) := by decide +kernel
theorem dL_law_244 : decode qL.2.1 244 = .ok (.iload_n 3, 1) := by decide +kernel
theorem dL_law_245 : decode qL.2.1 245 = .ok (.iconst 1, 1) := by decide +kernel
theorem dL_law_246 : decode qL.2.1 246 = .ok (.iadd, 1) := by decide +kernel
theorem dL_law_247 : decode qL.2.1 247 = .ok (.iaload, 1) := by decide +kernel
theorem dL_law_248 : decode qL.2.1 248 = .ok (.aload_n 0, 1) := by decide +kernel
theorem dL_law_249 : decode qL.2.1 249 = .ok (.iload_n 3, 1) := by decide +kernel
theorem dL_law_250 : decode qL.2.1 250 = .ok (.iconst 2, 1) := by decide +kernel
theorem dL_law_251 : decode qL.2.1 251 = .ok (.iadd, 1) := by decide +kernel
theorem dL_law_252 : decode qL.2.1 252 = .ok (.iaload, 1) := by decide +kernel
theorem dL_law_253 : decode qL.2.1 253 = .ok (.invokevirtual 35, 3) := by decide +kernel
theorem dL_law_256 : decode qL.2.1 256 = .ok (.if_icmp .eq 401, 3) := by decide +kernel
theorem dL_law_259 : decode qL.2.1 259 = .ok (.iconst 0, 1) := by decide +kernel
theorem dL_law_260 : decode qL.2.1 260 = .ok (.ireturn, 1) := by decide +kernel
theorem dL_law_261 : decode qL.2.1 261 = .ok (.aload_n 1, 1) := by decide +kernel
theorem dL_law_262 : decode qL.2.1 262 = .ok (.aload_n 0, 1) := by decide +kernel
theorem dL_law_263 : decode qL.2.1 263 = .ok (.iload_n 3, 1) := by decide +kernel
theorem dL_law_264 : decode qL.2.1 264 = .ok (.iconst 1, 1) := by decide +kernel
theorem dL_law_265 : decode qL.2.1 265 = .ok (.iadd, 1) := by decide +kernel
theorem dL_law_266 : decode qL.2.1 266 = .ok (.iaload, 1) := by decide +kernel
theorem dL_law_267 : decode qL.2.1 267 = .ok (.aload_n 0, 1) := by decide +kernel
theorem dL_law_268 : decode qL.2.1 268 = .ok (.iload_n 3, 1) := by decide +kernel
theorem dL_law_269 : decode qL.2.1 269 = .ok (.iconst 2, 1) := by decide +kernel
theorem dL_law_270 : decode qL.2.1 270 = .ok (.iadd, 1) := by decide +kernel
theorem dL_law_271 : decode qL.2.1 271 = .ok (.iaload, 1) := by decide +kernel
theorem dL_law_272 : decode qL.2.1 272 = .ok (.invokevirtual 36, 3) := by decide +kernel
theorem dL_law_275 : decode qL.2.1 275 = .ok (.aload_n 2, 1) := by decide +kernel
theorem dL_law_276 : decode qL.2.1 276 = .ok (.aload_n 0, 1) := by decide +kernel
theorem dL_law_277 : decode qL.2.1 277 = .ok (.iload_n 3, 1) := by decide +kernel
theorem dL_law_278 : decode qL.2.1 278 = .ok (.iconst 1, 1) := by decide +kernel
theorem dL_law_279 : decode qL.2.1 279 = .ok (.iadd, 1) := by decide +kernel
theorem dL_law_280 : decode qL.2.1 280 = .ok (.iaload, 1) := by decide +kernel
theorem dL_law_281 : decode qL.2.1 281 = .ok (.aload_n 0, 1) := by decide +kernel
theorem dL_law_282 : decode qL.2.1 282 = .ok (.iload_n 3, 1) := by decide +kernel
theorem dL_law_283 : decode qL.2.1 283 = .ok (.iconst 2, 1) := by decide +kernel
theorem dL_law_284 : decode qL.2.1 284 = .ok (.iadd, 1) := by decide +kernel
theorem dL_law_285 : decode qL.2.1 285 = .ok (.iaload, 1) := by decide +kernel
theorem dL_law_286 : decode qL.2.1 286 = .ok (.invokevirtual 39, 3) := by decide +kernel
theorem dL_law_289 : decode qL.2.1 289 = .ok (.if_icmp .eq 368, 3) := by decide +kernel
theorem dL_law_292 : decode qL.2.1 292 = .ok (.iconst 0, 1) := by decide +kernel
theorem dL_law_293 : decode qL.2.1 293 = .ok (.ireturn, 1) := by decide +kernel
theorem dL_law_294 : decode qL.2.1 294 = .ok (.aload_n 1, 1) := by decide +kernel
theorem dL_law_295 : decode qL.2.1 295 = .ok (.aload_n 0, 1) := by decide +kernel
theorem dL_law_296 : decode qL.2.1 296 = .ok (.iload_n 3, 1) := by decide +kernel
theorem dL_law_297 : decode qL.2.1 297 = .ok (.iconst 1, 1) := by decide +kernel
theorem dL_law_298 : decode qL.2.1 298 = .ok (.iadd, 1) := by decide +kernel
theorem dL_law_299 : decode qL.2.1 299 = .ok (.iaload, 1) := by decide +kernel
theorem dL_law_300 : decode qL.2.1 300 = .ok (.aload_n 0, 1) := by decide +kernel
theorem dL_law_301 : decode qL.2.1 301 = .ok (.iload_n 3, 1) := by decide +kernel
theorem dL_law_302 : decode qL.2.1 302 = .ok (.iconst 2, 1) := by decide +kernel
theorem dL_law_303 : decode qL.2.1 303 = .ok (.iadd, 1) := by decide +kernel
theorem dL_law_304 : decode qL.2.1 304 = .ok (.iaload, 1) := by decide +kernel
theorem dL_law_305 : decode qL.2.1 305 = .ok (.invokevirtual 40, 3) := by decide +kernel
theorem dL_law_308 : decode qL.2.1 308 = .ok (.aload_n 2, 1) := by decide +kernel
theorem dL_law_309 : decode qL.2.1 309 = .ok (.aload_n 0, 1) := by decide +kernel
theorem dL_law_310 : decode qL.2.1 310 = .ok (.iload_n 3, 1) := by decide +kernel
theorem dL_law_311 : decode qL.2.1 311 = .ok (.iconst 1, 1) := by decide +kernel
theorem dL_law_312 : decode qL.2.1 312 = .ok (.iadd, 1) := by decide +kernel
theorem dL_law_313 : decode qL.2.1 313 = .ok (.iaload, 1) := by decide +kernel
theorem dL_law_314 : decode qL.2.1 314 = .ok (.aload_n 0, 1) := by decide +kernel
theorem dL_law_315 : decode qL.2.1 315 = .ok (.iload_n 3, 1) := by decide +kernel
theorem dL_law_316 : decode qL.2.1 316 = .ok (.iconst 2, 1) := by decide +kernel
theorem dL_law_317 : decode qL.2.1 317 = .ok (.iadd, 1) := by decide +kernel
theorem dL_law_318 : decode qL.2.1 318 = .ok (.iaload, 1) := by decide +kernel
theorem dL_law_319 : decode qL.2.1 319 = .ok (.invokevirtual 43, 3) := by decide +kernel
theorem dL_law_322 : decode qL.2.1 322 = .ok (.if_icmp .eq 335, 3) := by decide +kernel
theorem dL_law_325 : decode qL.2.1 325 = .ok (.iconst 0, 1) := by decide +kernel
theorem dL_law_326 : decode qL.2.1 326 = .ok (.ireturn, 1) := by decide +kernel
theorem dL_law_327 : decode qL.2.1 327 = .ok (.aload_n 1, 1) := by decide +kernel
theorem dL_law_328 : decode qL.2.1 328 = .ok (.aload_n 0, 1) := by decide +kernel
theorem dL_law_329 : decode qL.2.1 329 = .ok (.iload_n 3, 1) := by decide +kernel
theorem dL_law_330 : decode qL.2.1 330 = .ok (.iconst 1, 1) := by decide +kernel
theorem dL_law_331 : decode qL.2.1 331 = .ok (.iadd, 1) := by decide +kernel
theorem dL_law_332 : decode qL.2.1 332 = .ok (.iaload, 1) := by decide +kernel
theorem dL_law_333 : decode qL.2.1 333 = .ok (.aload_n 0, 1) := by decide +kernel
theorem dL_law_334 : decode qL.2.1 334 = .ok (.iload_n 3, 1) := by decide +kernel
theorem dL_law_335 : decode qL.2.1 335 = .ok (.iconst 2, 1) := by decide +kernel
theorem dL_law_336 : decode qL.2.1 336 = .ok (.iadd, 1) := by decide +kernel
theorem dL_law_337 : decode qL.2.1 337 = .ok (.iaload, 1) := by decide +kernel
theorem dL_law_338 : decode qL.2.1 338 = .ok (.aload_n 0, 1) := by decide +kernel
theorem dL_law_339 : decode qL.2.1 339 = .ok (.iload_n 3, 1) := by decide +kernel
theorem dL_law_340 : decode qL.2.1 340 = .ok (.iconst 3, 1) := by decide +kernel
theorem dL_law_341 : decode qL.2.1 341 = .ok (.iadd, 1) := by decide +kernel
theorem dL_law_342 : decode qL.2.1 342 = .ok (.iaload, 1) := by decide +kernel
theorem dL_law_343 : decode qL.2.1 343 = .ok (.invokevirtual 44, 3) := by decide +kernel
theorem dL_law_346 : decode qL.2.1 346 = .ok (.aload_n 2, 1) := by decide +kernel
theorem dL_law_347 : decode qL.2.1 347 = .ok (.aload_n 0, 1) := by decide +kernel
theorem dL_law_348 : decode qL.2.1 348 = .ok (.iload_n 3, 1) := by decide +kernel
theorem dL_law_349 : decode qL.2.1 349 = .ok (.iconst 1, 1) := by decide +kernel
theorem dL_law_350 : decode qL.2.1 350 = .ok (.iadd, 1) := by decide +kernel
theorem dL_law_351 : decode qL.2.1 351 = .ok (.iaload, 1) := by decide +kernel
theorem dL_law_352 : decode qL.2.1 352 = .ok (.aload_n 0, 1) := by decide +kernel
theorem dL_law_353 : decode qL.2.1 353 = .ok (.iload_n 3, 1) := by decide +kernel
theorem dL_law_354 : decode qL.2.1 354 = .ok (.iconst 2, 1) := by decide +kernel
theorem dL_law_355 : decode qL.2.1 355 = .ok (.iadd, 1) := by decide +kernel
theorem dL_law_356 : decode qL.2.1 356 = .ok (.iaload, 1) := by decide +kernel
theorem dL_law_357 : decode qL.2.1 357 = .ok (.aload_n 0, 1) := by decide +kernel
theorem dL_law_358 : decode qL.2.1 358 = .ok (.iload_n 3, 1) := by decide +kernel
theorem dL_law_359 : decode qL.2.1 359 = .ok (.iconst 3, 1) := by decide +kernel
theorem dL_law_360 : decode qL.2.1 360 = .ok (.iadd, 1) := by decide +kernel
theorem dL_law_361 : decode qL.2.1 361 = .ok (.iaload, 1) := by decide +kernel
theorem dL_law_362 : decode qL.2.1 362 = .ok (.invokevirtual 47, 3) := by decide +kernel
theorem dL_law_365 : decode qL.2.1 365 = .ok (.if_icmp .eq 292, 3) := by decide +kernel
theorem dL_law_368 : decode qL.2.1 368 = .ok (.iconst 0, 1) := by decide +kernel
theorem dL_law_369 : decode qL.2.1 369 = .ok (.ireturn, 1) := by decide +kernel
theorem dL_law_370 : decode qL.2.1 370 = .ok (.aload_n 1, 1) := by decide +kernel
theorem dL_law_371 : decode qL.2.1 371 = .ok (.aload_n 0, 1) := by decide +kernel
theorem dL_law_372 : decode qL.2.1 372 = .ok (.iload_n 3, 1) := by decide +kernel
theorem dL_law_373 : decode qL.2.1 373 = .ok (.iconst 1, 1) := by decide +kernel
theorem dL_law_374 : decode qL.2.1 374 = .ok (.iadd, 1) := by decide +kernel
theorem dL_law_375 : decode qL.2.1 375 = .ok (.iaload, 1) := by decide +kernel
theorem dL_law_376 : decode qL.2.1 376 = .ok (.aload_n 0, 1) := by decide +kernel
theorem dL_law_377 : decode qL.2.1 377 = .ok (.iload_n 3, 1) := by decide +kernel
theorem dL_law_378 : decode qL.2.1 378 = .ok (.iconst 2, 1) := by decide +kernel
theorem dL_law_379 : decode qL.2.1 379 = .ok (.iadd, 1) := by decide +kernel
theorem dL_law_380 : decode qL.2.1 380 = .ok (.iaload, 1) := by decide +kernel
theorem dL_law_381 : decode qL.2.1 381 = .ok (.aload_n 0, 1) := by decide +kernel
theorem dL_law_382 : decode qL.2.1 382 = .ok (.iload_n 3, 1) := by decide +kernel
theorem dL_law_383 : decode qL.2.1 383 = .ok (.iconst 3, 1) := by decide +kernel
theorem dL_law_384 : decode qL.2.1 384 = .ok (.iadd, 1) := by decide +kernel
theorem dL_law_385 : decode qL.2.1 385 = .ok (.iaload, 1) := by decide +kernel
theorem dL_law_386 : decode qL.2.1 386 = .ok (.invokevirtual 48, 3) := by decide +kernel
theorem dL_law_389 : decode qL.2.1 389 = .ok (.aload_n 2, 1) := by decide +kernel
theorem dL_law_390 : decode qL.2.1 390 = .ok (.aload_n 0, 1) := by decide +kernel
theorem dL_law_391 : decode qL.2.1 391 = .ok (.iload_n 3, 1) := by decide +kernel
theorem dL_law_392 : decode qL.2.1 392 = .ok (.iconst 1, 1) := by decide +kernel
theorem dL_law_393 : decode qL.2.1 393 = .ok (.iadd, 1) := by decide +kernel
theorem dL_law_394 : decode qL.2.1 394 = .ok (.iaload, 1) := by decide +kernel
theorem dL_law_395 : decode qL.2.1 395 = .ok (.aload_n 0, 1) := by decide +kernel
theorem dL_law_396 : decode qL.2.1 396 = .ok (.iload_n 3, 1) := by decide +kernel
theorem dL_law_397 : decode qL.2.1 397 = .ok (.iconst 2, 1) := by decide +kernel
theorem dL_law_398 : decode qL.2.1 398 = .ok (.iadd, 1) := by decide +kernel
theorem dL_law_399 : decode qL.2.1 399 = .ok (.iaload, 1) := by decide +kernel
theorem dL_law_400 : decode qL.2.1 400 = .ok (.aload_n 0, 1) := by decide +kernel
theorem dL_law_401 : decode qL.2.1 401 = .ok (.iload_n 3, 1) := by decide +kernel
theorem dL_law_402 : decode qL.2.1 402 = .ok (.iconst 3, 1) := by decide +kernel
theorem dL_law_403 : decode qL.2.1 403 = .ok (.iadd, 1) := by decide +kernel
theorem dL_law_404 : decode qL.2.1 404 = .ok (.iaload, 1) := by decide +kernel
theorem dL_law_405 : decode qL.2.1 405 = .ok (.invokevirtual 51, 3) := by decide +kernel
theorem dL_law_408 : decode qL.2.1 408 = .ok (.if_icmp .eq 249, 3) := by decide +kernel
theorem dL_law_411 : decode qL.2.1 411 = .ok (.iconst 0, 1) := by decide +kernel
theorem dL_law_412 : decode qL.2.1 412 = .ok (.ireturn, 1) := by decide +kernel
theorem dL_law_413 : decode qL.2.1 413 = .ok (.aload_n 1, 1) := by decide +kernel
theorem dL_law_414 : decode qL.2.1 414 = .ok (.aload_n 0, 1) := by decide +kernel
theorem dL_law_415 : decode qL.2.1 415 = .ok (.iload_n 3, 1) := by decide +kernel
theorem dL_law_416 : decode qL.2.1 416 = .ok (.iconst 1, 1) := by decide +kernel
theorem dL_law_417 : decode qL.2.1 417 = .ok (.iadd, 1) := by decide +kernel
theorem dL_law_418 : decode qL.2.1 418 = .ok (.iaload, 1) := by decide +kernel
theorem dL_law_419 : decode qL.2.1 419 = .ok (.invokevirtual 52, 3) := by decide +kernel
theorem dL_law_422 : decode qL.2.1 422 = .ok (.aload_n 2, 1) := by decide +kernel
theorem dL_law_423 : decode qL.2.1 423 = .ok (.aload_n 0, 1) := by decide +kernel
theorem dL_law_424 : decode qL.2.1 424 = .ok (.iload_n 3, 1) := by decide +kernel
theorem dL_law_425 : decode qL.2.1 425 = .ok (.iconst 1, 1) := by decide +kernel
theorem dL_law_426 : decode qL.2.1 426 = .ok (.iadd, 1) := by decide +kernel
theorem dL_law_427 : decode qL.2.1 427 = .ok (.iaload, 1) := by decide +kernel
theorem dL_law_428 : decode qL.2.1 428 = .ok (.invokevirtual 55, 3) := by decide +kernel
theorem dL_law_431 : decode qL.2.1 431 = .ok (.if_icmp .eq 226, 3) := by decide +kernel
theorem dL_law_434 : decode qL.2.1 434 = .ok (.iconst 0, 1) := by decide +kernel
theorem dL_law_435 : decode qL.2.1 435 = .ok (.ireturn, 1) := by decide +kernel
theorem dL_law_436 : decode qL.2.1 436 = .ok (.aload_n 1, 1) := by decide +kernel
theorem dL_law_437 : decode qL.2.1 437 = .ok (.aload_n 0, 1) := by decide +kernel
theorem dL_law_438 : decode qL.2.1 438 = .ok (.iload_n 3, 1) := by decide +kernel
theorem dL_law_439 : decode qL.2.1 439 = .ok (.iconst 1, 1) := by decide +kernel
theorem dL_law_440 : decode qL.2.1 440 = .ok (.iadd, 1) := by decide +kernel
theorem dL_law_441 : decode qL.2.1 441 = .ok (.iaload, 1) := by decide +kernel
theorem dL_law_442 : decode qL.2.1 442 = .ok (.aload_n 0, 1) := by decide +kernel
theorem dL_law_443 : decode qL.2.1 443 = .ok (.iload_n 3, 1) := by decide +kernel
theorem dL_law_444 : decode qL.2.1 444 = .ok (.iconst 2, 1) := by decide +kernel
theorem dL_law_445 : decode qL.2.1 445 = .ok (.iadd, 1) := by decide +kernel
theorem dL_law_446 : decode qL.2.1 446 = .ok (.iaload, 1) := by decide +kernel
theorem dL_law_447 : decode qL.2.1 447 = .ok (.invokevirtual 56, 3) := by decide +kernel
theorem dL_law_450 : decode qL.2.1 450 = .ok (.aload_n 2, 1) := by decide +kernel
theorem dL_law_451 : decode qL.2.1 451 = .ok (.aload_n 0, 1) := by decide +kernel
theorem dL_law_452 : decode qL.2.1 452 = .ok (.iload_n 3, 1) := by decide +kernel
theorem dL_law_453 : decode qL.2.1 453 = .ok (.iconst 1, 1) := by decide +kernel
theorem dL_law_454 : decode qL.2.1 454 = .ok (.iadd, 1) := by decide +kernel
theorem dL_law_455 : decode qL.2.1 455 = .ok (.iaload, 1) := by decide +kernel
theorem dL_law_456 : decode qL.2.1 456 = .ok (.aload_n 0, 1) := by decide +kernel
theorem dL_law_457 : decode qL.2.1 457 = .ok (.iload_n 3, 1) := by decide +kernel
theorem dL_law_458 : decode qL.2.1 458 = .ok (.iconst 2, 1) := by decide +kernel
theorem dL_law_459 : decode qL.2.1 459 = .ok (.iadd, 1) := by decide +kernel
theorem dL_law_460 : decode qL.2.1 460 = .ok (.iaload, 1) := by decide +kernel
theorem dL_law_461 : decode qL.2.1 461 = .ok (.invokevirtual 59, 3) := by decide +kernel
theorem dL_law_464 : decode qL.2.1 464 = .ok (.if_icmp .eq 193, 3) := by decide +kernel
theorem dL_law_467 : decode qL.2.1 467 = .ok (.iconst 0, 1) := by decide +kernel
theorem dL_law_468 : decode qL.2.1 468 = .ok (.ireturn, 1) := by decide +kernel
theorem dL_law_469 : decode qL.2.1 469 = .ok (.aload_n 1, 1) := by decide +kernel
theorem dL_law_470 : decode qL.2.1 470 = .ok (.aload_n 0, 1) := by decide +kernel
theorem dL_law_471 : decode qL.2.1 471 = .ok (.iload_n 3, 1) := by decide +kernel
theorem dL_law_472 : decode qL.2.1 472 = .ok (.iconst 1, 1) := by decide +kernel
theorem dL_law_473 : decode qL.2.1 473 = .ok (.iadd, 1) := by decide +kernel
theorem dL_law_474 : decode qL.2.1 474 = .ok (.iaload, 1) := by decide +kernel
theorem dL_law_475 : decode qL.2.1 475 = .ok (.aload_n 0, 1) := by decide +kernel
theorem dL_law_476 : decode qL.2.1 476 = .ok (.iload_n 3, 1) := by decide +kernel
theorem dL_law_477 : decode qL.2.1 477 = .ok (.iconst 2, 1) := by decide +kernel
theorem dL_law_478 : decode qL.2.1 478 = .ok (.iadd, 1) := by decide +kernel
theorem dL_law_479 : decode qL.2.1 479 = .ok (.iaload, 1) := by decide +kernel
theorem dL_law_480 : decode qL.2.1 480 = .ok (.invokevirtual 60, 3) := by decide +kernel
theorem dL_law_483 : decode qL.2.1 483 = .ok (.aload_n 2, 1) := by decide +kernel
theorem dL_law_484 : decode qL.2.1 484 = .ok (.aload_n 0, 1) := by decide +kernel
theorem dL_law_485 : decode qL.2.1 485 = .ok (.iload_n 3, 1) := by decide +kernel
theorem dL_law_486 : decode qL.2.1 486 = .ok (.iconst 1, 1) := by decide +kernel
theorem dL_law_487 : decode qL.2.1 487 = .ok (.iadd, 1) := by decide +kernel
theorem dL_law_488 : decode qL.2.1 488 = .ok (.iaload, 1) := by decide +kernel
theorem dL_law_489 : decode qL.2.1 489 = .ok (.aload_n 0, 1) := by decide +kernel
theorem dL_law_490 : decode qL.2.1 490 = .ok (.iload_n 3, 1) := by decide +kernel
theorem dL_law_491 : decode qL.2.1 491 = .ok (.iconst 2, 1) := by decide +kernel
theorem dL_law_492 : decode qL.2.1 492 = .ok (.iadd, 1) := by decide +kernel
theorem dL_law_493 : decode qL.2.1 493 = .ok (.iaload, 1) := by decide +kernel
theorem dL_law_494 : decode qL.2.1 494 = .ok (.invokevirtual 63, 3) := by decide +kernel
theorem dL_law_497 : decode qL.2.1 497 = .ok (.if_icmp .eq 160, 3) := by decide +kernel
theorem dL_law_500 : decode qL.2.1 500 = .ok (.iconst 0, 1) := by decide +kernel
theorem dL_law_501 : decode qL.2.1 501 = .ok (.ireturn, 1) := by decide +kernel
theorem dL_law_502 : decode qL.2.1 502 = .ok (.aload_n 1, 1) := by decide +kernel
theorem dL_law_503 : decode qL.2.1 503 = .ok (.aload_n 0, 1) := by decide +kernel
theorem dL_law_504 : decode qL.2.1 504 = .ok (.iload_n 3, 1) := by decide +kernel
theorem dL_law_505 : decode qL.2.1 505 = .ok (.iconst 1, 1) := by decide +kernel
theorem dL_law_506 : decode qL.2.1 506 = .ok (.iadd, 1) := by decide +kernel
theorem dL_law_507 : decode qL.2.1 507 = .ok (.iaload, 1) := by decide +kernel
theorem dL_law_508 : decode qL.2.1 508 = .ok (.invokevirtual 64, 3) := by decide +kernel
theorem dL_law_511 : decode qL.2.1 511 = .ok (.aload_n 2, 1) := by decide +kernel
theorem dL_law_512 : decode qL.2.1 512 = .ok (.aload_n 0, 1) := by decide +kernel
theorem dL_law_513 : decode qL.2.1 513 = .ok (.iload_n 3, 1) := by decide +kernel
theorem dL_law_514 : decode qL.2.1 514 = .ok (.iconst 1, 1) := by decide +kernel
theorem dL_law_515 : decode qL.2.1 515 = .ok (.iadd, 1) := by decide +kernel
theorem dL_law_516 : decode qL.2.1 516 = .ok (.iaload, 1) := by decide +kernel
theorem dL_law_517 : decode qL.2.1 517 = .ok (.invokevirtual 67, 3) := by decide +kernel
theorem dL_law_520 : decode qL.2.1 520 = .ok (.if_icmp .eq 137, 3) := by decide +kernel
theorem dL_law_523 : decode qL.2.1 523 = .ok (.iconst 0, 1) := by decide +kernel
theorem dL_law_524 : decode qL.2.1 524 = .ok (.ireturn, 1) := by decide +kernel
theorem dL_law_525 : decode qL.2.1 525 = .ok (.aload_n 1, 1) := by decide +kernel
theorem dL_law_526 : decode qL.2.1 526 = .ok (.aload_n 0, 1) := by decide +kernel
theorem dL_law_527 : decode qL.2.1 527 = .ok (.iload_n 3, 1) := by decide +kernel
theorem dL_law_528 : decode qL.2.1 528 = .ok (.iconst 1, 1) := by decide +kernel
theorem dL_law_529 : decode qL.2.1 529 = .ok (.iadd, 1) := by decide +kernel
theorem dL_law_530 : decode qL.2.1 530 = .ok (.iaload, 1) := by decide +kernel
theorem dL_law_531 : decode qL.2.1 531 = .ok (.aload_n 0, 1) := by decide +kernel
theorem dL_law_532 : decode qL.2.1 532 = .ok (.iload_n 3, 1) := by decide +kernel
theorem dL_law_533 : decode qL.2.1 533 = .ok (.iconst 2, 1) := by decide +kernel
theorem dL_law_534 : decode qL.2.1 534 = .ok (.iadd, 1) := by decide +kernel
theorem dL_law_535 : decode qL.2.1 535 = .ok (.iaload, 1) := by decide +kernel
theorem dL_law_536 : decode qL.2.1 536 = .ok (.invokevirtual 68, 3) := by decide +kernel
theorem dL_law_539 : decode qL.2.1 539 = .ok (.aload_n 2, 1) := by decide +kernel
theorem dL_law_540 : decode qL.2.1 540 = .ok (.aload_n 0, 1) := by decide +kernel
theorem dL_law_541 : decode qL.2.1 541 = .ok (.iload_n 3, 1) := by decide +kernel
theorem dL_law_542 : decode qL.2.1 542 = .ok (.iconst 1, 1) := by decide +kernel
theorem dL_law_543 : decode qL.2.1 543 = .ok (.iadd, 1) := by decide +kernel
theorem dL_law_544 : decode qL.2.1 544 = .ok (.iaload, 1) := by decide +kernel
theorem dL_law_545 : decode qL.2.1 545 = .ok (.aload_n 0, 1) := by decide +kernel
theorem dL_law_546 : decode qL.2.1 546 = .ok (.iload_n 3, 1) := by decide +kernel
theorem dL_law_547 : decode qL.2.1 547 = .ok (.iconst 2, 1) := by decide +kernel
theorem dL_law_548 : decode qL.2.1 548 = .ok (.iadd, 1) := by decide +kernel
theorem dL_law_549 : decode qL.2.1 549 = .ok (.iaload, 1) := by decide +kernel
theorem dL_law_550 : decode qL.2.1 550 = .ok (.invokevirtual 71, 3) := by decide +kernel
theorem dL_law_553 : decode qL.2.1 553 = .ok (.if_icmp .eq 104, 3) := by decide +kernel
theorem dL_law_556 : decode qL.2.1 556 = .ok (.iconst 0, 1) := by decide +kernel
theorem dL_law_557 : decode qL.2.1 557 = .ok (.ireturn, 1) := by decide +kernel
theorem dL_law_558 : decode qL.2.1 558 = .ok (.aload_n 1, 1) := by decide +kernel
theorem dL_law_559 : decode qL.2.1 559 = .ok (.aload_n 0, 1) := by decide +kernel
theorem dL_law_560 : decode qL.2.1 560 = .ok (.iload_n 3, 1) := by decide +kernel
theorem dL_law_561 : decode qL.2.1 561 = .ok (.iconst 1, 1) := by decide +kernel
theorem dL_law_562 : decode qL.2.1 562 = .ok (.iadd, 1) := by decide +kernel
theorem dL_law_563 : decode qL.2.1 563 = .ok (.iaload, 1) := by decide +kernel
theorem dL_law_564 : decode qL.2.1 564 = .ok (.aload_n 0, 1) := by decide +kernel
theorem dL_law_565 : decode qL.2.1 565 = .ok (.iload_n 3, 1) := by decide +kernel
theorem dL_law_566 : decode qL.2.1 566 = .ok (.iconst 2, 1) := by decide +kernel
theorem dL_law_567 : decode qL.2.1 567 = .ok (.iadd, 1) := by decide +kernel
theorem dL_law_568 : decode qL.2.1 568 = .ok (.iaload, 1) := by decide +kernel
theorem dL_law_569 : decode qL.2.1 569 = .ok (.invokevirtual 72, 3) := by decide +kernel
theorem dL_law_572 : decode qL.2.1 572 = .ok (.aload_n 2, 1) := by decide +kernel
theorem dL_law_573 : decode qL.2.1 573 = .ok (.aload_n 0, 1) := by decide +kernel
theorem dL_law_574 : decode qL.2.1 574 = .ok (.iload_n 3, 1) := by decide +kernel
theorem dL_law_575 : decode qL.2.1 575 = .ok (.iconst 1, 1) := by decide +kernel
theorem dL_law_576 : decode qL.2.1 576 = .ok (.iadd, 1) := by decide +kernel
theorem dL_law_577 : decode qL.2.1 577 = .ok (.iaload, 1) := by decide +kernel
theorem dL_law_578 : decode qL.2.1 578 = .ok (.aload_n 0, 1) := by decide +kernel
theorem dL_law_579 : decode qL.2.1 579 = .ok (.iload_n 3, 1) := by decide +kernel
theorem dL_law_580 : decode qL.2.1 580 = .ok (.iconst 2, 1) := by decide +kernel
theorem dL_law_581 : decode qL.2.1 581 = .ok (.iadd, 1) := by decide +kernel
theorem dL_law_582 : decode qL.2.1 582 = .ok (.iaload, 1) := by decide +kernel
theorem dL_law_583 : decode qL.2.1 583 = .ok (.invokevirtual 75, 3) := by decide +kernel
theorem dL_law_586 : decode qL.2.1 586 = .ok (.if_icmp .eq 71, 3) := by decide +kernel
theorem dL_law_589 : decode qL.2.1 589 = .ok (.iconst 0, 1) := by decide +kernel
theorem dL_law_590 : decode qL.2.1 590 = .ok (.ireturn, 1) := by decide +kernel
theorem dL_law_591 : decode qL.2.1 591 = .ok (.aload_n 1, 1) := by decide +kernel
theorem dL_law_592 : decode qL.2.1 592 = .ok (.aload_n 0, 1) := by decide +kernel
theorem dL_law_593 : decode qL.2.1 593 = .ok (.iload_n 3, 1) := by decide +kernel
theorem dL_law_594 : decode qL.2.1 594 = .ok (.iconst 1, 1) := by decide +kernel
theorem dL_law_595 : decode qL.2.1 595 = .ok (.iadd, 1) := by decide +kernel
theorem dL_law_596 : decode qL.2.1 596 = .ok (.iaload, 1) := by decide +kernel
theorem dL_law_597 : decode qL.2.1 597 = .ok (.aload_n 0, 1) := by decide +kernel
theorem dL_law_598 : decode qL.2.1 598 = .ok (.iload_n 3, 1) := by decide +kernel
theorem dL_law_599 : decode qL.2.1 599 = .ok (.iconst 2, 1) := by decide +kernel
theorem dL_law_600 : decode qL.2.1 600 = .ok (.iadd, 1) := by decide +kernel
theorem dL_law_601 : decode qL.2.1 601 = .ok (.iaload, 1) := by decide +kernel
theorem dL_law_602 : decode qL.2.1 602 = .ok (.aload_n 0, 1) := by decide +kernel
theorem dL_law_603 : decode qL.2.1 603 = .ok (.iload_n 3, 1) := by decide +kernel
theorem dL_law_604 : decode qL.2.1 604 = .ok (.iconst 3, 1) := by decide +kernel
theorem dL_law_605 : decode qL.2.1 605 = .ok (.iadd, 1) := by decide +kernel
theorem dL_law_606 : decode qL.2.1 606 = .ok (.iaload, 1) := by decide +kernel
theorem dL_law_607 : decode qL.2.1 607 = .ok (.invokevirtual 76, 3) := by decide +kernel
theorem dL_law_610 : decode qL.2.1 610 = .ok (.aload_n 2, 1) := by decide +kernel
theorem dL_law_611 : decode qL.2.1 611 = .ok (.aload_n 0, 1) := by decide +kernel
theorem dL_law_612 : decode qL.2.1 612 = .ok (.iload_n 3, 1) := by decide +kernel
theorem dL_law_613 : decode qL.2.1 613 = .ok (.iconst 1, 1) := by decide +kernel
theorem dL_law_614 : decode qL.2.1 614 = .ok (.iadd, 1) := by decide +kernel
theorem dL_law_615 : decode qL.2.1 615 = .ok (.iaload, 1) := by decide +kernel
theorem dL_law_616 : decode qL.2.1 616 = .ok (.aload_n 0, 1) := by decide +kernel
theorem dL_law_617 : decode qL.2.1 617 = .ok (.iload_n 3, 1) := by decide +kernel
theorem dL_law_618 : decode qL.2.1 618 = .ok (.iconst 2, 1) := by decide +kernel
theorem dL_law_619 : decode qL.2.1 619 = .ok (.iadd, 1) := by decide +kernel
theorem dL_law_620 : decode qL.2.1 620 = .ok (.iaload, 1) := by decide +kernel
theorem dL_law_621 : decode qL.2.1 621 = .ok (.aload_n 0, 1) := by decide +kernel
theorem dL_law_622 : decode qL.2.1 622 = .ok (.iload_n 3, 1) := by decide +kernel
theorem dL_law_623 : decode qL.2.1 623 = .ok (.iconst 3, 1) := by decide +kernel
theorem dL_law_624 : decode qL.2.1 624 = .ok (.iadd, 1) := by decide +kernel
theorem dL_law_625 : decode qL.2.1 625 = .ok (.iaload, 1) := by decide +kernel
theorem dL_law_626 : decode qL.2.1 626 = .ok (.invokevirtual 79, 3) := by decide +kernel
theorem dL_law_629 : decode qL.2.1 629 = .ok (.if_icmp .eq 28, 3) := by decide +kernel
theorem dL_law_632 : decode qL.2.1 632 = .ok (.iconst 0, 1) := by decide +kernel
theorem dL_law_633 : decode qL.2.1 633 = .ok (.ireturn, 1) := by decide +kernel
theorem dL_law_634 : decode qL.2.1 634 = .ok (.aload_n 1, 1) := by decide +kernel
theorem dL_law_635 : decode qL.2.1 635 = .ok (.aload_n 0, 1) := by decide +kernel
theorem dL_law_636 : decode qL.2.1 636 = .ok (.iload_n 3, 1) := by decide +kernel
theorem dL_law_637 : decode qL.2.1 637 = .ok (.iconst 1, 1) := by decide +kernel
theorem dL_law_638 : decode qL.2.1 638 = .ok (.iadd, 1) := by decide +kernel
theorem dL_law_639 : decode qL.2.1 639 = .ok (.iaload, 1) := by decide +kernel
theorem dL_law_640 : decode qL.2.1 640 = .ok (.invokevirtual 80, 3) := by decide +kernel
theorem dL_law_643 : decode qL.2.1 643 = .ok (.aload_n 2, 1) := by decide +kernel
theorem dL_law_644 : decode qL.2.1 644 = .ok (.aload_n 0, 1) := by decide +kernel
theorem dL_law_645 : decode qL.2.1 645 = .ok (.iload_n 3, 1) := by decide +kernel
theorem dL_law_646 : decode qL.2.1 646 = .ok (.iconst 1, 1) := by decide +kernel
theorem dL_law_647 : decode qL.2.1 647 = .ok (.iadd, 1) := by decide +kernel
theorem dL_law_648 : decode qL.2.1 648 = .ok (.iaload, 1) := by decide +kernel
theorem dL_law_649 : decode qL.2.1 649 = .ok (.invokevirtual 83, 3) := by decide +kernel
theorem dL_law_652 : decode qL.2.1 652 = .ok (.if_icmp .eq 5, 3) := by decide +kernel
theorem dL_law_655 : decode qL.2.1 655 = .ok (.iconst 0, 1) := by decide +kernel
theorem dL_law_656 : decode qL.2.1 656 = .ok (.ireturn, 1) := by decide +kernel
theorem dL_law_657 : decode qL.2.1 657 = .ok (.iinc 3 4, 3) := by decide +kernel
theorem dL_law_660 : decode qL.2.1 660 = .ok (.goto (-642), 3) := by decide +kernel
theorem dL_law_663 : decode qL.2.1 663 = .ok (.iconst 1, 1) := by decide +kernel
theorem dL_law_664 : decode qL.2.1 664 = .ok (.ireturn, 1) := by decide +kernel
section LAWOPS
variable {q : Nat × (Nat → Int)} {d : Nat} {pc : Nat} {L : List (Option ZV)} {st : List ZV} {M : ZMem} {r : Option ZV} {M1 : ZMem}
theorem x_slen (hq0 : q.1 < 2147483648) (hdg : decode qL.2.1 pc = .ok (.arraylength, 1)) (kk : Xr (some q) d qL (pc + 1) L (zi q.1 :: st) M r M1) : Xr (some q) d qL pc L (zr 1 :: st) M r M1 :=
  kk.op (fun _ h _ => gd_cons (show inR (q.1 : Int) from ⟨by omega, by omega⟩) (gd_tl h)) (fun {p l e R s m args below meth c H H0 locs cells slots D cA ad A ls b Q} hx hb _ hscr _ hS _ w => by
    obtain ⟨h1, h2, h3, h4, h5, h6⟩ := hscr
    show W _ _ _ _ _ _ _ _ _ _ _ _ _ _ _ (F0 _ pc _ (.ref (ad 0) :: st.map (zc ad)))
    rw [h4]
    exact va_slen hx hb h1 h3 h2 hS hdg w)
theorem x_sld {i : Int} (hq : ∀ j, inR (q.2 j)) (hdg : decode qL.2.1 pc = .ok (.iaload, 1)) (h0 : 0 ≤ i) (h1 : i < q.1) (kk : Xr (some q) d qL (pc + 1) L (zi (q.2 i.toNat) :: st) M r M1) : Xr (some q) d qL pc L (zi i :: zr 1 :: st) M r M1 :=
  kk.op (fun _ h _ => gd_cons (hq _) (gd_tl (gd_tl h))) (fun {p l e R s m args below meth c H H0 locs cells slots D cA ad A ls b Q} hx hb _ hscr hst hS _ w => by
    obtain ⟨g1, g2, g3, g4, g5, g6⟩ := hscr
    have hir : inR i := gd_hi hst.2.2.2.2.1
    show W _ _ _ _ _ _ _ _ _ _ _ _ _ _ _ (F0 _ pc _ (.int (Int32.ofInt i) :: .ref (ad 0) :: st.map (zc ad)))
    rw [g4]
    refine va_sld hx hb g1 g3 g2 hS (zin hir h0 h1) hdg ?_
    rw [zI_nat hir]
    exact w)
/-- the law comes to its end with true, in its room -/
def XL (q : Nat × (Nat → Int)) (d pc : Nat) (L : List (Option ZV)) (st : List ZV) (M : ZMem) : Prop := ∃ M1, Xr (some q) d qL pc L st M (some (zi 1)) M1 ∧ mz M1 ≤ 10000 ∧ mw M1 ≤ 1000000
theorem XL.up {pc' : Nat} {L' : List (Option ZV)} {st' : List ZV} {M' : ZMem} (f : ∀ r M1, Xr (some q) d qL pc' L' st' M' r M1 → Xr (some q) d qL pc L st M r M1) (h : XL q d pc' L' st' M') : XL q d pc L st M := by
  obtain ⟨M1, k, h2⟩ := h
  exact ⟨M1, f _ _ k, h2⟩
end LAWOPS
section LAWCASES
variable {q : Nat × (Nat → Int)} {d n : Nat} {K M : ZMem} {x : Int}
theorem law_case0 (hTop : TopAt K 2) (hM : ModelAt K 2230) (hq : ∀ j, inR (q.2 j)) (h0 : 0 ≤ x) (h1 : x + 4 ≤ q.1) (hq1 : q.1 ≤ 2048) (hK : KW K M) (B : Both K d q9_feed q10_feed [zi (q.2 (x + 1).toNat)] n M) (nxt : ∀ M2, LaR K M2 (n + 1) → XL q (d + 1) 657 [some (zr 1), some (zr 2), some (zr 2230), some (zi x)] [] M2) : XL q (d + 1) 116 [some (zr 1), some (zr 2), some (zr 2230), some (zi x)] [] M := by
  refine XL.up (pc' := 117) (fun _ _ k => x_aload_n dL_law_116 rfl rfl k) ?_
  refine XL.up (pc' := 118) (fun _ _ k => x_aload_n dL_law_117 rfl rfl k) ?_
  refine XL.up (pc' := 119) (fun _ _ k => x_iload_n dL_law_118 rfl rfl k) ?_
  refine XL.up (pc' := 120) (fun _ _ k => x_iconst dL_law_119 (show inR 1 from ⟨by decide, by decide⟩) k) ?_
  refine XL.up (pc' := 121) (fun _ _ k => x_iadd dL_law_120 (show inR (x + 1) from ⟨by omega, by omega⟩) k) ?_
  refine XL.up (pc' := 122) (fun _ _ k => x_sld hq dL_law_121 (by omega) (by omega) k) ?_
  obtain ⟨y, M1, c1, k1, z, M2, c2, k2, e, h2⟩ := B
  refine XL.up (pc' := 125) (st' := [zi y]) (fun _ _ k => x_callV (ci := 9) (as := [zi (q.2 (x + 1).toNat)]) (st := []) k9_feed lmL_13 dL_law_122 rfl (by decide) (zs8 rfl) (by rw [hK.s]; exact hTop.1) ⟨_, _, rfl⟩ c1 k) ?_
  refine XL.up (pc' := 126) (fun _ _ k => x_aload_n dL_law_125 rfl rfl k) ?_
  refine XL.up (pc' := 127) (fun _ _ k => x_aload_n dL_law_126 rfl rfl k) ?_
  refine XL.up (pc' := 128) (fun _ _ k => x_iload_n dL_law_127 rfl rfl k) ?_
  refine XL.up (pc' := 129) (fun _ _ k => x_iconst dL_law_128 (show inR 1 from ⟨by decide, by decide⟩) k) ?_
  refine XL.up (pc' := 130) (fun _ _ k => x_iadd dL_law_129 (show inR (x + 1) from ⟨by omega, by omega⟩) k) ?_
  refine XL.up (pc' := 131) (fun _ _ k => x_sld hq dL_law_130 (by omega) (by omega) k) ?_
  refine XL.up (pc' := 134) (st' := [zi z, zi y]) (fun _ _ k => x_callV (ci := 10) (as := [zi (q.2 (x + 1).toNat)]) (st := [zi y]) k10_feed lmL_17 dL_law_131 rfl (by decide) (zs8 rfl) (by rw [k1.s]; exact hM.1) ⟨_, _, rfl⟩ c2 k) ?_
  exact XL.up (pc' := 657) (fun _ _ k => x_icmp_eq dL_law_134 rfl (fun _ => k) (fun c => absurd e c)) (nxt M2 h2)
theorem law_case1 (hTop : TopAt K 2) (hM : ModelAt K 2230) (hq : ∀ j, inR (q.2 j)) (h0 : 0 ≤ x) (h1 : x + 4 ≤ q.1) (hq1 : q.1 ≤ 2048) (hK : KW K M) (B : Both K d q9_program q10_program [zi (q.2 (x + 1).toNat)] n M) (nxt : ∀ M2, LaR K M2 (n + 1) → XL q (d + 1) 657 [some (zr 1), some (zr 2), some (zr 2230), some (zi x)] [] M2) : XL q (d + 1) 139 [some (zr 1), some (zr 2), some (zr 2230), some (zi x)] [] M := by
  refine XL.up (pc' := 140) (fun _ _ k => x_aload_n dL_law_139 rfl rfl k) ?_
  refine XL.up (pc' := 141) (fun _ _ k => x_aload_n dL_law_140 rfl rfl k) ?_
  refine XL.up (pc' := 142) (fun _ _ k => x_iload_n dL_law_141 rfl rfl k) ?_
  refine XL.up (pc' := 143) (fun _ _ k => x_iconst dL_law_142 (show inR 1 from ⟨by decide, by decide⟩) k) ?_
  refine XL.up (pc' := 144) (fun _ _ k => x_iadd dL_law_143 (show inR (x + 1) from ⟨by omega, by omega⟩) k) ?_
  refine XL.up (pc' := 145) (fun _ _ k => x_sld hq dL_law_144 (by omega) (by omega) k) ?_
  obtain ⟨y, M1, c1, k1, z, M2, c2, k2, e, h2⟩ := B
  refine XL.up (pc' := 148) (st' := [zi y]) (fun _ _ k => x_callV (ci := 9) (as := [zi (q.2 (x + 1).toNat)]) (st := []) k9_program lmL_18 dL_law_145 rfl (by decide) (zs8 rfl) (by rw [hK.s]; exact hTop.1) ⟨_, _, rfl⟩ c1 k) ?_
  refine XL.up (pc' := 149) (fun _ _ k => x_aload_n dL_law_148 rfl rfl k) ?_
  refine XL.up (pc' := 150) (fun _ _ k => x_aload_n dL_law_149 rfl rfl k) ?_
  refine XL.up (pc' := 151) (fun _ _ k => x_iload_n dL_law_150 rfl rfl k) ?_
  refine XL.up (pc' := 152) (fun _ _ k => x_iconst dL_law_151 (show inR 1 from ⟨by decide, by decide⟩) k) ?_
  refine XL.up (pc' := 153) (fun _ _ k => x_iadd dL_law_152 (show inR (x + 1) from ⟨by omega, by omega⟩) k) ?_
  refine XL.up (pc' := 154) (fun _ _ k => x_sld hq dL_law_153 (by omega) (by omega) k) ?_
  refine XL.up (pc' := 157) (st' := [zi z, zi y]) (fun _ _ k => x_callV (ci := 10) (as := [zi (q.2 (x + 1).toNat)]) (st := [zi y]) k10_program lmL_21 dL_law_154 rfl (by decide) (zs8 rfl) (by rw [k1.s]; exact hM.1) ⟨_, _, rfl⟩ c2 k) ?_
  exact XL.up (pc' := 657) (fun _ _ k => x_icmp_eq dL_law_157 rfl (fun _ => k) (fun c => absurd e c)) (nxt M2 h2)
theorem law_case2 (hTop : TopAt K 2) (hM : ModelAt K 2230) (hq : ∀ j, inR (q.2 j)) (h0 : 0 ≤ x) (h1 : x + 4 ≤ q.1) (hq1 : q.1 ≤ 2048) (hK : KW K M) (B : Both K d q9_cost q10_cost [zi (q.2 (x + 1).toNat)] n M) (nxt : ∀ M2, LaR K M2 (n + 1) → XL q (d + 1) 657 [some (zr 1), some (zr 2), some (zr 2230), some (zi x)] [] M2) : XL q (d + 1) 162 [some (zr 1), some (zr 2), some (zr 2230), some (zi x)] [] M := by
  refine XL.up (pc' := 163) (fun _ _ k => x_aload_n dL_law_162 rfl rfl k) ?_
  refine XL.up (pc' := 164) (fun _ _ k => x_aload_n dL_law_163 rfl rfl k) ?_
  refine XL.up (pc' := 165) (fun _ _ k => x_iload_n dL_law_164 rfl rfl k) ?_
  refine XL.up (pc' := 166) (fun _ _ k => x_iconst dL_law_165 (show inR 1 from ⟨by decide, by decide⟩) k) ?_
  refine XL.up (pc' := 167) (fun _ _ k => x_iadd dL_law_166 (show inR (x + 1) from ⟨by omega, by omega⟩) k) ?_
  refine XL.up (pc' := 168) (fun _ _ k => x_sld hq dL_law_167 (by omega) (by omega) k) ?_
  obtain ⟨y, M1, c1, k1, z, M2, c2, k2, e, h2⟩ := B
  refine XL.up (pc' := 171) (st' := [zi y]) (fun _ _ k => x_callV (ci := 9) (as := [zi (q.2 (x + 1).toNat)]) (st := []) k9_cost lmL_22 dL_law_168 rfl (by decide) (zs8 rfl) (by rw [hK.s]; exact hTop.1) ⟨_, _, rfl⟩ c1 k) ?_
  refine XL.up (pc' := 172) (fun _ _ k => x_aload_n dL_law_171 rfl rfl k) ?_
  refine XL.up (pc' := 173) (fun _ _ k => x_aload_n dL_law_172 rfl rfl k) ?_
  refine XL.up (pc' := 174) (fun _ _ k => x_iload_n dL_law_173 rfl rfl k) ?_
  refine XL.up (pc' := 175) (fun _ _ k => x_iconst dL_law_174 (show inR 1 from ⟨by decide, by decide⟩) k) ?_
  refine XL.up (pc' := 176) (fun _ _ k => x_iadd dL_law_175 (show inR (x + 1) from ⟨by omega, by omega⟩) k) ?_
  refine XL.up (pc' := 177) (fun _ _ k => x_sld hq dL_law_176 (by omega) (by omega) k) ?_
  refine XL.up (pc' := 180) (st' := [zi z, zi y]) (fun _ _ k => x_callV (ci := 10) (as := [zi (q.2 (x + 1).toNat)]) (st := [zi y]) k10_cost lmL_25 dL_law_177 rfl (by decide) (zs8 rfl) (by rw [k1.s]; exact hM.1) ⟨_, _, rfl⟩ c2 k) ?_
  exact XL.up (pc' := 657) (fun _ _ k => x_icmp_eq dL_law_180 rfl (fun _ => k) (fun c => absurd e c)) (nxt M2 h2)
theorem law_case3 (hTop : TopAt K 2) (hM : ModelAt K 2230) (hq : ∀ j, inR (q.2 j)) (h0 : 0 ≤ x) (h1 : x + 4 ≤ q.1) (hq1 : q.1 ≤ 2048) (hK : KW K M) (B : Both K d q9_begin q10_begin [zi (q.2 (x + 1).toNat), zi (q.2 (x + 2).toNat), zi (q.2 (x + 3).toNat)] n M) (nxt : ∀ M2, LaR K M2 (n + 1) → XL q (d + 1) 657 [some (zr 1), some (zr 2), some (zr 2230), some (zi x)] [] M2) : XL q (d + 1) 185 [some (zr 1), some (zr 2), some (zr 2230), some (zi x)] [] M := by
  refine XL.up (pc' := 186) (fun _ _ k => x_aload_n dL_law_185 rfl rfl k) ?_
  refine XL.up (pc' := 187) (fun _ _ k => x_aload_n dL_law_186 rfl rfl k) ?_
  refine XL.up (pc' := 188) (fun _ _ k => x_iload_n dL_law_187 rfl rfl k) ?_
  refine XL.up (pc' := 189) (fun _ _ k => x_iconst dL_law_188 (show inR 1 from ⟨by decide, by decide⟩) k) ?_
  refine XL.up (pc' := 190) (fun _ _ k => x_iadd dL_law_189 (show inR (x + 1) from ⟨by omega, by omega⟩) k) ?_
  refine XL.up (pc' := 191) (fun _ _ k => x_sld hq dL_law_190 (by omega) (by omega) k) ?_
  refine XL.up (pc' := 192) (fun _ _ k => x_aload_n dL_law_191 rfl rfl k) ?_
  refine XL.up (pc' := 193) (fun _ _ k => x_iload_n dL_law_192 rfl rfl k) ?_
  refine XL.up (pc' := 194) (fun _ _ k => x_iconst dL_law_193 (show inR 2 from ⟨by decide, by decide⟩) k) ?_
  refine XL.up (pc' := 195) (fun _ _ k => x_iadd dL_law_194 (show inR (x + 2) from ⟨by omega, by omega⟩) k) ?_
  refine XL.up (pc' := 196) (fun _ _ k => x_sld hq dL_law_195 (by omega) (by omega) k) ?_
  refine XL.up (pc' := 197) (fun _ _ k => x_aload_n dL_law_196 rfl rfl k) ?_
  refine XL.up (pc' := 198) (fun _ _ k => x_iload_n dL_law_197 rfl rfl k) ?_
  refine XL.up (pc' := 199) (fun _ _ k => x_iconst dL_law_198 (show inR 3 from ⟨by decide, by decide⟩) k) ?_
  refine XL.up (pc' := 200) (fun _ _ k => x_iadd dL_law_199 (show inR (x + 3) from ⟨by omega, by omega⟩) k) ?_
  refine XL.up (pc' := 201) (fun _ _ k => x_sld hq dL_law_200 (by omega) (by omega) k) ?_
  obtain ⟨y, M1, c1, k1, z, M2, c2, k2, e, h2⟩ := B
  refine XL.up (pc' := 204) (st' := [zi y]) (fun _ _ k => x_callV (ci := 9) (as := [zi (q.2 (x + 1).toNat), zi (q.2 (x + 2).toNat), zi (q.2 (x + 3).toNat)]) (st := []) k9_begin lmL_26 dL_law_201 rfl (by decide) (zs8 rfl) (by rw [hK.s]; exact hTop.1) ⟨_, _, rfl⟩ c1 k) ?_
  refine XL.up (pc' := 205) (fun _ _ k => x_aload_n dL_law_204 rfl rfl k) ?_
  refine XL.up (pc' := 206) (fun _ _ k => x_aload_n dL_law_205 rfl rfl k) ?_
  refine XL.up (pc' := 207) (fun _ _ k => x_iload_n dL_law_206 rfl rfl k) ?_
  refine XL.up (pc' := 208) (fun _ _ k => x_iconst dL_law_207 (show inR 1 from ⟨by decide, by decide⟩) k) ?_
  refine XL.up (pc' := 209) (fun _ _ k => x_iadd dL_law_208 (show inR (x + 1) from ⟨by omega, by omega⟩) k) ?_
  refine XL.up (pc' := 210) (fun _ _ k => x_sld hq dL_law_209 (by omega) (by omega) k) ?_
  refine XL.up (pc' := 211) (fun _ _ k => x_aload_n dL_law_210 rfl rfl k) ?_
  refine XL.up (pc' := 212) (fun _ _ k => x_iload_n dL_law_211 rfl rfl k) ?_
  refine XL.up (pc' := 213) (fun _ _ k => x_iconst dL_law_212 (show inR 2 from ⟨by decide, by decide⟩) k) ?_
  refine XL.up (pc' := 214) (fun _ _ k => x_iadd dL_law_213 (show inR (x + 2) from ⟨by omega, by omega⟩) k) ?_
  refine XL.up (pc' := 215) (fun _ _ k => x_sld hq dL_law_214 (by omega) (by omega) k) ?_
  refine XL.up (pc' := 216) (fun _ _ k => x_aload_n dL_law_215 rfl rfl k) ?_
  refine XL.up (pc' := 217) (fun _ _ k => x_iload_n dL_law_216 rfl rfl k) ?_
  refine XL.up (pc' := 218) (fun _ _ k => x_iconst dL_law_217 (show inR 3 from ⟨by decide, by decide⟩) k) ?_
  refine XL.up (pc' := 219) (fun _ _ k => x_iadd dL_law_218 (show inR (x + 3) from ⟨by omega, by omega⟩) k) ?_
  refine XL.up (pc' := 220) (fun _ _ k => x_sld hq dL_law_219 (by omega) (by omega) k) ?_
  refine XL.up (pc' := 223) (st' := [zi z, zi y]) (fun _ _ k => x_callV (ci := 10) (as := [zi (q.2 (x + 1).toNat), zi (q.2 (x + 2).toNat), zi (q.2 (x + 3).toNat)]) (st := [zi y]) k10_begin lmL_30 dL_law_220 rfl (by decide) (zs8 rfl) (by rw [k1.s]; exact hM.1) ⟨_, _, rfl⟩ c2 k) ?_
  exact XL.up (pc' := 657) (fun _ _ k => x_icmp_eq dL_law_223 rfl (fun _ => k) (fun c => absurd e c)) (nxt M2 h2)
theorem law_case4 (hTop : TopAt K 2) (hM : ModelAt K 2230) (hq : ∀ j, inR (q.2 j)) (h0 : 0 ≤ x) (h1 : x + 4 ≤ q.1) (hq1 : q.1 ≤ 2048) (hK : KW K M) (B : Both K d q9_go q10_go [zi (q.2 (x + 1).toNat), zi (q.2 (x + 2).toNat)] n M) (nxt : ∀ M2, LaR K M2 (n + 1) → XL q (d + 1) 657 [some (zr 1), some (zr 2), some (zr 2230), some (zi x)] [] M2) : XL q (d + 1) 228 [some (zr 1), some (zr 2), some (zr 2230), some (zi x)] [] M := by
  refine XL.up (pc' := 229) (fun _ _ k => x_aload_n dL_law_228 rfl rfl k) ?_
  refine XL.up (pc' := 230) (fun _ _ k => x_aload_n dL_law_229 rfl rfl k) ?_
  refine XL.up (pc' := 231) (fun _ _ k => x_iload_n dL_law_230 rfl rfl k) ?_
  refine XL.up (pc' := 232) (fun _ _ k => x_iconst dL_law_231 (show inR 1 from ⟨by decide, by decide⟩) k) ?_
  refine XL.up (pc' := 233) (fun _ _ k => x_iadd dL_law_232 (show inR (x + 1) from ⟨by omega, by omega⟩) k) ?_
  refine XL.up (pc' := 234) (fun _ _ k => x_sld hq dL_law_233 (by omega) (by omega) k) ?_
  refine XL.up (pc' := 235) (fun _ _ k => x_aload_n dL_law_234 rfl rfl k) ?_
  refine XL.up (pc' := 236) (fun _ _ k => x_iload_n dL_law_235 rfl rfl k) ?_
  refine XL.up (pc' := 237) (fun _ _ k => x_iconst dL_law_236 (show inR 2 from ⟨by decide, by decide⟩) k) ?_
  refine XL.up (pc' := 238) (fun _ _ k => x_iadd dL_law_237 (show inR (x + 2) from ⟨by omega, by omega⟩) k) ?_
  refine XL.up (pc' := 239) (fun _ _ k => x_sld hq dL_law_238 (by omega) (by omega) k) ?_
  obtain ⟨y, M1, c1, k1, z, M2, c2, k2, e, h2⟩ := B
  refine XL.up (pc' := 242) (st' := [zi y]) (fun _ _ k => x_callV (ci := 9) (as := [zi (q.2 (x + 1).toNat), zi (q.2 (x + 2).toNat)]) (st := []) k9_go lmL_31 dL_law_239 rfl (by decide) (zs8 rfl) (by rw [hK.s]; exact hTop.1) ⟨_, _, rfl⟩ c1 k) ?_
  refine XL.up (pc' := 243) (fun _ _ k => x_aload_n dL_law_242 rfl rfl k) ?_
  refine XL.up (pc' := 244) (fun _ _ k => x_aload_n dL_law_243 rfl rfl k) ?_
  refine XL.up (pc' := 245) (fun _ _ k => x_iload_n dL_law_244 rfl rfl k) ?_
  refine XL.up (pc' := 246) (fun _ _ k => x_iconst dL_law_245 (show inR 1 from ⟨by decide, by decide⟩) k) ?_
  refine XL.up (pc' := 247) (fun _ _ k => x_iadd dL_law_246 (show inR (x + 1) from ⟨by omega, by omega⟩) k) ?_
  refine XL.up (pc' := 248) (fun _ _ k => x_sld hq dL_law_247 (by omega) (by omega) k) ?_
  refine XL.up (pc' := 249) (fun _ _ k => x_aload_n dL_law_248 rfl rfl k) ?_
  refine XL.up (pc' := 250) (fun _ _ k => x_iload_n dL_law_249 rfl rfl k) ?_
  refine XL.up (pc' := 251) (fun _ _ k => x_iconst dL_law_250 (show inR 2 from ⟨by decide, by decide⟩) k) ?_
  refine XL.up (pc' := 252) (fun _ _ k => x_iadd dL_law_251 (show inR (x + 2) from ⟨by omega, by omega⟩) k) ?_
  refine XL.up (pc' := 253) (fun _ _ k => x_sld hq dL_law_252 (by omega) (by omega) k) ?_
  refine XL.up (pc' := 256) (st' := [zi z, zi y]) (fun _ _ k => x_callV (ci := 10) (as := [zi (q.2 (x + 1).toNat), zi (q.2 (x + 2).toNat)]) (st := [zi y]) k10_go lmL_35 dL_law_253 rfl (by decide) (zs8 rfl) (by rw [k1.s]; exact hM.1) ⟨_, _, rfl⟩ c2 k) ?_
  exact XL.up (pc' := 657) (fun _ _ k => x_icmp_eq dL_law_256 rfl (fun _ => k) (fun c => absurd e c)) (nxt M2 h2)
theorem law_case5 (hTop : TopAt K 2) (hM : ModelAt K 2230) (hq : ∀ j, inR (q.2 j)) (h0 : 0 ≤ x) (h1 : x + 4 ≤ q.1) (hq1 : q.1 ≤ 2048) (hK : KW K M) (B : Both K d q9_all q10_all [zi (q.2 (x + 1).toNat), zi (q.2 (x + 2).toNat)] n M) (nxt : ∀ M2, LaR K M2 (n + 1) → XL q (d + 1) 657 [some (zr 1), some (zr 2), some (zr 2230), some (zi x)] [] M2) : XL q (d + 1) 261 [some (zr 1), some (zr 2), some (zr 2230), some (zi x)] [] M := by
  refine XL.up (pc' := 262) (fun _ _ k => x_aload_n dL_law_261 rfl rfl k) ?_
  refine XL.up (pc' := 263) (fun _ _ k => x_aload_n dL_law_262 rfl rfl k) ?_
  refine XL.up (pc' := 264) (fun _ _ k => x_iload_n dL_law_263 rfl rfl k) ?_
  refine XL.up (pc' := 265) (fun _ _ k => x_iconst dL_law_264 (show inR 1 from ⟨by decide, by decide⟩) k) ?_
  refine XL.up (pc' := 266) (fun _ _ k => x_iadd dL_law_265 (show inR (x + 1) from ⟨by omega, by omega⟩) k) ?_
  refine XL.up (pc' := 267) (fun _ _ k => x_sld hq dL_law_266 (by omega) (by omega) k) ?_
  refine XL.up (pc' := 268) (fun _ _ k => x_aload_n dL_law_267 rfl rfl k) ?_
  refine XL.up (pc' := 269) (fun _ _ k => x_iload_n dL_law_268 rfl rfl k) ?_
  refine XL.up (pc' := 270) (fun _ _ k => x_iconst dL_law_269 (show inR 2 from ⟨by decide, by decide⟩) k) ?_
  refine XL.up (pc' := 271) (fun _ _ k => x_iadd dL_law_270 (show inR (x + 2) from ⟨by omega, by omega⟩) k) ?_
  refine XL.up (pc' := 272) (fun _ _ k => x_sld hq dL_law_271 (by omega) (by omega) k) ?_
  obtain ⟨y, M1, c1, k1, z, M2, c2, k2, e, h2⟩ := B
  refine XL.up (pc' := 275) (st' := [zi y]) (fun _ _ k => x_callV (ci := 9) (as := [zi (q.2 (x + 1).toNat), zi (q.2 (x + 2).toNat)]) (st := []) k9_all lmL_36 dL_law_272 rfl (by decide) (zs8 rfl) (by rw [hK.s]; exact hTop.1) ⟨_, _, rfl⟩ c1 k) ?_
  refine XL.up (pc' := 276) (fun _ _ k => x_aload_n dL_law_275 rfl rfl k) ?_
  refine XL.up (pc' := 277) (fun _ _ k => x_aload_n dL_law_276 rfl rfl k) ?_
  refine XL.up (pc' := 278) (fun _ _ k => x_iload_n dL_law_277 rfl rfl k) ?_
  refine XL.up (pc' := 279) (fun _ _ k => x_iconst dL_law_278 (show inR 1 from ⟨by decide, by decide⟩) k) ?_
  refine XL.up (pc' := 280) (fun _ _ k => x_iadd dL_law_279 (show inR (x + 1) from ⟨by omega, by omega⟩) k) ?_
  refine XL.up (pc' := 281) (fun _ _ k => x_sld hq dL_law_280 (by omega) (by omega) k) ?_
  refine XL.up (pc' := 282) (fun _ _ k => x_aload_n dL_law_281 rfl rfl k) ?_
  refine XL.up (pc' := 283) (fun _ _ k => x_iload_n dL_law_282 rfl rfl k) ?_
  refine XL.up (pc' := 284) (fun _ _ k => x_iconst dL_law_283 (show inR 2 from ⟨by decide, by decide⟩) k) ?_
  refine XL.up (pc' := 285) (fun _ _ k => x_iadd dL_law_284 (show inR (x + 2) from ⟨by omega, by omega⟩) k) ?_
  refine XL.up (pc' := 286) (fun _ _ k => x_sld hq dL_law_285 (by omega) (by omega) k) ?_
  refine XL.up (pc' := 289) (st' := [zi z, zi y]) (fun _ _ k => x_callV (ci := 10) (as := [zi (q.2 (x + 1).toNat), zi (q.2 (x + 2).toNat)]) (st := [zi y]) k10_all lmL_39 dL_law_286 rfl (by decide) (zs8 rfl) (by rw [k1.s]; exact hM.1) ⟨_, _, rfl⟩ c2 k) ?_
  exact XL.up (pc' := 657) (fun _ _ k => x_icmp_eq dL_law_289 rfl (fun _ => k) (fun c => absurd e c)) (nxt M2 h2)
theorem law_case6 (hTop : TopAt K 2) (hM : ModelAt K 2230) (hq : ∀ j, inR (q.2 j)) (h0 : 0 ≤ x) (h1 : x + 4 ≤ q.1) (hq1 : q.1 ≤ 2048) (hK : KW K M) (B : Both K d q9_of q10_of [zi (q.2 (x + 1).toNat), zi (q.2 (x + 2).toNat)] n M) (nxt : ∀ M2, LaR K M2 (n + 1) → XL q (d + 1) 657 [some (zr 1), some (zr 2), some (zr 2230), some (zi x)] [] M2) : XL q (d + 1) 294 [some (zr 1), some (zr 2), some (zr 2230), some (zi x)] [] M := by
  refine XL.up (pc' := 295) (fun _ _ k => x_aload_n dL_law_294 rfl rfl k) ?_
  refine XL.up (pc' := 296) (fun _ _ k => x_aload_n dL_law_295 rfl rfl k) ?_
  refine XL.up (pc' := 297) (fun _ _ k => x_iload_n dL_law_296 rfl rfl k) ?_
  refine XL.up (pc' := 298) (fun _ _ k => x_iconst dL_law_297 (show inR 1 from ⟨by decide, by decide⟩) k) ?_
  refine XL.up (pc' := 299) (fun _ _ k => x_iadd dL_law_298 (show inR (x + 1) from ⟨by omega, by omega⟩) k) ?_
  refine XL.up (pc' := 300) (fun _ _ k => x_sld hq dL_law_299 (by omega) (by omega) k) ?_
  refine XL.up (pc' := 301) (fun _ _ k => x_aload_n dL_law_300 rfl rfl k) ?_
  refine XL.up (pc' := 302) (fun _ _ k => x_iload_n dL_law_301 rfl rfl k) ?_
  refine XL.up (pc' := 303) (fun _ _ k => x_iconst dL_law_302 (show inR 2 from ⟨by decide, by decide⟩) k) ?_
  refine XL.up (pc' := 304) (fun _ _ k => x_iadd dL_law_303 (show inR (x + 2) from ⟨by omega, by omega⟩) k) ?_
  refine XL.up (pc' := 305) (fun _ _ k => x_sld hq dL_law_304 (by omega) (by omega) k) ?_
  obtain ⟨y, M1, c1, k1, z, M2, c2, k2, e, h2⟩ := B
  refine XL.up (pc' := 308) (st' := [zi y]) (fun _ _ k => x_callV (ci := 9) (as := [zi (q.2 (x + 1).toNat), zi (q.2 (x + 2).toNat)]) (st := []) k9_of lmL_40 dL_law_305 rfl (by decide) (zs8 rfl) (by rw [hK.s]; exact hTop.1) ⟨_, _, rfl⟩ c1 k) ?_
  refine XL.up (pc' := 309) (fun _ _ k => x_aload_n dL_law_308 rfl rfl k) ?_
  refine XL.up (pc' := 310) (fun _ _ k => x_aload_n dL_law_309 rfl rfl k) ?_
  refine XL.up (pc' := 311) (fun _ _ k => x_iload_n dL_law_310 rfl rfl k) ?_
  refine XL.up (pc' := 312) (fun _ _ k => x_iconst dL_law_311 (show inR 1 from ⟨by decide, by decide⟩) k) ?_
  refine XL.up (pc' := 313) (fun _ _ k => x_iadd dL_law_312 (show inR (x + 1) from ⟨by omega, by omega⟩) k) ?_
  refine XL.up (pc' := 314) (fun _ _ k => x_sld hq dL_law_313 (by omega) (by omega) k) ?_
  refine XL.up (pc' := 315) (fun _ _ k => x_aload_n dL_law_314 rfl rfl k) ?_
  refine XL.up (pc' := 316) (fun _ _ k => x_iload_n dL_law_315 rfl rfl k) ?_
  refine XL.up (pc' := 317) (fun _ _ k => x_iconst dL_law_316 (show inR 2 from ⟨by decide, by decide⟩) k) ?_
  refine XL.up (pc' := 318) (fun _ _ k => x_iadd dL_law_317 (show inR (x + 2) from ⟨by omega, by omega⟩) k) ?_
  refine XL.up (pc' := 319) (fun _ _ k => x_sld hq dL_law_318 (by omega) (by omega) k) ?_
  refine XL.up (pc' := 322) (st' := [zi z, zi y]) (fun _ _ k => x_callV (ci := 10) (as := [zi (q.2 (x + 1).toNat), zi (q.2 (x + 2).toNat)]) (st := [zi y]) k10_of lmL_43 dL_law_319 rfl (by decide) (zs8 rfl) (by rw [k1.s]; exact hM.1) ⟨_, _, rfl⟩ c2 k) ?_
  exact XL.up (pc' := 657) (fun _ _ k => x_icmp_eq dL_law_322 rfl (fun _ => k) (fun c => absurd e c)) (nxt M2 h2)
theorem law_case7 (hTop : TopAt K 2) (hM : ModelAt K 2230) (hq : ∀ j, inR (q.2 j)) (h0 : 0 ≤ x) (h1 : x + 4 ≤ q.1) (hq1 : q.1 ≤ 2048) (hK : KW K M) (B : Both K d q9_answer q10_answer [zi (q.2 (x + 1).toNat), zi (q.2 (x + 2).toNat), zi (q.2 (x + 3).toNat)] n M) (nxt : ∀ M2, LaR K M2 (n + 1) → XL q (d + 1) 657 [some (zr 1), some (zr 2), some (zr 2230), some (zi x)] [] M2) : XL q (d + 1) 327 [some (zr 1), some (zr 2), some (zr 2230), some (zi x)] [] M := by
  refine XL.up (pc' := 328) (fun _ _ k => x_aload_n dL_law_327 rfl rfl k) ?_
  refine XL.up (pc' := 329) (fun _ _ k => x_aload_n dL_law_328 rfl rfl k) ?_
  refine XL.up (pc' := 330) (fun _ _ k => x_iload_n dL_law_329 rfl rfl k) ?_
  refine XL.up (pc' := 331) (fun _ _ k => x_iconst dL_law_330 (show inR 1 from ⟨by decide, by decide⟩) k) ?_
  refine XL.up (pc' := 332) (fun _ _ k => x_iadd dL_law_331 (show inR (x + 1) from ⟨by omega, by omega⟩) k) ?_
  refine XL.up (pc' := 333) (fun _ _ k => x_sld hq dL_law_332 (by omega) (by omega) k) ?_
  refine XL.up (pc' := 334) (fun _ _ k => x_aload_n dL_law_333 rfl rfl k) ?_
  refine XL.up (pc' := 335) (fun _ _ k => x_iload_n dL_law_334 rfl rfl k) ?_
  refine XL.up (pc' := 336) (fun _ _ k => x_iconst dL_law_335 (show inR 2 from ⟨by decide, by decide⟩) k) ?_
  refine XL.up (pc' := 337) (fun _ _ k => x_iadd dL_law_336 (show inR (x + 2) from ⟨by omega, by omega⟩) k) ?_
  refine XL.up (pc' := 338) (fun _ _ k => x_sld hq dL_law_337 (by omega) (by omega) k) ?_
  refine XL.up (pc' := 339) (fun _ _ k => x_aload_n dL_law_338 rfl rfl k) ?_
  refine XL.up (pc' := 340) (fun _ _ k => x_iload_n dL_law_339 rfl rfl k) ?_
  refine XL.up (pc' := 341) (fun _ _ k => x_iconst dL_law_340 (show inR 3 from ⟨by decide, by decide⟩) k) ?_
  refine XL.up (pc' := 342) (fun _ _ k => x_iadd dL_law_341 (show inR (x + 3) from ⟨by omega, by omega⟩) k) ?_
  refine XL.up (pc' := 343) (fun _ _ k => x_sld hq dL_law_342 (by omega) (by omega) k) ?_
  obtain ⟨y, M1, c1, k1, z, M2, c2, k2, e, h2⟩ := B
  refine XL.up (pc' := 346) (st' := [zi y]) (fun _ _ k => x_callV (ci := 9) (as := [zi (q.2 (x + 1).toNat), zi (q.2 (x + 2).toNat), zi (q.2 (x + 3).toNat)]) (st := []) k9_answer lmL_44 dL_law_343 rfl (by decide) (zs8 rfl) (by rw [hK.s]; exact hTop.1) ⟨_, _, rfl⟩ c1 k) ?_
  refine XL.up (pc' := 347) (fun _ _ k => x_aload_n dL_law_346 rfl rfl k) ?_
  refine XL.up (pc' := 348) (fun _ _ k => x_aload_n dL_law_347 rfl rfl k) ?_
  refine XL.up (pc' := 349) (fun _ _ k => x_iload_n dL_law_348 rfl rfl k) ?_
  refine XL.up (pc' := 350) (fun _ _ k => x_iconst dL_law_349 (show inR 1 from ⟨by decide, by decide⟩) k) ?_
  refine XL.up (pc' := 351) (fun _ _ k => x_iadd dL_law_350 (show inR (x + 1) from ⟨by omega, by omega⟩) k) ?_
  refine XL.up (pc' := 352) (fun _ _ k => x_sld hq dL_law_351 (by omega) (by omega) k) ?_
  refine XL.up (pc' := 353) (fun _ _ k => x_aload_n dL_law_352 rfl rfl k) ?_
  refine XL.up (pc' := 354) (fun _ _ k => x_iload_n dL_law_353 rfl rfl k) ?_
  refine XL.up (pc' := 355) (fun _ _ k => x_iconst dL_law_354 (show inR 2 from ⟨by decide, by decide⟩) k) ?_
  refine XL.up (pc' := 356) (fun _ _ k => x_iadd dL_law_355 (show inR (x + 2) from ⟨by omega, by omega⟩) k) ?_
  refine XL.up (pc' := 357) (fun _ _ k => x_sld hq dL_law_356 (by omega) (by omega) k) ?_
  refine XL.up (pc' := 358) (fun _ _ k => x_aload_n dL_law_357 rfl rfl k) ?_
  refine XL.up (pc' := 359) (fun _ _ k => x_iload_n dL_law_358 rfl rfl k) ?_
  refine XL.up (pc' := 360) (fun _ _ k => x_iconst dL_law_359 (show inR 3 from ⟨by decide, by decide⟩) k) ?_
  refine XL.up (pc' := 361) (fun _ _ k => x_iadd dL_law_360 (show inR (x + 3) from ⟨by omega, by omega⟩) k) ?_
  refine XL.up (pc' := 362) (fun _ _ k => x_sld hq dL_law_361 (by omega) (by omega) k) ?_
  refine XL.up (pc' := 365) (st' := [zi z, zi y]) (fun _ _ k => x_callV (ci := 10) (as := [zi (q.2 (x + 1).toNat), zi (q.2 (x + 2).toNat), zi (q.2 (x + 3).toNat)]) (st := [zi y]) k10_answer lmL_47 dL_law_362 rfl (by decide) (zs8 rfl) (by rw [k1.s]; exact hM.1) ⟨_, _, rfl⟩ c2 k) ?_
  exact XL.up (pc' := 657) (fun _ _ k => x_icmp_eq dL_law_365 rfl (fun _ => k) (fun c => absurd e c)) (nxt M2 h2)
theorem law_case8 (hTop : TopAt K 2) (hM : ModelAt K 2230) (hq : ∀ j, inR (q.2 j)) (h0 : 0 ≤ x) (h1 : x + 4 ≤ q.1) (hq1 : q.1 ≤ 2048) (hK : KW K M) (B : Both K d q9_open q10_open [zi (q.2 (x + 1).toNat), zi (q.2 (x + 2).toNat), zi (q.2 (x + 3).toNat)] n M) (nxt : ∀ M2, LaR K M2 (n + 1) → XL q (d + 1) 657 [some (zr 1), some (zr 2), some (zr 2230), some (zi x)] [] M2) : XL q (d + 1) 370 [some (zr 1), some (zr 2), some (zr 2230), some (zi x)] [] M := by
  refine XL.up (pc' := 371) (fun _ _ k => x_aload_n dL_law_370 rfl rfl k) ?_
  refine XL.up (pc' := 372) (fun _ _ k => x_aload_n dL_law_371 rfl rfl k) ?_
  refine XL.up (pc' := 373) (fun _ _ k => x_iload_n dL_law_372 rfl rfl k) ?_
  refine XL.up (pc' := 374) (fun _ _ k => x_iconst dL_law_373 (show inR 1 from ⟨by decide, by decide⟩) k) ?_
  refine XL.up (pc' := 375) (fun _ _ k => x_iadd dL_law_374 (show inR (x + 1) from ⟨by omega, by omega⟩) k) ?_
  refine XL.up (pc' := 376) (fun _ _ k => x_sld hq dL_law_375 (by omega) (by omega) k) ?_
  refine XL.up (pc' := 377) (fun _ _ k => x_aload_n dL_law_376 rfl rfl k) ?_
  refine XL.up (pc' := 378) (fun _ _ k => x_iload_n dL_law_377 rfl rfl k) ?_
  refine XL.up (pc' := 379) (fun _ _ k => x_iconst dL_law_378 (show inR 2 from ⟨by decide, by decide⟩) k) ?_
  refine XL.up (pc' := 380) (fun _ _ k => x_iadd dL_law_379 (show inR (x + 2) from ⟨by omega, by omega⟩) k) ?_
  refine XL.up (pc' := 381) (fun _ _ k => x_sld hq dL_law_380 (by omega) (by omega) k) ?_
  refine XL.up (pc' := 382) (fun _ _ k => x_aload_n dL_law_381 rfl rfl k) ?_
  refine XL.up (pc' := 383) (fun _ _ k => x_iload_n dL_law_382 rfl rfl k) ?_
  refine XL.up (pc' := 384) (fun _ _ k => x_iconst dL_law_383 (show inR 3 from ⟨by decide, by decide⟩) k) ?_
  refine XL.up (pc' := 385) (fun _ _ k => x_iadd dL_law_384 (show inR (x + 3) from ⟨by omega, by omega⟩) k) ?_
  refine XL.up (pc' := 386) (fun _ _ k => x_sld hq dL_law_385 (by omega) (by omega) k) ?_
  obtain ⟨y, M1, c1, k1, z, M2, c2, k2, e, h2⟩ := B
  refine XL.up (pc' := 389) (st' := [zi y]) (fun _ _ k => x_callV (ci := 9) (as := [zi (q.2 (x + 1).toNat), zi (q.2 (x + 2).toNat), zi (q.2 (x + 3).toNat)]) (st := []) k9_open lmL_48 dL_law_386 rfl (by decide) (zs8 rfl) (by rw [hK.s]; exact hTop.1) ⟨_, _, rfl⟩ c1 k) ?_
  refine XL.up (pc' := 390) (fun _ _ k => x_aload_n dL_law_389 rfl rfl k) ?_
  refine XL.up (pc' := 391) (fun _ _ k => x_aload_n dL_law_390 rfl rfl k) ?_
  refine XL.up (pc' := 392) (fun _ _ k => x_iload_n dL_law_391 rfl rfl k) ?_
  refine XL.up (pc' := 393) (fun _ _ k => x_iconst dL_law_392 (show inR 1 from ⟨by decide, by decide⟩) k) ?_
  refine XL.up (pc' := 394) (fun _ _ k => x_iadd dL_law_393 (show inR (x + 1) from ⟨by omega, by omega⟩) k) ?_
  refine XL.up (pc' := 395) (fun _ _ k => x_sld hq dL_law_394 (by omega) (by omega) k) ?_
  refine XL.up (pc' := 396) (fun _ _ k => x_aload_n dL_law_395 rfl rfl k) ?_
  refine XL.up (pc' := 397) (fun _ _ k => x_iload_n dL_law_396 rfl rfl k) ?_
  refine XL.up (pc' := 398) (fun _ _ k => x_iconst dL_law_397 (show inR 2 from ⟨by decide, by decide⟩) k) ?_
  refine XL.up (pc' := 399) (fun _ _ k => x_iadd dL_law_398 (show inR (x + 2) from ⟨by omega, by omega⟩) k) ?_
  refine XL.up (pc' := 400) (fun _ _ k => x_sld hq dL_law_399 (by omega) (by omega) k) ?_
  refine XL.up (pc' := 401) (fun _ _ k => x_aload_n dL_law_400 rfl rfl k) ?_
  refine XL.up (pc' := 402) (fun _ _ k => x_iload_n dL_law_401 rfl rfl k) ?_
  refine XL.up (pc' := 403) (fun _ _ k => x_iconst dL_law_402 (show inR 3 from ⟨by decide, by decide⟩) k) ?_
  refine XL.up (pc' := 404) (fun _ _ k => x_iadd dL_law_403 (show inR (x + 3) from ⟨by omega, by omega⟩) k) ?_
  refine XL.up (pc' := 405) (fun _ _ k => x_sld hq dL_law_404 (by omega) (by omega) k) ?_
  refine XL.up (pc' := 408) (st' := [zi z, zi y]) (fun _ _ k => x_callV (ci := 10) (as := [zi (q.2 (x + 1).toNat), zi (q.2 (x + 2).toNat), zi (q.2 (x + 3).toNat)]) (st := [zi y]) k10_open lmL_51 dL_law_405 rfl (by decide) (zs8 rfl) (by rw [k1.s]; exact hM.1) ⟨_, _, rfl⟩ c2 k) ?_
  exact XL.up (pc' := 657) (fun _ _ k => x_icmp_eq dL_law_408 rfl (fun _ => k) (fun c => absurd e c)) (nxt M2 h2)
theorem law_case9 (hTop : TopAt K 2) (hM : ModelAt K 2230) (hq : ∀ j, inR (q.2 j)) (h0 : 0 ≤ x) (h1 : x + 4 ≤ q.1) (hq1 : q.1 ≤ 2048) (hK : KW K M) (B : Both K d q9_next q10_next [zi (q.2 (x + 1).toNat)] n M) (nxt : ∀ M2, LaR K M2 (n + 1) → XL q (d + 1) 657 [some (zr 1), some (zr 2), some (zr 2230), some (zi x)] [] M2) : XL q (d + 1) 413 [some (zr 1), some (zr 2), some (zr 2230), some (zi x)] [] M := by
  refine XL.up (pc' := 414) (fun _ _ k => x_aload_n dL_law_413 rfl rfl k) ?_
  refine XL.up (pc' := 415) (fun _ _ k => x_aload_n dL_law_414 rfl rfl k) ?_
  refine XL.up (pc' := 416) (fun _ _ k => x_iload_n dL_law_415 rfl rfl k) ?_
  refine XL.up (pc' := 417) (fun _ _ k => x_iconst dL_law_416 (show inR 1 from ⟨by decide, by decide⟩) k) ?_
  refine XL.up (pc' := 418) (fun _ _ k => x_iadd dL_law_417 (show inR (x + 1) from ⟨by omega, by omega⟩) k) ?_
  refine XL.up (pc' := 419) (fun _ _ k => x_sld hq dL_law_418 (by omega) (by omega) k) ?_
  obtain ⟨y, M1, c1, k1, z, M2, c2, k2, e, h2⟩ := B
  refine XL.up (pc' := 422) (st' := [zi y]) (fun _ _ k => x_callV (ci := 9) (as := [zi (q.2 (x + 1).toNat)]) (st := []) k9_next lmL_52 dL_law_419 rfl (by decide) (zs8 rfl) (by rw [hK.s]; exact hTop.1) ⟨_, _, rfl⟩ c1 k) ?_
  refine XL.up (pc' := 423) (fun _ _ k => x_aload_n dL_law_422 rfl rfl k) ?_
  refine XL.up (pc' := 424) (fun _ _ k => x_aload_n dL_law_423 rfl rfl k) ?_
  refine XL.up (pc' := 425) (fun _ _ k => x_iload_n dL_law_424 rfl rfl k) ?_
  refine XL.up (pc' := 426) (fun _ _ k => x_iconst dL_law_425 (show inR 1 from ⟨by decide, by decide⟩) k) ?_
  refine XL.up (pc' := 427) (fun _ _ k => x_iadd dL_law_426 (show inR (x + 1) from ⟨by omega, by omega⟩) k) ?_
  refine XL.up (pc' := 428) (fun _ _ k => x_sld hq dL_law_427 (by omega) (by omega) k) ?_
  refine XL.up (pc' := 431) (st' := [zi z, zi y]) (fun _ _ k => x_callV (ci := 10) (as := [zi (q.2 (x + 1).toNat)]) (st := [zi y]) k10_next lmL_55 dL_law_428 rfl (by decide) (zs8 rfl) (by rw [k1.s]; exact hM.1) ⟨_, _, rfl⟩ c2 k) ?_
  exact XL.up (pc' := 657) (fun _ _ k => x_icmp_eq dL_law_431 rfl (fun _ => k) (fun c => absurd e c)) (nxt M2 h2)
theorem law_case10 (hTop : TopAt K 2) (hM : ModelAt K 2230) (hq : ∀ j, inR (q.2 j)) (h0 : 0 ≤ x) (h1 : x + 4 ≤ q.1) (hq1 : q.1 ≤ 2048) (hK : KW K M) (B : Both K d q9_ordered q10_ordered [zi (q.2 (x + 1).toNat), zi (q.2 (x + 2).toNat)] n M) (nxt : ∀ M2, LaR K M2 (n + 1) → XL q (d + 1) 657 [some (zr 1), some (zr 2), some (zr 2230), some (zi x)] [] M2) : XL q (d + 1) 436 [some (zr 1), some (zr 2), some (zr 2230), some (zi x)] [] M := by
  refine XL.up (pc' := 437) (fun _ _ k => x_aload_n dL_law_436 rfl rfl k) ?_
  refine XL.up (pc' := 438) (fun _ _ k => x_aload_n dL_law_437 rfl rfl k) ?_
  refine XL.up (pc' := 439) (fun _ _ k => x_iload_n dL_law_438 rfl rfl k) ?_
  refine XL.up (pc' := 440) (fun _ _ k => x_iconst dL_law_439 (show inR 1 from ⟨by decide, by decide⟩) k) ?_
  refine XL.up (pc' := 441) (fun _ _ k => x_iadd dL_law_440 (show inR (x + 1) from ⟨by omega, by omega⟩) k) ?_
  refine XL.up (pc' := 442) (fun _ _ k => x_sld hq dL_law_441 (by omega) (by omega) k) ?_
  refine XL.up (pc' := 443) (fun _ _ k => x_aload_n dL_law_442 rfl rfl k) ?_
  refine XL.up (pc' := 444) (fun _ _ k => x_iload_n dL_law_443 rfl rfl k) ?_
  refine XL.up (pc' := 445) (fun _ _ k => x_iconst dL_law_444 (show inR 2 from ⟨by decide, by decide⟩) k) ?_
  refine XL.up (pc' := 446) (fun _ _ k => x_iadd dL_law_445 (show inR (x + 2) from ⟨by omega, by omega⟩) k) ?_
  refine XL.up (pc' := 447) (fun _ _ k => x_sld hq dL_law_446 (by omega) (by omega) k) ?_
  obtain ⟨y, M1, c1, k1, z, M2, c2, k2, e, h2⟩ := B
  refine XL.up (pc' := 450) (st' := [zi y]) (fun _ _ k => x_callV (ci := 9) (as := [zi (q.2 (x + 1).toNat), zi (q.2 (x + 2).toNat)]) (st := []) k9_ordered lmL_56 dL_law_447 rfl (by decide) (zs8 rfl) (by rw [hK.s]; exact hTop.1) ⟨_, _, rfl⟩ c1 k) ?_
  refine XL.up (pc' := 451) (fun _ _ k => x_aload_n dL_law_450 rfl rfl k) ?_
  refine XL.up (pc' := 452) (fun _ _ k => x_aload_n dL_law_451 rfl rfl k) ?_
  refine XL.up (pc' := 453) (fun _ _ k => x_iload_n dL_law_452 rfl rfl k) ?_
  refine XL.up (pc' := 454) (fun _ _ k => x_iconst dL_law_453 (show inR 1 from ⟨by decide, by decide⟩) k) ?_
  refine XL.up (pc' := 455) (fun _ _ k => x_iadd dL_law_454 (show inR (x + 1) from ⟨by omega, by omega⟩) k) ?_
  refine XL.up (pc' := 456) (fun _ _ k => x_sld hq dL_law_455 (by omega) (by omega) k) ?_
  refine XL.up (pc' := 457) (fun _ _ k => x_aload_n dL_law_456 rfl rfl k) ?_
  refine XL.up (pc' := 458) (fun _ _ k => x_iload_n dL_law_457 rfl rfl k) ?_
  refine XL.up (pc' := 459) (fun _ _ k => x_iconst dL_law_458 (show inR 2 from ⟨by decide, by decide⟩) k) ?_
  refine XL.up (pc' := 460) (fun _ _ k => x_iadd dL_law_459 (show inR (x + 2) from ⟨by omega, by omega⟩) k) ?_
  refine XL.up (pc' := 461) (fun _ _ k => x_sld hq dL_law_460 (by omega) (by omega) k) ?_
  refine XL.up (pc' := 464) (st' := [zi z, zi y]) (fun _ _ k => x_callV (ci := 10) (as := [zi (q.2 (x + 1).toNat), zi (q.2 (x + 2).toNat)]) (st := [zi y]) k10_ordered lmL_59 dL_law_461 rfl (by decide) (zs8 rfl) (by rw [k1.s]; exact hM.1) ⟨_, _, rfl⟩ c2 k) ?_
  exact XL.up (pc' := 657) (fun _ _ k => x_icmp_eq dL_law_464 rfl (fun _ => k) (fun c => absurd e c)) (nxt M2 h2)
theorem law_case11 (hTop : TopAt K 2) (hM : ModelAt K 2230) (hq : ∀ j, inR (q.2 j)) (h0 : 0 ≤ x) (h1 : x + 4 ≤ q.1) (hq1 : q.1 ≤ 2048) (hK : KW K M) (B : Both K d q9_common q10_common [zi (q.2 (x + 1).toNat), zi (q.2 (x + 2).toNat)] n M) (nxt : ∀ M2, LaR K M2 (n + 1) → XL q (d + 1) 657 [some (zr 1), some (zr 2), some (zr 2230), some (zi x)] [] M2) : XL q (d + 1) 469 [some (zr 1), some (zr 2), some (zr 2230), some (zi x)] [] M := by
  refine XL.up (pc' := 470) (fun _ _ k => x_aload_n dL_law_469 rfl rfl k) ?_
  refine XL.up (pc' := 471) (fun _ _ k => x_aload_n dL_law_470 rfl rfl k) ?_
  refine XL.up (pc' := 472) (fun _ _ k => x_iload_n dL_law_471 rfl rfl k) ?_
  refine XL.up (pc' := 473) (fun _ _ k => x_iconst dL_law_472 (show inR 1 from ⟨by decide, by decide⟩) k) ?_
  refine XL.up (pc' := 474) (fun _ _ k => x_iadd dL_law_473 (show inR (x + 1) from ⟨by omega, by omega⟩) k) ?_
  refine XL.up (pc' := 475) (fun _ _ k => x_sld hq dL_law_474 (by omega) (by omega) k) ?_
  refine XL.up (pc' := 476) (fun _ _ k => x_aload_n dL_law_475 rfl rfl k) ?_
  refine XL.up (pc' := 477) (fun _ _ k => x_iload_n dL_law_476 rfl rfl k) ?_
  refine XL.up (pc' := 478) (fun _ _ k => x_iconst dL_law_477 (show inR 2 from ⟨by decide, by decide⟩) k) ?_
  refine XL.up (pc' := 479) (fun _ _ k => x_iadd dL_law_478 (show inR (x + 2) from ⟨by omega, by omega⟩) k) ?_
  refine XL.up (pc' := 480) (fun _ _ k => x_sld hq dL_law_479 (by omega) (by omega) k) ?_
  obtain ⟨y, M1, c1, k1, z, M2, c2, k2, e, h2⟩ := B
  refine XL.up (pc' := 483) (st' := [zi y]) (fun _ _ k => x_callV (ci := 9) (as := [zi (q.2 (x + 1).toNat), zi (q.2 (x + 2).toNat)]) (st := []) k9_common lmL_60 dL_law_480 rfl (by decide) (zs8 rfl) (by rw [hK.s]; exact hTop.1) ⟨_, _, rfl⟩ c1 k) ?_
  refine XL.up (pc' := 484) (fun _ _ k => x_aload_n dL_law_483 rfl rfl k) ?_
  refine XL.up (pc' := 485) (fun _ _ k => x_aload_n dL_law_484 rfl rfl k) ?_
  refine XL.up (pc' := 486) (fun _ _ k => x_iload_n dL_law_485 rfl rfl k) ?_
  refine XL.up (pc' := 487) (fun _ _ k => x_iconst dL_law_486 (show inR 1 from ⟨by decide, by decide⟩) k) ?_
  refine XL.up (pc' := 488) (fun _ _ k => x_iadd dL_law_487 (show inR (x + 1) from ⟨by omega, by omega⟩) k) ?_
  refine XL.up (pc' := 489) (fun _ _ k => x_sld hq dL_law_488 (by omega) (by omega) k) ?_
  refine XL.up (pc' := 490) (fun _ _ k => x_aload_n dL_law_489 rfl rfl k) ?_
  refine XL.up (pc' := 491) (fun _ _ k => x_iload_n dL_law_490 rfl rfl k) ?_
  refine XL.up (pc' := 492) (fun _ _ k => x_iconst dL_law_491 (show inR 2 from ⟨by decide, by decide⟩) k) ?_
  refine XL.up (pc' := 493) (fun _ _ k => x_iadd dL_law_492 (show inR (x + 2) from ⟨by omega, by omega⟩) k) ?_
  refine XL.up (pc' := 494) (fun _ _ k => x_sld hq dL_law_493 (by omega) (by omega) k) ?_
  refine XL.up (pc' := 497) (st' := [zi z, zi y]) (fun _ _ k => x_callV (ci := 10) (as := [zi (q.2 (x + 1).toNat), zi (q.2 (x + 2).toNat)]) (st := [zi y]) k10_common lmL_63 dL_law_494 rfl (by decide) (zs8 rfl) (by rw [k1.s]; exact hM.1) ⟨_, _, rfl⟩ c2 k) ?_
  exact XL.up (pc' := 657) (fun _ _ k => x_icmp_eq dL_law_497 rfl (fun _ => k) (fun c => absurd e c)) (nxt M2 h2)
theorem law_case12 (hTop : TopAt K 2) (hM : ModelAt K 2230) (hq : ∀ j, inR (q.2 j)) (h0 : 0 ≤ x) (h1 : x + 4 ≤ q.1) (hq1 : q.1 ≤ 2048) (hK : KW K M) (B : Both K d q9_unlike q10_unlike [zi (q.2 (x + 1).toNat)] n M) (nxt : ∀ M2, LaR K M2 (n + 1) → XL q (d + 1) 657 [some (zr 1), some (zr 2), some (zr 2230), some (zi x)] [] M2) : XL q (d + 1) 502 [some (zr 1), some (zr 2), some (zr 2230), some (zi x)] [] M := by
  refine XL.up (pc' := 503) (fun _ _ k => x_aload_n dL_law_502 rfl rfl k) ?_
  refine XL.up (pc' := 504) (fun _ _ k => x_aload_n dL_law_503 rfl rfl k) ?_
  refine XL.up (pc' := 505) (fun _ _ k => x_iload_n dL_law_504 rfl rfl k) ?_
  refine XL.up (pc' := 506) (fun _ _ k => x_iconst dL_law_505 (show inR 1 from ⟨by decide, by decide⟩) k) ?_
  refine XL.up (pc' := 507) (fun _ _ k => x_iadd dL_law_506 (show inR (x + 1) from ⟨by omega, by omega⟩) k) ?_
  refine XL.up (pc' := 508) (fun _ _ k => x_sld hq dL_law_507 (by omega) (by omega) k) ?_
  obtain ⟨y, M1, c1, k1, z, M2, c2, k2, e, h2⟩ := B
  refine XL.up (pc' := 511) (st' := [zi y]) (fun _ _ k => x_callV (ci := 9) (as := [zi (q.2 (x + 1).toNat)]) (st := []) k9_unlike lmL_64 dL_law_508 rfl (by decide) (zs8 rfl) (by rw [hK.s]; exact hTop.1) ⟨_, _, rfl⟩ c1 k) ?_
  refine XL.up (pc' := 512) (fun _ _ k => x_aload_n dL_law_511 rfl rfl k) ?_
  refine XL.up (pc' := 513) (fun _ _ k => x_aload_n dL_law_512 rfl rfl k) ?_
  refine XL.up (pc' := 514) (fun _ _ k => x_iload_n dL_law_513 rfl rfl k) ?_
  refine XL.up (pc' := 515) (fun _ _ k => x_iconst dL_law_514 (show inR 1 from ⟨by decide, by decide⟩) k) ?_
  refine XL.up (pc' := 516) (fun _ _ k => x_iadd dL_law_515 (show inR (x + 1) from ⟨by omega, by omega⟩) k) ?_
  refine XL.up (pc' := 517) (fun _ _ k => x_sld hq dL_law_516 (by omega) (by omega) k) ?_
  refine XL.up (pc' := 520) (st' := [zi z, zi y]) (fun _ _ k => x_callV (ci := 10) (as := [zi (q.2 (x + 1).toNat)]) (st := [zi y]) k10_unlike lmL_67 dL_law_517 rfl (by decide) (zs8 rfl) (by rw [k1.s]; exact hM.1) ⟨_, _, rfl⟩ c2 k) ?_
  exact XL.up (pc' := 657) (fun _ _ k => x_icmp_eq dL_law_520 rfl (fun _ => k) (fun c => absurd e c)) (nxt M2 h2)
theorem law_case13 (hTop : TopAt K 2) (hM : ModelAt K 2230) (hq : ∀ j, inR (q.2 j)) (h0 : 0 ≤ x) (h1 : x + 4 ≤ q.1) (hq1 : q.1 ≤ 2048) (hK : KW K M) (B : Both K d q9_turn q10_turn [zi (q.2 (x + 1).toNat), zi (q.2 (x + 2).toNat)] n M) (nxt : ∀ M2, LaR K M2 (n + 1) → XL q (d + 1) 657 [some (zr 1), some (zr 2), some (zr 2230), some (zi x)] [] M2) : XL q (d + 1) 525 [some (zr 1), some (zr 2), some (zr 2230), some (zi x)] [] M := by
  refine XL.up (pc' := 526) (fun _ _ k => x_aload_n dL_law_525 rfl rfl k) ?_
  refine XL.up (pc' := 527) (fun _ _ k => x_aload_n dL_law_526 rfl rfl k) ?_
  refine XL.up (pc' := 528) (fun _ _ k => x_iload_n dL_law_527 rfl rfl k) ?_
  refine XL.up (pc' := 529) (fun _ _ k => x_iconst dL_law_528 (show inR 1 from ⟨by decide, by decide⟩) k) ?_
  refine XL.up (pc' := 530) (fun _ _ k => x_iadd dL_law_529 (show inR (x + 1) from ⟨by omega, by omega⟩) k) ?_
  refine XL.up (pc' := 531) (fun _ _ k => x_sld hq dL_law_530 (by omega) (by omega) k) ?_
  refine XL.up (pc' := 532) (fun _ _ k => x_aload_n dL_law_531 rfl rfl k) ?_
  refine XL.up (pc' := 533) (fun _ _ k => x_iload_n dL_law_532 rfl rfl k) ?_
  refine XL.up (pc' := 534) (fun _ _ k => x_iconst dL_law_533 (show inR 2 from ⟨by decide, by decide⟩) k) ?_
  refine XL.up (pc' := 535) (fun _ _ k => x_iadd dL_law_534 (show inR (x + 2) from ⟨by omega, by omega⟩) k) ?_
  refine XL.up (pc' := 536) (fun _ _ k => x_sld hq dL_law_535 (by omega) (by omega) k) ?_
  obtain ⟨y, M1, c1, k1, z, M2, c2, k2, e, h2⟩ := B
  refine XL.up (pc' := 539) (st' := [zi y]) (fun _ _ k => x_callV (ci := 9) (as := [zi (q.2 (x + 1).toNat), zi (q.2 (x + 2).toNat)]) (st := []) k9_turn lmL_68 dL_law_536 rfl (by decide) (zs8 rfl) (by rw [hK.s]; exact hTop.1) ⟨_, _, rfl⟩ c1 k) ?_
  refine XL.up (pc' := 540) (fun _ _ k => x_aload_n dL_law_539 rfl rfl k) ?_
  refine XL.up (pc' := 541) (fun _ _ k => x_aload_n dL_law_540 rfl rfl k) ?_
  refine XL.up (pc' := 542) (fun _ _ k => x_iload_n dL_law_541 rfl rfl k) ?_
  refine XL.up (pc' := 543) (fun _ _ k => x_iconst dL_law_542 (show inR 1 from ⟨by decide, by decide⟩) k) ?_
  refine XL.up (pc' := 544) (fun _ _ k => x_iadd dL_law_543 (show inR (x + 1) from ⟨by omega, by omega⟩) k) ?_
  refine XL.up (pc' := 545) (fun _ _ k => x_sld hq dL_law_544 (by omega) (by omega) k) ?_
  refine XL.up (pc' := 546) (fun _ _ k => x_aload_n dL_law_545 rfl rfl k) ?_
  refine XL.up (pc' := 547) (fun _ _ k => x_iload_n dL_law_546 rfl rfl k) ?_
  refine XL.up (pc' := 548) (fun _ _ k => x_iconst dL_law_547 (show inR 2 from ⟨by decide, by decide⟩) k) ?_
  refine XL.up (pc' := 549) (fun _ _ k => x_iadd dL_law_548 (show inR (x + 2) from ⟨by omega, by omega⟩) k) ?_
  refine XL.up (pc' := 550) (fun _ _ k => x_sld hq dL_law_549 (by omega) (by omega) k) ?_
  refine XL.up (pc' := 553) (st' := [zi z, zi y]) (fun _ _ k => x_callV (ci := 10) (as := [zi (q.2 (x + 1).toNat), zi (q.2 (x + 2).toNat)]) (st := [zi y]) k10_turn lmL_71 dL_law_550 rfl (by decide) (zs8 rfl) (by rw [k1.s]; exact hM.1) ⟨_, _, rfl⟩ c2 k) ?_
  exact XL.up (pc' := 657) (fun _ _ k => x_icmp_eq dL_law_553 rfl (fun _ => k) (fun c => absurd e c)) (nxt M2 h2)
theorem law_case14 (hTop : TopAt K 2) (hM : ModelAt K 2230) (hq : ∀ j, inR (q.2 j)) (h0 : 0 ≤ x) (h1 : x + 4 ≤ q.1) (hq1 : q.1 ≤ 2048) (hK : KW K M) (B : Both K d q9_copy q10_copy [zi (q.2 (x + 1).toNat), zi (q.2 (x + 2).toNat)] n M) (nxt : ∀ M2, LaR K M2 (n + 1) → XL q (d + 1) 657 [some (zr 1), some (zr 2), some (zr 2230), some (zi x)] [] M2) : XL q (d + 1) 558 [some (zr 1), some (zr 2), some (zr 2230), some (zi x)] [] M := by
  refine XL.up (pc' := 559) (fun _ _ k => x_aload_n dL_law_558 rfl rfl k) ?_
  refine XL.up (pc' := 560) (fun _ _ k => x_aload_n dL_law_559 rfl rfl k) ?_
  refine XL.up (pc' := 561) (fun _ _ k => x_iload_n dL_law_560 rfl rfl k) ?_
  refine XL.up (pc' := 562) (fun _ _ k => x_iconst dL_law_561 (show inR 1 from ⟨by decide, by decide⟩) k) ?_
  refine XL.up (pc' := 563) (fun _ _ k => x_iadd dL_law_562 (show inR (x + 1) from ⟨by omega, by omega⟩) k) ?_
  refine XL.up (pc' := 564) (fun _ _ k => x_sld hq dL_law_563 (by omega) (by omega) k) ?_
  refine XL.up (pc' := 565) (fun _ _ k => x_aload_n dL_law_564 rfl rfl k) ?_
  refine XL.up (pc' := 566) (fun _ _ k => x_iload_n dL_law_565 rfl rfl k) ?_
  refine XL.up (pc' := 567) (fun _ _ k => x_iconst dL_law_566 (show inR 2 from ⟨by decide, by decide⟩) k) ?_
  refine XL.up (pc' := 568) (fun _ _ k => x_iadd dL_law_567 (show inR (x + 2) from ⟨by omega, by omega⟩) k) ?_
  refine XL.up (pc' := 569) (fun _ _ k => x_sld hq dL_law_568 (by omega) (by omega) k) ?_
  obtain ⟨y, M1, c1, k1, z, M2, c2, k2, e, h2⟩ := B
  refine XL.up (pc' := 572) (st' := [zi y]) (fun _ _ k => x_callV (ci := 9) (as := [zi (q.2 (x + 1).toNat), zi (q.2 (x + 2).toNat)]) (st := []) k9_copy lmL_72 dL_law_569 rfl (by decide) (zs8 rfl) (by rw [hK.s]; exact hTop.1) ⟨_, _, rfl⟩ c1 k) ?_
  refine XL.up (pc' := 573) (fun _ _ k => x_aload_n dL_law_572 rfl rfl k) ?_
  refine XL.up (pc' := 574) (fun _ _ k => x_aload_n dL_law_573 rfl rfl k) ?_
  refine XL.up (pc' := 575) (fun _ _ k => x_iload_n dL_law_574 rfl rfl k) ?_
  refine XL.up (pc' := 576) (fun _ _ k => x_iconst dL_law_575 (show inR 1 from ⟨by decide, by decide⟩) k) ?_
  refine XL.up (pc' := 577) (fun _ _ k => x_iadd dL_law_576 (show inR (x + 1) from ⟨by omega, by omega⟩) k) ?_
  refine XL.up (pc' := 578) (fun _ _ k => x_sld hq dL_law_577 (by omega) (by omega) k) ?_
  refine XL.up (pc' := 579) (fun _ _ k => x_aload_n dL_law_578 rfl rfl k) ?_
  refine XL.up (pc' := 580) (fun _ _ k => x_iload_n dL_law_579 rfl rfl k) ?_
  refine XL.up (pc' := 581) (fun _ _ k => x_iconst dL_law_580 (show inR 2 from ⟨by decide, by decide⟩) k) ?_
  refine XL.up (pc' := 582) (fun _ _ k => x_iadd dL_law_581 (show inR (x + 2) from ⟨by omega, by omega⟩) k) ?_
  refine XL.up (pc' := 583) (fun _ _ k => x_sld hq dL_law_582 (by omega) (by omega) k) ?_
  refine XL.up (pc' := 586) (st' := [zi z, zi y]) (fun _ _ k => x_callV (ci := 10) (as := [zi (q.2 (x + 1).toNat), zi (q.2 (x + 2).toNat)]) (st := [zi y]) k10_copy lmL_75 dL_law_583 rfl (by decide) (zs8 rfl) (by rw [k1.s]; exact hM.1) ⟨_, _, rfl⟩ c2 k) ?_
  exact XL.up (pc' := 657) (fun _ _ k => x_icmp_eq dL_law_586 rfl (fun _ => k) (fun c => absurd e c)) (nxt M2 h2)
theorem law_case15 (hTop : TopAt K 2) (hM : ModelAt K 2230) (hq : ∀ j, inR (q.2 j)) (h0 : 0 ≤ x) (h1 : x + 4 ≤ q.1) (hq1 : q.1 ≤ 2048) (hK : KW K M) (B : Both K d q9_would q10_would [zi (q.2 (x + 1).toNat), zi (q.2 (x + 2).toNat), zi (q.2 (x + 3).toNat)] n M) (nxt : ∀ M2, LaR K M2 (n + 1) → XL q (d + 1) 657 [some (zr 1), some (zr 2), some (zr 2230), some (zi x)] [] M2) : XL q (d + 1) 591 [some (zr 1), some (zr 2), some (zr 2230), some (zi x)] [] M := by
  refine XL.up (pc' := 592) (fun _ _ k => x_aload_n dL_law_591 rfl rfl k) ?_
  refine XL.up (pc' := 593) (fun _ _ k => x_aload_n dL_law_592 rfl rfl k) ?_
  refine XL.up (pc' := 594) (fun _ _ k => x_iload_n dL_law_593 rfl rfl k) ?_
  refine XL.up (pc' := 595) (fun _ _ k => x_iconst dL_law_594 (show inR 1 from ⟨by decide, by decide⟩) k) ?_
  refine XL.up (pc' := 596) (fun _ _ k => x_iadd dL_law_595 (show inR (x + 1) from ⟨by omega, by omega⟩) k) ?_
  refine XL.up (pc' := 597) (fun _ _ k => x_sld hq dL_law_596 (by omega) (by omega) k) ?_
  refine XL.up (pc' := 598) (fun _ _ k => x_aload_n dL_law_597 rfl rfl k) ?_
  refine XL.up (pc' := 599) (fun _ _ k => x_iload_n dL_law_598 rfl rfl k) ?_
  refine XL.up (pc' := 600) (fun _ _ k => x_iconst dL_law_599 (show inR 2 from ⟨by decide, by decide⟩) k) ?_
  refine XL.up (pc' := 601) (fun _ _ k => x_iadd dL_law_600 (show inR (x + 2) from ⟨by omega, by omega⟩) k) ?_
  refine XL.up (pc' := 602) (fun _ _ k => x_sld hq dL_law_601 (by omega) (by omega) k) ?_
  refine XL.up (pc' := 603) (fun _ _ k => x_aload_n dL_law_602 rfl rfl k) ?_
  refine XL.up (pc' := 604) (fun _ _ k => x_iload_n dL_law_603 rfl rfl k) ?_
  refine XL.up (pc' := 605) (fun _ _ k => x_iconst dL_law_604 (show inR 3 from ⟨by decide, by decide⟩) k) ?_
  refine XL.up (pc' := 606) (fun _ _ k => x_iadd dL_law_605 (show inR (x + 3) from ⟨by omega, by omega⟩) k) ?_
  refine XL.up (pc' := 607) (fun _ _ k => x_sld hq dL_law_606 (by omega) (by omega) k) ?_
  obtain ⟨y, M1, c1, k1, z, M2, c2, k2, e, h2⟩ := B
  refine XL.up (pc' := 610) (st' := [zi y]) (fun _ _ k => x_callV (ci := 9) (as := [zi (q.2 (x + 1).toNat), zi (q.2 (x + 2).toNat), zi (q.2 (x + 3).toNat)]) (st := []) k9_would lmL_76 dL_law_607 rfl (by decide) (zs8 rfl) (by rw [hK.s]; exact hTop.1) ⟨_, _, rfl⟩ c1 k) ?_
  refine XL.up (pc' := 611) (fun _ _ k => x_aload_n dL_law_610 rfl rfl k) ?_
  refine XL.up (pc' := 612) (fun _ _ k => x_aload_n dL_law_611 rfl rfl k) ?_
  refine XL.up (pc' := 613) (fun _ _ k => x_iload_n dL_law_612 rfl rfl k) ?_
  refine XL.up (pc' := 614) (fun _ _ k => x_iconst dL_law_613 (show inR 1 from ⟨by decide, by decide⟩) k) ?_
  refine XL.up (pc' := 615) (fun _ _ k => x_iadd dL_law_614 (show inR (x + 1) from ⟨by omega, by omega⟩) k) ?_
  refine XL.up (pc' := 616) (fun _ _ k => x_sld hq dL_law_615 (by omega) (by omega) k) ?_
  refine XL.up (pc' := 617) (fun _ _ k => x_aload_n dL_law_616 rfl rfl k) ?_
  refine XL.up (pc' := 618) (fun _ _ k => x_iload_n dL_law_617 rfl rfl k) ?_
  refine XL.up (pc' := 619) (fun _ _ k => x_iconst dL_law_618 (show inR 2 from ⟨by decide, by decide⟩) k) ?_
  refine XL.up (pc' := 620) (fun _ _ k => x_iadd dL_law_619 (show inR (x + 2) from ⟨by omega, by omega⟩) k) ?_
  refine XL.up (pc' := 621) (fun _ _ k => x_sld hq dL_law_620 (by omega) (by omega) k) ?_
  refine XL.up (pc' := 622) (fun _ _ k => x_aload_n dL_law_621 rfl rfl k) ?_
  refine XL.up (pc' := 623) (fun _ _ k => x_iload_n dL_law_622 rfl rfl k) ?_
  refine XL.up (pc' := 624) (fun _ _ k => x_iconst dL_law_623 (show inR 3 from ⟨by decide, by decide⟩) k) ?_
  refine XL.up (pc' := 625) (fun _ _ k => x_iadd dL_law_624 (show inR (x + 3) from ⟨by omega, by omega⟩) k) ?_
  refine XL.up (pc' := 626) (fun _ _ k => x_sld hq dL_law_625 (by omega) (by omega) k) ?_
  refine XL.up (pc' := 629) (st' := [zi z, zi y]) (fun _ _ k => x_callV (ci := 10) (as := [zi (q.2 (x + 1).toNat), zi (q.2 (x + 2).toNat), zi (q.2 (x + 3).toNat)]) (st := [zi y]) k10_would lmL_79 dL_law_626 rfl (by decide) (zs8 rfl) (by rw [k1.s]; exact hM.1) ⟨_, _, rfl⟩ c2 k) ?_
  exact XL.up (pc' := 657) (fun _ _ k => x_icmp_eq dL_law_629 rfl (fun _ => k) (fun c => absurd e c)) (nxt M2 h2)
theorem law_case16 (hTop : TopAt K 2) (hM : ModelAt K 2230) (hq : ∀ j, inR (q.2 j)) (h0 : 0 ≤ x) (h1 : x + 4 ≤ q.1) (hq1 : q.1 ≤ 2048) (hK : KW K M) (B : Both K d q9_count q10_count [zi (q.2 (x + 1).toNat)] n M) (nxt : ∀ M2, LaR K M2 (n + 1) → XL q (d + 1) 657 [some (zr 1), some (zr 2), some (zr 2230), some (zi x)] [] M2) : XL q (d + 1) 634 [some (zr 1), some (zr 2), some (zr 2230), some (zi x)] [] M := by
  refine XL.up (pc' := 635) (fun _ _ k => x_aload_n dL_law_634 rfl rfl k) ?_
  refine XL.up (pc' := 636) (fun _ _ k => x_aload_n dL_law_635 rfl rfl k) ?_
  refine XL.up (pc' := 637) (fun _ _ k => x_iload_n dL_law_636 rfl rfl k) ?_
  refine XL.up (pc' := 638) (fun _ _ k => x_iconst dL_law_637 (show inR 1 from ⟨by decide, by decide⟩) k) ?_
  refine XL.up (pc' := 639) (fun _ _ k => x_iadd dL_law_638 (show inR (x + 1) from ⟨by omega, by omega⟩) k) ?_
  refine XL.up (pc' := 640) (fun _ _ k => x_sld hq dL_law_639 (by omega) (by omega) k) ?_
  obtain ⟨y, M1, c1, k1, z, M2, c2, k2, e, h2⟩ := B
  refine XL.up (pc' := 643) (st' := [zi y]) (fun _ _ k => x_callV (ci := 9) (as := [zi (q.2 (x + 1).toNat)]) (st := []) k9_count lmL_80 dL_law_640 rfl (by decide) (zs8 rfl) (by rw [hK.s]; exact hTop.1) ⟨_, _, rfl⟩ c1 k) ?_
  refine XL.up (pc' := 644) (fun _ _ k => x_aload_n dL_law_643 rfl rfl k) ?_
  refine XL.up (pc' := 645) (fun _ _ k => x_aload_n dL_law_644 rfl rfl k) ?_
  refine XL.up (pc' := 646) (fun _ _ k => x_iload_n dL_law_645 rfl rfl k) ?_
  refine XL.up (pc' := 647) (fun _ _ k => x_iconst dL_law_646 (show inR 1 from ⟨by decide, by decide⟩) k) ?_
  refine XL.up (pc' := 648) (fun _ _ k => x_iadd dL_law_647 (show inR (x + 1) from ⟨by omega, by omega⟩) k) ?_
  refine XL.up (pc' := 649) (fun _ _ k => x_sld hq dL_law_648 (by omega) (by omega) k) ?_
  refine XL.up (pc' := 652) (st' := [zi z, zi y]) (fun _ _ k => x_callV (ci := 10) (as := [zi (q.2 (x + 1).toNat)]) (st := [zi y]) k10_count lmL_83 dL_law_649 rfl (by decide) (zs8 rfl) (by rw [k1.s]; exact hM.1) ⟨_, _, rfl⟩ c2 k) ?_
  exact XL.up (pc' := 657) (fun _ _ k => x_icmp_eq dL_law_652 rfl (fun _ => k) (fun c => absurd e c)) (nxt M2 h2)
end LAWCASES
