theorem d_W_218 : decode code 218 = .ok (.iconst 1, 1) := by decide +kernel
theorem d_W_219 : decode code 219 = .ok (.iadd, 1) := by decide +kernel
theorem d_W_220 : decode code 220 = .ok (.iaload, 1) := by decide +kernel
theorem d_W_221 : decode code 221 = .ok (.aload_n 0, 1) := by decide +kernel
theorem d_W_222 : decode code 222 = .ok (.iload_n 3, 1) := by decide +kernel
theorem d_W_223 : decode code 223 = .ok (.iconst 2, 1) := by decide +kernel
theorem d_W_224 : decode code 224 = .ok (.iadd, 1) := by decide +kernel
theorem d_W_225 : decode code 225 = .ok (.iaload, 1) := by decide +kernel
theorem d_W_226 : decode code 226 = .ok (.aload_n 0, 1) := by decide +kernel
theorem d_W_227 : decode code 227 = .ok (.iload_n 3, 1) := by decide +kernel
theorem d_W_228 : decode code 228 = .ok (.iconst 3, 1) := by decide +kernel
theorem d_W_229 : decode code 229 = .ok (.iadd, 1) := by decide +kernel
theorem d_W_230 : decode code 230 = .ok (.iaload, 1) := by decide +kernel
theorem d_W_231 : decode code 231 = .ok (.invokevirtual 26, 3) := by decide +kernel
theorem d_W_234 : decode code 234 = .ok (.aload_n 2, 1) := by decide +kernel
theorem d_W_235 : decode code 235 = .ok (.aload_n 0, 1) := by decide +kernel
theorem d_W_236 : decode code 236 = .ok (.iload_n 3, 1) := by decide +kernel
theorem d_W_237 : decode code 237 = .ok (.iconst 1, 1) := by decide +kernel
theorem d_W_238 : decode code 238 = .ok (.iadd, 1) := by decide +kernel
theorem d_W_239 : decode code 239 = .ok (.iaload, 1) := by decide +kernel
theorem d_W_240 : decode code 240 = .ok (.aload_n 0, 1) := by decide +kernel
theorem d_W_241 : decode code 241 = .ok (.iload_n 3, 1) := by decide +kernel
theorem d_W_242 : decode code 242 = .ok (.iconst 2, 1) := by decide +kernel
theorem d_W_243 : decode code 243 = .ok (.iadd, 1) := by decide +kernel
theorem d_W_244 : decode code 244 = .ok (.iaload, 1) := by decide +kernel
theorem d_W_245 : decode code 245 = .ok (.aload_n 0, 1) := by decide +kernel
theorem d_W_246 : decode code 246 = .ok (.iload_n 3, 1) := by decide +kernel
theorem d_W_247 : decode code 247 = .ok (.iconst 3, 1) := by decide +kernel
theorem d_W_248 : decode code 248 = .ok (.iadd, 1) := by decide +kernel
theorem d_W_249 : decode code 249 = .ok (.iaload, 1) := by decide +kernel
theorem d_W_250 : decode code 250 = .ok (.invokevirtual 30, 3) := by decide +kernel
theorem d_W_253 : decode code 253 = .ok (.if_icmp .eq 377, 3) := by decide +kernel
theorem d_W_256 : decode code 256 = .ok (.iconst 0, 1) := by decide +kernel
theorem d_W_257 : decode code 257 = .ok (.ireturn, 1) := by decide +kernel
theorem d_W_258 : decode code 258 = .ok (.aload_n 1, 1) := by decide +kernel
theorem d_W_259 : decode code 259 = .ok (.aload_n 0, 1) := by decide +kernel
theorem d_W_260 : decode code 260 = .ok (.iload_n 3, 1) := by decide +kernel
theorem d_W_261 : decode code 261 = .ok (.iconst 1, 1) := by decide +kernel
theorem d_W_262 : decode code 262 = .ok (.iadd, 1) := by decide +kernel
theorem d_W_263 : decode code 263 = .ok (.iaload, 1) := by decide +kernel
theorem d_W_264 : decode code 264 = .ok (.aload_n 0, 1) := by decide +kernel
theorem d_W_265 : decode code 265 = .ok (.iload_n 3, 1) := by decide +kernel
theorem d_W_266 : decode code 266 = .ok (.iconst 2, 1) := by decide +kernel
theorem d_W_267 : decode code 267 = .ok (.iadd, 1) := by decide +kernel
theorem d_W_268 : decode code 268 = .ok (.iaload, 1) := by decide +kernel
theorem d_W_269 : decode code 269 = .ok (.aload_n 0, 1) := by decide +kernel
theorem d_W_270 : decode code 270 = .ok (.iload_n 3, 1) := by decide +kernel
theorem d_W_271 : decode code 271 = .ok (.iconst 3, 1) := by decide +kernel
theorem d_W_272 : decode code 272 = .ok (.iadd, 1) := by decide +kernel
theorem d_W_273 : decode code 273 = .ok (.iaload, 1) := by decide +kernel
theorem d_W_274 : decode code 274 = .ok (.aload_n 0, 1) := by decide +kernel
theorem d_W_275 : decode code 275 = .ok (.iload_n 3, 1) := by decide +kernel
theorem d_W_276 : decode code 276 = .ok (.iconst 4, 1) := by decide +kernel
theorem d_W_277 : decode code 277 = .ok (.iadd, 1) := by decide +kernel
theorem d_W_278 : decode code 278 = .ok (.iaload, 1) := by decide +kernel
theorem d_W_279 : decode code 279 = .ok (.invokevirtual 31, 3) := by decide +kernel
theorem d_W_282 : decode code 282 = .ok (.aload_n 2, 1) := by decide +kernel
theorem d_W_283 : decode code 283 = .ok (.aload_n 0, 1) := by decide +kernel
theorem d_W_284 : decode code 284 = .ok (.iload_n 3, 1) := by decide +kernel
theorem d_W_285 : decode code 285 = .ok (.iconst 1, 1) := by decide +kernel
theorem d_W_286 : decode code 286 = .ok (.iadd, 1) := by decide +kernel
theorem d_W_287 : decode code 287 = .ok (.iaload, 1) := by decide +kernel
theorem d_W_288 : decode code 288 = .ok (.aload_n 0, 1) := by decide +kernel
theorem d_W_289 : decode code 289 = .ok (.iload_n 3, 1) := by decide +kernel
theorem d_W_290 : decode code 290 = .ok (.iconst 2, 1) := by decide +kernel
theorem d_W_291 : decode code 291 = .ok (.iadd, 1) := by decide +kernel
theorem d_W_292 : decode code 292 = .ok (.iaload, 1) := by decide +kernel
theorem d_W_293 : decode code 293 = .ok (.aload_n 0, 1) := by decide +kernel
theorem d_W_294 : decode code 294 = .ok (.iload_n 3, 1) := by decide +kernel
theorem d_W_295 : decode code 295 = .ok (.iconst 3, 1) := by decide +kernel
theorem d_W_296 : decode code 296 = .ok (.iadd, 1) := by decide +kernel
theorem d_W_297 : decode code 297 = .ok (.iaload, 1) := by decide +kernel
theorem d_W_298 : decode code 298 = .ok (.aload_n 0, 1) := by decide +kernel
theorem d_W_299 : decode code 299 = .ok (.iload_n 3, 1) := by decide +kernel
theorem d_W_300 : decode code 300 = .ok (.iconst 4, 1) := by decide +kernel
theorem d_W_301 : decode code 301 = .ok (.iadd, 1) := by decide +kernel
theorem d_W_302 : decode code 302 = .ok (.iaload, 1) := by decide +kernel
theorem d_W_303 : decode code 303 = .ok (.invokevirtual 35, 3) := by decide +kernel
theorem d_W_306 : decode code 306 = .ok (.if_icmp .eq 324, 3) := by decide +kernel
theorem d_W_309 : decode code 309 = .ok (.iconst 0, 1) := by decide +kernel
theorem d_W_310 : decode code 310 = .ok (.ireturn, 1) := by decide +kernel
theorem d_W_311 : decode code 311 = .ok (.aload_n 1, 1) := by decide +kernel
theorem d_W_312 : decode code 312 = .ok (.aload_n 0, 1) := by decide +kernel
theorem d_W_313 : decode code 313 = .ok (.iload_n 3, 1) := by decide +kernel
theorem d_W_314 : decode code 314 = .ok (.iconst 1, 1) := by decide +kernel
theorem d_W_315 : decode code 315 = .ok (.iadd, 1) := by decide +kernel
theorem d_W_316 : decode code 316 = .ok (.iaload, 1) := by decide +kernel
theorem d_W_317 : decode code 317 = .ok (.ifCond .eq 7, 3) := by decide +kernel
theorem d_W_320 : decode code 320 = .ok (.iconst 1, 1) := by decide +kernel
theorem d_W_321 : decode code 321 = .ok (.goto 4, 3) := by decide +kernel
theorem d_W_324 : decode code 324 = .ok (.iconst 0, 1) := by decide +kernel
theorem d_W_325 : decode code 325 = .ok (.aload_n 0, 1) := by decide +kernel
theorem d_W_326 : decode code 326 = .ok (.iload_n 3, 1) := by decide +kernel
theorem d_W_327 : decode code 327 = .ok (.iconst 2, 1) := by decide +kernel
theorem d_W_328 : decode code 328 = .ok (.iadd, 1) := by decide +kernel
theorem d_W_329 : decode code 329 = .ok (.iaload, 1) := by decide +kernel
theorem d_W_330 : decode code 330 = .ok (.ifCond .eq 7, 3) := by decide +kernel
theorem d_W_333 : decode code 333 = .ok (.iconst 1, 1) := by decide +kernel
theorem d_W_334 : decode code 334 = .ok (.goto 4, 3) := by decide +kernel
theorem d_W_337 : decode code 337 = .ok (.iconst 0, 1) := by decide +kernel
theorem d_W_338 : decode code 338 = .ok (.invokevirtual 36, 3) := by decide +kernel
theorem d_W_341 : decode code 341 = .ok (.aload_n 2, 1) := by decide +kernel
theorem d_W_342 : decode code 342 = .ok (.aload_n 0, 1) := by decide +kernel
theorem d_W_343 : decode code 343 = .ok (.iload_n 3, 1) := by decide +kernel
theorem d_W_344 : decode code 344 = .ok (.iconst 1, 1) := by decide +kernel
theorem d_W_345 : decode code 345 = .ok (.iadd, 1) := by decide +kernel
