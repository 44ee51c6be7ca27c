/-! WHAT STANDS AT EACH pc OF THE LAW -/
theorem at_104_0 : mm_at 104 0 = some ((.new 8 : Instr), 3, 0, 0) := by decide +kernel
theorem at_104_3 : mm_at 104 3 = some ((.dup : Instr), 4, 0, 0) := by decide +kernel
theorem at_104_4 : mm_at 104 4 = some ((.aload_n 0 : Instr), 5, 0, 0) := by decide +kernel
theorem at_104_5 : mm_at 104 5 = some ((.iconst (0) : Instr), 6, 0, 0) := by decide +kernel
theorem at_104_6 : mm_at 104 6 = some ((.invokestatic 79 : Instr), 9, 85, 2) := by decide +kernel
theorem at_104_9 : mm_at 104 9 = some ((.aload_n 0 : Instr), 10, 0, 0) := by decide +kernel
theorem at_104_10 : mm_at 104 10 = some ((.iconst (1) : Instr), 11, 0, 0) := by decide +kernel
theorem at_104_11 : mm_at 104 11 = some ((.invokestatic 79 : Instr), 14, 85, 2) := by decide +kernel
theorem at_104_14 : mm_at 104 14 = some ((.aload_n 0 : Instr), 15, 0, 0) := by decide +kernel
theorem at_104_15 : mm_at 104 15 = some ((.iconst (2) : Instr), 16, 0, 0) := by decide +kernel
theorem at_104_16 : mm_at 104 16 = some ((.invokestatic 79 : Instr), 19, 85, 2) := by decide +kernel
theorem at_104_19 : mm_at 104 19 = some ((.invokespecial 85 : Instr), 22, 0, 4) := by decide +kernel
theorem at_104_22 : mm_at 104 22 = some ((.astore_n 1 : Instr), 23, 0, 0) := by decide +kernel
theorem at_104_23 : mm_at 104 23 = some ((.new 87 : Instr), 26, 4, 0) := by decide +kernel
theorem at_104_26 : mm_at 104 26 = some ((.dup : Instr), 27, 0, 0) := by decide +kernel
theorem at_104_27 : mm_at 104 27 = some ((.aload_n 0 : Instr), 28, 0, 0) := by decide +kernel
theorem at_104_28 : mm_at 104 28 = some ((.iconst (0) : Instr), 29, 0, 0) := by decide +kernel
theorem at_104_29 : mm_at 104 29 = some ((.invokestatic 79 : Instr), 32, 85, 2) := by decide +kernel
theorem at_104_32 : mm_at 104 32 = some ((.aload_n 0 : Instr), 33, 0, 0) := by decide +kernel
theorem at_104_33 : mm_at 104 33 = some ((.iconst (1) : Instr), 34, 0, 0) := by decide +kernel
theorem at_104_34 : mm_at 104 34 = some ((.invokestatic 79 : Instr), 37, 85, 2) := by decide +kernel
theorem at_104_37 : mm_at 104 37 = some ((.aload_n 0 : Instr), 38, 0, 0) := by decide +kernel
theorem at_104_38 : mm_at 104 38 = some ((.iconst (2) : Instr), 39, 0, 0) := by decide +kernel
theorem at_104_39 : mm_at 104 39 = some ((.invokestatic 79 : Instr), 42, 85, 2) := by decide +kernel
theorem at_104_42 : mm_at 104 42 = some ((.invokespecial 89 : Instr), 45, 50, 4) := by decide +kernel
theorem at_104_45 : mm_at 104 45 = some ((.astore_n 2 : Instr), 46, 0, 0) := by decide +kernel
theorem at_104_46 : mm_at 104 46 = some ((.iconst (1) : Instr), 47, 0, 0) := by decide +kernel
theorem at_104_47 : mm_at 104 47 = some ((.newarray .long : Instr), 49, 12, 0) := by decide +kernel
theorem at_104_49 : mm_at 104 49 = some ((.astore_n 3 : Instr), 50, 0, 0) := by decide +kernel
theorem at_104_50 : mm_at 104 50 = some ((.iconst (3) : Instr), 51, 0, 0) := by decide +kernel
theorem at_104_51 : mm_at 104 51 = some ((.istore 4 : Instr), 53, 0, 0) := by decide +kernel
theorem at_104_53 : mm_at 104 53 = some ((.iload 4 : Instr), 55, 0, 0) := by decide +kernel
theorem at_104_55 : mm_at 104 55 = some ((.aload_n 0 : Instr), 56, 0, 0) := by decide +kernel
theorem at_104_56 : mm_at 104 56 = some ((.arraylength : Instr), 57, 0, 0) := by decide +kernel
theorem at_104_57 : mm_at 104 57 = some ((.iconst (4) : Instr), 58, 0, 0) := by decide +kernel
theorem at_104_58 : mm_at 104 58 = some ((.isub : Instr), 59, 0, 0) := by decide +kernel
theorem at_104_59 : mm_at 104 59 = some ((.if_icmp .gt (1214) : Instr), 62, 1273, 0) := by decide +kernel
theorem at_104_62 : mm_at 104 62 = some ((.aload_n 0 : Instr), 63, 0, 0) := by decide +kernel
theorem at_104_63 : mm_at 104 63 = some ((.iload 4 : Instr), 65, 0, 0) := by decide +kernel
theorem at_104_65 : mm_at 104 65 = some ((.iaload : Instr), 66, 0, 0) := by decide +kernel
theorem at_104_66 : mm_at 104 66 = some ((.bipush (31) : Instr), 68, 0, 0) := by decide +kernel
theorem at_104_68 : mm_at 104 68 = some ((.iand : Instr), 69, 0, 0) := by decide +kernel
theorem at_104_69 : mm_at 104 69 = some ((.tableswitch (1198) (0) (17) #[87, 163, 227, 295, 355, 403, 451, 507, 591, 647, 703, 759, 819, 887, 955, 1011, 1067, 1135] : Instr), 156, 0, 0) := by decide +kernel
theorem at_104_156 : mm_at 104 156 = some ((.aload_n 1 : Instr), 157, 0, 0) := by decide +kernel
theorem at_104_157 : mm_at 104 157 = some ((.aload_n 0 : Instr), 158, 0, 0) := by decide +kernel
theorem at_104_158 : mm_at 104 158 = some ((.iload 4 : Instr), 160, 0, 0) := by decide +kernel
theorem at_104_160 : mm_at 104 160 = some ((.iconst (1) : Instr), 161, 0, 0) := by decide +kernel
theorem at_104_161 : mm_at 104 161 = some ((.iadd : Instr), 162, 0, 0) := by decide +kernel
theorem at_104_162 : mm_at 104 162 = some ((.iaload : Instr), 163, 0, 0) := by decide +kernel
theorem at_104_163 : mm_at 104 163 = some ((.aload_n 0 : Instr), 164, 0, 0) := by decide +kernel
theorem at_104_164 : mm_at 104 164 = some ((.iload 4 : Instr), 166, 0, 0) := by decide +kernel
theorem at_104_166 : mm_at 104 166 = some ((.iconst (2) : Instr), 167, 0, 0) := by decide +kernel
theorem at_104_167 : mm_at 104 167 = some ((.iadd : Instr), 168, 0, 0) := by decide +kernel
theorem at_104_168 : mm_at 104 168 = some ((.iaload : Instr), 169, 0, 0) := by decide +kernel
theorem at_104_169 : mm_at 104 169 = some ((.aload_n 0 : Instr), 170, 0, 0) := by decide +kernel
theorem at_104_170 : mm_at 104 170 = some ((.iload 4 : Instr), 172, 0, 0) := by decide +kernel
theorem at_104_172 : mm_at 104 172 = some ((.iconst (3) : Instr), 173, 0, 0) := by decide +kernel
theorem at_104_173 : mm_at 104 173 = some ((.iadd : Instr), 174, 0, 0) := by decide +kernel
theorem at_104_174 : mm_at 104 174 = some ((.iaload : Instr), 175, 0, 0) := by decide +kernel
theorem at_104_175 : mm_at 104 175 = some ((.ifCond .eq (7) : Instr), 178, 182, 0) := by decide +kernel
theorem at_104_178 : mm_at 104 178 = some ((.iconst (1) : Instr), 179, 0, 0) := by decide +kernel
theorem at_104_179 : mm_at 104 179 = some ((.goto (4) : Instr), 182, 183, 0) := by decide +kernel
theorem at_104_182 : mm_at 104 182 = some ((.iconst (0) : Instr), 183, 0, 0) := by decide +kernel
theorem at_104_183 : mm_at 104 183 = some ((.invokestatic 90 : Instr), 186, 86, 4) := by decide +kernel
theorem at_104_186 : mm_at 104 186 = some ((.istore 5 : Instr), 188, 0, 0) := by decide +kernel
theorem at_104_188 : mm_at 104 188 = some ((.aload_n 2 : Instr), 189, 0, 0) := by decide +kernel
theorem at_104_189 : mm_at 104 189 = some ((.aload_n 0 : Instr), 190, 0, 0) := by decide +kernel
theorem at_104_190 : mm_at 104 190 = some ((.iload 4 : Instr), 192, 0, 0) := by decide +kernel
theorem at_104_192 : mm_at 104 192 = some ((.iconst (1) : Instr), 193, 0, 0) := by decide +kernel
theorem at_104_193 : mm_at 104 193 = some ((.iadd : Instr), 194, 0, 0) := by decide +kernel
theorem at_104_194 : mm_at 104 194 = some ((.iaload : Instr), 195, 0, 0) := by decide +kernel
theorem at_104_195 : mm_at 104 195 = some ((.aload_n 0 : Instr), 196, 0, 0) := by decide +kernel
theorem at_104_196 : mm_at 104 196 = some ((.iload 4 : Instr), 198, 0, 0) := by decide +kernel
theorem at_104_198 : mm_at 104 198 = some ((.iconst (2) : Instr), 199, 0, 0) := by decide +kernel
theorem at_104_199 : mm_at 104 199 = some ((.iadd : Instr), 200, 0, 0) := by decide +kernel
theorem at_104_200 : mm_at 104 200 = some ((.iaload : Instr), 201, 0, 0) := by decide +kernel
theorem at_104_201 : mm_at 104 201 = some ((.aload_n 0 : Instr), 202, 0, 0) := by decide +kernel
theorem at_104_202 : mm_at 104 202 = some ((.iload 4 : Instr), 204, 0, 0) := by decide +kernel
theorem at_104_204 : mm_at 104 204 = some ((.iconst (3) : Instr), 205, 0, 0) := by decide +kernel
theorem at_104_205 : mm_at 104 205 = some ((.iadd : Instr), 206, 0, 0) := by decide +kernel
theorem at_104_206 : mm_at 104 206 = some ((.iaload : Instr), 207, 0, 0) := by decide +kernel
theorem at_104_207 : mm_at 104 207 = some ((.ifCond .eq (7) : Instr), 210, 214, 0) := by decide +kernel
theorem at_104_210 : mm_at 104 210 = some ((.iconst (1) : Instr), 211, 0, 0) := by decide +kernel
theorem at_104_211 : mm_at 104 211 = some ((.goto (4) : Instr), 214, 215, 0) := by decide +kernel
theorem at_104_214 : mm_at 104 214 = some ((.iconst (0) : Instr), 215, 0, 0) := by decide +kernel
theorem at_104_215 : mm_at 104 215 = some ((.invokevirtual 93 : Instr), 218, 52, 4) := by decide +kernel
theorem at_104_218 : mm_at 104 218 = some ((.aload_n 2 : Instr), 219, 0, 0) := by decide +kernel
theorem at_104_219 : mm_at 104 219 = some ((.invokevirtual 94 : Instr), 222, 51, 1) := by decide +kernel
theorem at_104_222 : mm_at 104 222 = some ((.iload 5 : Instr), 224, 0, 0) := by decide +kernel
theorem at_104_224 : mm_at 104 224 = some ((.if_icmp .eq (5) : Instr), 227, 229, 0) := by decide +kernel
theorem at_104_227 : mm_at 104 227 = some ((.iconst (0) : Instr), 228, 0, 0) := by decide +kernel
theorem at_104_228 : mm_at 104 228 = some ((.ireturn : Instr), 229, 2, 0) := by decide +kernel
theorem at_104_229 : mm_at 104 229 = some ((.goto (1038) : Instr), 232, 1267, 0) := by decide +kernel
theorem at_104_232 : mm_at 104 232 = some ((.aload_n 1 : Instr), 233, 0, 0) := by decide +kernel
theorem at_104_233 : mm_at 104 233 = some ((.aload_n 0 : Instr), 234, 0, 0) := by decide +kernel
theorem at_104_234 : mm_at 104 234 = some ((.iload 4 : Instr), 236, 0, 0) := by decide +kernel
theorem at_104_236 : mm_at 104 236 = some ((.iconst (1) : Instr), 237, 0, 0) := by decide +kernel
theorem at_104_237 : mm_at 104 237 = some ((.iadd : Instr), 238, 0, 0) := by decide +kernel
theorem at_104_238 : mm_at 104 238 = some ((.iaload : Instr), 239, 0, 0) := by decide +kernel
theorem at_104_239 : mm_at 104 239 = some ((.aload_n 0 : Instr), 240, 0, 0) := by decide +kernel
theorem at_104_240 : mm_at 104 240 = some ((.iload 4 : Instr), 242, 0, 0) := by decide +kernel
theorem at_104_242 : mm_at 104 242 = some ((.iconst (2) : Instr), 243, 0, 0) := by decide +kernel
theorem at_104_243 : mm_at 104 243 = some ((.iadd : Instr), 244, 0, 0) := by decide +kernel
theorem at_104_244 : mm_at 104 244 = some ((.iaload : Instr), 245, 0, 0) := by decide +kernel
theorem at_104_245 : mm_at 104 245 = some ((.ifCond .eq (7) : Instr), 248, 252, 0) := by decide +kernel
theorem at_104_248 : mm_at 104 248 = some ((.iconst (1) : Instr), 249, 0, 0) := by decide +kernel
theorem at_104_249 : mm_at 104 249 = some ((.goto (4) : Instr), 252, 253, 0) := by decide +kernel
theorem at_104_252 : mm_at 104 252 = some ((.iconst (0) : Instr), 253, 0, 0) := by decide +kernel
theorem at_104_253 : mm_at 104 253 = some ((.invokestatic 98 : Instr), 256, 87, 3) := by decide +kernel
theorem at_104_256 : mm_at 104 256 = some ((.istore 5 : Instr), 258, 0, 0) := by decide +kernel
theorem at_104_258 : mm_at 104 258 = some ((.aload_n 2 : Instr), 259, 0, 0) := by decide +kernel
theorem at_104_259 : mm_at 104 259 = some ((.aload_n 0 : Instr), 260, 0, 0) := by decide +kernel
theorem at_104_260 : mm_at 104 260 = some ((.iload 4 : Instr), 262, 0, 0) := by decide +kernel
theorem at_104_262 : mm_at 104 262 = some ((.iconst (1) : Instr), 263, 0, 0) := by decide +kernel
theorem at_104_263 : mm_at 104 263 = some ((.iadd : Instr), 264, 0, 0) := by decide +kernel
theorem at_104_264 : mm_at 104 264 = some ((.iaload : Instr), 265, 0, 0) := by decide +kernel
theorem at_104_265 : mm_at 104 265 = some ((.aload_n 0 : Instr), 266, 0, 0) := by decide +kernel
theorem at_104_266 : mm_at 104 266 = some ((.iload 4 : Instr), 268, 0, 0) := by decide +kernel
theorem at_104_268 : mm_at 104 268 = some ((.iconst (2) : Instr), 269, 0, 0) := by decide +kernel
theorem at_104_269 : mm_at 104 269 = some ((.iadd : Instr), 270, 0, 0) := by decide +kernel
theorem at_104_270 : mm_at 104 270 = some ((.iaload : Instr), 271, 0, 0) := by decide +kernel
theorem at_104_271 : mm_at 104 271 = some ((.ifCond .eq (7) : Instr), 274, 278, 0) := by decide +kernel
theorem at_104_274 : mm_at 104 274 = some ((.iconst (1) : Instr), 275, 0, 0) := by decide +kernel
theorem at_104_275 : mm_at 104 275 = some ((.goto (4) : Instr), 278, 279, 0) := by decide +kernel
theorem at_104_278 : mm_at 104 278 = some ((.iconst (0) : Instr), 279, 0, 0) := by decide +kernel
theorem at_104_279 : mm_at 104 279 = some ((.invokevirtual 101 : Instr), 282, 59, 3) := by decide +kernel
theorem at_104_282 : mm_at 104 282 = some ((.aload_n 2 : Instr), 283, 0, 0) := by decide +kernel
theorem at_104_283 : mm_at 104 283 = some ((.invokevirtual 94 : Instr), 286, 51, 1) := by decide +kernel
theorem at_104_286 : mm_at 104 286 = some ((.iload 5 : Instr), 288, 0, 0) := by decide +kernel
theorem at_104_288 : mm_at 104 288 = some ((.if_icmp .eq (5) : Instr), 291, 293, 0) := by decide +kernel
theorem at_104_291 : mm_at 104 291 = some ((.iconst (0) : Instr), 292, 0, 0) := by decide +kernel
theorem at_104_292 : mm_at 104 292 = some ((.ireturn : Instr), 293, 2, 0) := by decide +kernel
theorem at_104_293 : mm_at 104 293 = some ((.goto (974) : Instr), 296, 1267, 0) := by decide +kernel
theorem at_104_296 : mm_at 104 296 = some ((.aload_n 1 : Instr), 297, 0, 0) := by decide +kernel
theorem at_104_297 : mm_at 104 297 = some ((.aload_n 0 : Instr), 298, 0, 0) := by decide +kernel
theorem at_104_298 : mm_at 104 298 = some ((.iload 4 : Instr), 300, 0, 0) := by decide +kernel
theorem at_104_300 : mm_at 104 300 = some ((.iconst (1) : Instr), 301, 0, 0) := by decide +kernel
theorem at_104_301 : mm_at 104 301 = some ((.iadd : Instr), 302, 0, 0) := by decide +kernel
theorem at_104_302 : mm_at 104 302 = some ((.iaload : Instr), 303, 0, 0) := by decide +kernel
theorem at_104_303 : mm_at 104 303 = some ((.aload_n 0 : Instr), 304, 0, 0) := by decide +kernel
theorem at_104_304 : mm_at 104 304 = some ((.iload 4 : Instr), 306, 0, 0) := by decide +kernel
theorem at_104_306 : mm_at 104 306 = some ((.iconst (2) : Instr), 307, 0, 0) := by decide +kernel
theorem at_104_307 : mm_at 104 307 = some ((.iadd : Instr), 308, 0, 0) := by decide +kernel
theorem at_104_308 : mm_at 104 308 = some ((.iaload : Instr), 309, 0, 0) := by decide +kernel
theorem at_104_309 : mm_at 104 309 = some ((.aload_n 3 : Instr), 310, 0, 0) := by decide +kernel
theorem at_104_310 : mm_at 104 310 = some ((.invokestatic 102 : Instr), 313, 88, 4) := by decide +kernel
theorem at_104_313 : mm_at 104 313 = some ((.istore 5 : Instr), 315, 0, 0) := by decide +kernel
theorem at_104_315 : mm_at 104 315 = some ((.aload_n 2 : Instr), 316, 0, 0) := by decide +kernel
theorem at_104_316 : mm_at 104 316 = some ((.aload_n 0 : Instr), 317, 0, 0) := by decide +kernel
theorem at_104_317 : mm_at 104 317 = some ((.iload 4 : Instr), 319, 0, 0) := by decide +kernel
theorem at_104_319 : mm_at 104 319 = some ((.iconst (1) : Instr), 320, 0, 0) := by decide +kernel
theorem at_104_320 : mm_at 104 320 = some ((.iadd : Instr), 321, 0, 0) := by decide +kernel
theorem at_104_321 : mm_at 104 321 = some ((.iaload : Instr), 322, 0, 0) := by decide +kernel
theorem at_104_322 : mm_at 104 322 = some ((.aload_n 0 : Instr), 323, 0, 0) := by decide +kernel
theorem at_104_323 : mm_at 104 323 = some ((.iload 4 : Instr), 325, 0, 0) := by decide +kernel
theorem at_104_325 : mm_at 104 325 = some ((.iconst (2) : Instr), 326, 0, 0) := by decide +kernel
theorem at_104_326 : mm_at 104 326 = some ((.iadd : Instr), 327, 0, 0) := by decide +kernel
theorem at_104_327 : mm_at 104 327 = some ((.iaload : Instr), 328, 0, 0) := by decide +kernel
theorem at_104_328 : mm_at 104 328 = some ((.invokevirtual 105 : Instr), 331, 60, 3) := by decide +kernel
theorem at_104_331 : mm_at 104 331 = some ((.istore 6 : Instr), 333, 0, 0) := by decide +kernel
theorem at_104_333 : mm_at 104 333 = some ((.aload_n 2 : Instr), 334, 0, 0) := by decide +kernel
theorem at_104_334 : mm_at 104 334 = some ((.invokevirtual 94 : Instr), 337, 51, 1) := by decide +kernel
theorem at_104_337 : mm_at 104 337 = some ((.iload 5 : Instr), 339, 0, 0) := by decide +kernel
theorem at_104_339 : mm_at 104 339 = some ((.if_icmp .eq (5) : Instr), 342, 344, 0) := by decide +kernel
theorem at_104_342 : mm_at 104 342 = some ((.iconst (0) : Instr), 343, 0, 0) := by decide +kernel
theorem at_104_343 : mm_at 104 343 = some ((.ireturn : Instr), 344, 2, 0) := by decide +kernel
theorem at_104_344 : mm_at 104 344 = some ((.iload 5 : Instr), 346, 0, 0) := by decide +kernel
theorem at_104_346 : mm_at 104 346 = some ((.ifCond .ne (15) : Instr), 349, 361, 0) := by decide +kernel
theorem at_104_349 : mm_at 104 349 = some ((.aload_n 3 : Instr), 350, 0, 0) := by decide +kernel
theorem at_104_350 : mm_at 104 350 = some ((.iconst (0) : Instr), 351, 0, 0) := by decide +kernel
theorem at_104_351 : mm_at 104 351 = some ((.laload : Instr), 352, 0, 0) := by decide +kernel
theorem at_104_352 : mm_at 104 352 = some ((.iload 6 : Instr), 354, 0, 0) := by decide +kernel
theorem at_104_354 : mm_at 104 354 = some ((.i2l : Instr), 355, 0, 0) := by decide +kernel
theorem at_104_355 : mm_at 104 355 = some ((.lcmp : Instr), 356, 0, 0) := by decide +kernel
theorem at_104_356 : mm_at 104 356 = some ((.ifCond .eq (5) : Instr), 359, 361, 0) := by decide +kernel
theorem at_104_359 : mm_at 104 359 = some ((.iconst (0) : Instr), 360, 0, 0) := by decide +kernel
theorem at_104_360 : mm_at 104 360 = some ((.ireturn : Instr), 361, 2, 0) := by decide +kernel
theorem at_104_361 : mm_at 104 361 = some ((.goto (906) : Instr), 364, 1267, 0) := by decide +kernel
theorem at_104_364 : mm_at 104 364 = some ((.aload_n 1 : Instr), 365, 0, 0) := by decide +kernel
theorem at_104_365 : mm_at 104 365 = some ((.aload_n 0 : Instr), 366, 0, 0) := by decide +kernel
theorem at_104_366 : mm_at 104 366 = some ((.iload 4 : Instr), 368, 0, 0) := by decide +kernel
theorem at_104_368 : mm_at 104 368 = some ((.iconst (1) : Instr), 369, 0, 0) := by decide +kernel
theorem at_104_369 : mm_at 104 369 = some ((.iadd : Instr), 370, 0, 0) := by decide +kernel
theorem at_104_370 : mm_at 104 370 = some ((.iaload : Instr), 371, 0, 0) := by decide +kernel
theorem at_104_371 : mm_at 104 371 = some ((.aload_n 0 : Instr), 372, 0, 0) := by decide +kernel
theorem at_104_372 : mm_at 104 372 = some ((.iload 4 : Instr), 374, 0, 0) := by decide +kernel
theorem at_104_374 : mm_at 104 374 = some ((.iconst (2) : Instr), 375, 0, 0) := by decide +kernel
theorem at_104_375 : mm_at 104 375 = some ((.iadd : Instr), 376, 0, 0) := by decide +kernel
theorem at_104_376 : mm_at 104 376 = some ((.iaload : Instr), 377, 0, 0) := by decide +kernel
theorem at_104_377 : mm_at 104 377 = some ((.aload_n 0 : Instr), 378, 0, 0) := by decide +kernel
theorem at_104_378 : mm_at 104 378 = some ((.iload 4 : Instr), 380, 0, 0) := by decide +kernel
theorem at_104_380 : mm_at 104 380 = some ((.iconst (3) : Instr), 381, 0, 0) := by decide +kernel
theorem at_104_381 : mm_at 104 381 = some ((.iadd : Instr), 382, 0, 0) := by decide +kernel
theorem at_104_382 : mm_at 104 382 = some ((.iaload : Instr), 383, 0, 0) := by decide +kernel
theorem at_104_383 : mm_at 104 383 = some ((.invokestatic 106 : Instr), 386, 89, 4) := by decide +kernel
theorem at_104_386 : mm_at 104 386 = some ((.istore 5 : Instr), 388, 0, 0) := by decide +kernel
theorem at_104_388 : mm_at 104 388 = some ((.aload_n 2 : Instr), 389, 0, 0) := by decide +kernel
theorem at_104_389 : mm_at 104 389 = some ((.aload_n 0 : Instr), 390, 0, 0) := by decide +kernel
theorem at_104_390 : mm_at 104 390 = some ((.iload 4 : Instr), 392, 0, 0) := by decide +kernel
theorem at_104_392 : mm_at 104 392 = some ((.iconst (1) : Instr), 393, 0, 0) := by decide +kernel
theorem at_104_393 : mm_at 104 393 = some ((.iadd : Instr), 394, 0, 0) := by decide +kernel
theorem at_104_394 : mm_at 104 394 = some ((.iaload : Instr), 395, 0, 0) := by decide +kernel
theorem at_104_395 : mm_at 104 395 = some ((.aload_n 0 : Instr), 396, 0, 0) := by decide +kernel
theorem at_104_396 : mm_at 104 396 = some ((.iload 4 : Instr), 398, 0, 0) := by decide +kernel
theorem at_104_398 : mm_at 104 398 = some ((.iconst (2) : Instr), 399, 0, 0) := by decide +kernel
theorem at_104_399 : mm_at 104 399 = some ((.iadd : Instr), 400, 0, 0) := by decide +kernel
theorem at_104_400 : mm_at 104 400 = some ((.iaload : Instr), 401, 0, 0) := by decide +kernel
theorem at_104_401 : mm_at 104 401 = some ((.aload_n 0 : Instr), 402, 0, 0) := by decide +kernel
theorem at_104_402 : mm_at 104 402 = some ((.iload 4 : Instr), 404, 0, 0) := by decide +kernel
theorem at_104_404 : mm_at 104 404 = some ((.iconst (3) : Instr), 405, 0, 0) := by decide +kernel
theorem at_104_405 : mm_at 104 405 = some ((.iadd : Instr), 406, 0, 0) := by decide +kernel
theorem at_104_406 : mm_at 104 406 = some ((.iaload : Instr), 407, 0, 0) := by decide +kernel
theorem at_104_407 : mm_at 104 407 = some ((.invokevirtual 109 : Instr), 410, 65, 4) := by decide +kernel
theorem at_104_410 : mm_at 104 410 = some ((.aload_n 2 : Instr), 411, 0, 0) := by decide +kernel
theorem at_104_411 : mm_at 104 411 = some ((.invokevirtual 94 : Instr), 414, 51, 1) := by decide +kernel
theorem at_104_414 : mm_at 104 414 = some ((.iload 5 : Instr), 416, 0, 0) := by decide +kernel
theorem at_104_416 : mm_at 104 416 = some ((.if_icmp .eq (5) : Instr), 419, 421, 0) := by decide +kernel
theorem at_104_419 : mm_at 104 419 = some ((.iconst (0) : Instr), 420, 0, 0) := by decide +kernel
theorem at_104_420 : mm_at 104 420 = some ((.ireturn : Instr), 421, 2, 0) := by decide +kernel
theorem at_104_421 : mm_at 104 421 = some ((.goto (846) : Instr), 424, 1267, 0) := by decide +kernel
theorem at_104_424 : mm_at 104 424 = some ((.aload_n 1 : Instr), 425, 0, 0) := by decide +kernel
theorem at_104_425 : mm_at 104 425 = some ((.aload_n 0 : Instr), 426, 0, 0) := by decide +kernel
theorem at_104_426 : mm_at 104 426 = some ((.iload 4 : Instr), 428, 0, 0) := by decide +kernel
theorem at_104_428 : mm_at 104 428 = some ((.iconst (1) : Instr), 429, 0, 0) := by decide +kernel
theorem at_104_429 : mm_at 104 429 = some ((.iadd : Instr), 430, 0, 0) := by decide +kernel
theorem at_104_430 : mm_at 104 430 = some ((.iaload : Instr), 431, 0, 0) := by decide +kernel
theorem at_104_431 : mm_at 104 431 = some ((.aload_n 0 : Instr), 432, 0, 0) := by decide +kernel
theorem at_104_432 : mm_at 104 432 = some ((.iload 4 : Instr), 434, 0, 0) := by decide +kernel
theorem at_104_434 : mm_at 104 434 = some ((.iconst (2) : Instr), 435, 0, 0) := by decide +kernel
theorem at_104_435 : mm_at 104 435 = some ((.iadd : Instr), 436, 0, 0) := by decide +kernel
theorem at_104_436 : mm_at 104 436 = some ((.iaload : Instr), 437, 0, 0) := by decide +kernel
theorem at_104_437 : mm_at 104 437 = some ((.invokestatic 110 : Instr), 440, 90, 3) := by decide +kernel
theorem at_104_440 : mm_at 104 440 = some ((.istore 5 : Instr), 442, 0, 0) := by decide +kernel
theorem at_104_442 : mm_at 104 442 = some ((.aload_n 2 : Instr), 443, 0, 0) := by decide +kernel
theorem at_104_443 : mm_at 104 443 = some ((.aload_n 0 : Instr), 444, 0, 0) := by decide +kernel
theorem at_104_444 : mm_at 104 444 = some ((.iload 4 : Instr), 446, 0, 0) := by decide +kernel
theorem at_104_446 : mm_at 104 446 = some ((.iconst (1) : Instr), 447, 0, 0) := by decide +kernel
theorem at_104_447 : mm_at 104 447 = some ((.iadd : Instr), 448, 0, 0) := by decide +kernel
theorem at_104_448 : mm_at 104 448 = some ((.iaload : Instr), 449, 0, 0) := by decide +kernel
theorem at_104_449 : mm_at 104 449 = some ((.aload_n 0 : Instr), 450, 0, 0) := by decide +kernel
theorem at_104_450 : mm_at 104 450 = some ((.iload 4 : Instr), 452, 0, 0) := by decide +kernel
theorem at_104_452 : mm_at 104 452 = some ((.iconst (2) : Instr), 453, 0, 0) := by decide +kernel
theorem at_104_453 : mm_at 104 453 = some ((.iadd : Instr), 454, 0, 0) := by decide +kernel
theorem at_104_454 : mm_at 104 454 = some ((.iaload : Instr), 455, 0, 0) := by decide +kernel
theorem at_104_455 : mm_at 104 455 = some ((.invokevirtual 113 : Instr), 458, 68, 3) := by decide +kernel
theorem at_104_458 : mm_at 104 458 = some ((.aload_n 2 : Instr), 459, 0, 0) := by decide +kernel
theorem at_104_459 : mm_at 104 459 = some ((.invokevirtual 94 : Instr), 462, 51, 1) := by decide +kernel
theorem at_104_462 : mm_at 104 462 = some ((.iload 5 : Instr), 464, 0, 0) := by decide +kernel
theorem at_104_464 : mm_at 104 464 = some ((.if_icmp .eq (5) : Instr), 467, 469, 0) := by decide +kernel
theorem at_104_467 : mm_at 104 467 = some ((.iconst (0) : Instr), 468, 0, 0) := by decide +kernel
theorem at_104_468 : mm_at 104 468 = some ((.ireturn : Instr), 469, 2, 0) := by decide +kernel
theorem at_104_469 : mm_at 104 469 = some ((.goto (798) : Instr), 472, 1267, 0) := by decide +kernel
theorem at_104_472 : mm_at 104 472 = some ((.aload_n 1 : Instr), 473, 0, 0) := by decide +kernel
theorem at_104_473 : mm_at 104 473 = some ((.aload_n 0 : Instr), 474, 0, 0) := by decide +kernel
theorem at_104_474 : mm_at 104 474 = some ((.iload 4 : Instr), 476, 0, 0) := by decide +kernel
theorem at_104_476 : mm_at 104 476 = some ((.iconst (1) : Instr), 477, 0, 0) := by decide +kernel
theorem at_104_477 : mm_at 104 477 = some ((.iadd : Instr), 478, 0, 0) := by decide +kernel
theorem at_104_478 : mm_at 104 478 = some ((.iaload : Instr), 479, 0, 0) := by decide +kernel
theorem at_104_479 : mm_at 104 479 = some ((.aload_n 0 : Instr), 480, 0, 0) := by decide +kernel
theorem at_104_480 : mm_at 104 480 = some ((.iload 4 : Instr), 482, 0, 0) := by decide +kernel
theorem at_104_482 : mm_at 104 482 = some ((.iconst (2) : Instr), 483, 0, 0) := by decide +kernel
theorem at_104_483 : mm_at 104 483 = some ((.iadd : Instr), 484, 0, 0) := by decide +kernel
theorem at_104_484 : mm_at 104 484 = some ((.iaload : Instr), 485, 0, 0) := by decide +kernel
theorem at_104_485 : mm_at 104 485 = some ((.invokestatic 114 : Instr), 488, 91, 3) := by decide +kernel
theorem at_104_488 : mm_at 104 488 = some ((.istore 5 : Instr), 490, 0, 0) := by decide +kernel
theorem at_104_490 : mm_at 104 490 = some ((.aload_n 2 : Instr), 491, 0, 0) := by decide +kernel
theorem at_104_491 : mm_at 104 491 = some ((.aload_n 0 : Instr), 492, 0, 0) := by decide +kernel
theorem at_104_492 : mm_at 104 492 = some ((.iload 4 : Instr), 494, 0, 0) := by decide +kernel
theorem at_104_494 : mm_at 104 494 = some ((.iconst (1) : Instr), 495, 0, 0) := by decide +kernel
theorem at_104_495 : mm_at 104 495 = some ((.iadd : Instr), 496, 0, 0) := by decide +kernel
theorem at_104_496 : mm_at 104 496 = some ((.iaload : Instr), 497, 0, 0) := by decide +kernel
theorem at_104_497 : mm_at 104 497 = some ((.aload_n 0 : Instr), 498, 0, 0) := by decide +kernel
theorem at_104_498 : mm_at 104 498 = some ((.iload 4 : Instr), 500, 0, 0) := by decide +kernel
theorem at_104_500 : mm_at 104 500 = some ((.iconst (2) : Instr), 501, 0, 0) := by decide +kernel
theorem at_104_501 : mm_at 104 501 = some ((.iadd : Instr), 502, 0, 0) := by decide +kernel
theorem at_104_502 : mm_at 104 502 = some ((.iaload : Instr), 503, 0, 0) := by decide +kernel
theorem at_104_503 : mm_at 104 503 = some ((.invokevirtual 116 : Instr), 506, 69, 3) := by decide +kernel
theorem at_104_506 : mm_at 104 506 = some ((.aload_n 2 : Instr), 507, 0, 0) := by decide +kernel
theorem at_104_507 : mm_at 104 507 = some ((.invokevirtual 94 : Instr), 510, 51, 1) := by decide +kernel
theorem at_104_510 : mm_at 104 510 = some ((.iload 5 : Instr), 512, 0, 0) := by decide +kernel
theorem at_104_512 : mm_at 104 512 = some ((.if_icmp .eq (5) : Instr), 515, 517, 0) := by decide +kernel
theorem at_104_515 : mm_at 104 515 = some ((.iconst (0) : Instr), 516, 0, 0) := by decide +kernel
theorem at_104_516 : mm_at 104 516 = some ((.ireturn : Instr), 517, 2, 0) := by decide +kernel
theorem at_104_517 : mm_at 104 517 = some ((.goto (750) : Instr), 520, 1267, 0) := by decide +kernel
theorem at_104_520 : mm_at 104 520 = some ((.aload_n 1 : Instr), 521, 0, 0) := by decide +kernel
theorem at_104_521 : mm_at 104 521 = some ((.aload_n 0 : Instr), 522, 0, 0) := by decide +kernel
theorem at_104_522 : mm_at 104 522 = some ((.iload 4 : Instr), 524, 0, 0) := by decide +kernel
theorem at_104_524 : mm_at 104 524 = some ((.iconst (1) : Instr), 525, 0, 0) := by decide +kernel
theorem at_104_525 : mm_at 104 525 = some ((.iadd : Instr), 526, 0, 0) := by decide +kernel
theorem at_104_526 : mm_at 104 526 = some ((.iaload : Instr), 527, 0, 0) := by decide +kernel
theorem at_104_527 : mm_at 104 527 = some ((.aload_n 3 : Instr), 528, 0, 0) := by decide +kernel
theorem at_104_528 : mm_at 104 528 = some ((.invokestatic 117 : Instr), 531, 92, 3) := by decide +kernel
theorem at_104_531 : mm_at 104 531 = some ((.istore 5 : Instr), 533, 0, 0) := by decide +kernel
theorem at_104_533 : mm_at 104 533 = some ((.aload_n 2 : Instr), 534, 0, 0) := by decide +kernel
theorem at_104_534 : mm_at 104 534 = some ((.aload_n 0 : Instr), 535, 0, 0) := by decide +kernel
theorem at_104_535 : mm_at 104 535 = some ((.iload 4 : Instr), 537, 0, 0) := by decide +kernel
theorem at_104_537 : mm_at 104 537 = some ((.iconst (1) : Instr), 538, 0, 0) := by decide +kernel
theorem at_104_538 : mm_at 104 538 = some ((.iadd : Instr), 539, 0, 0) := by decide +kernel
theorem at_104_539 : mm_at 104 539 = some ((.iaload : Instr), 540, 0, 0) := by decide +kernel
theorem at_104_540 : mm_at 104 540 = some ((.invokevirtual 120 : Instr), 543, 72, 2) := by decide +kernel
theorem at_104_543 : mm_at 104 543 = some ((.istore 6 : Instr), 545, 0, 0) := by decide +kernel
theorem at_104_545 : mm_at 104 545 = some ((.aload_n 2 : Instr), 546, 0, 0) := by decide +kernel
theorem at_104_546 : mm_at 104 546 = some ((.invokevirtual 94 : Instr), 549, 51, 1) := by decide +kernel
theorem at_104_549 : mm_at 104 549 = some ((.iload 5 : Instr), 551, 0, 0) := by decide +kernel
theorem at_104_551 : mm_at 104 551 = some ((.if_icmp .eq (5) : Instr), 554, 556, 0) := by decide +kernel
theorem at_104_554 : mm_at 104 554 = some ((.iconst (0) : Instr), 555, 0, 0) := by decide +kernel
theorem at_104_555 : mm_at 104 555 = some ((.ireturn : Instr), 556, 2, 0) := by decide +kernel
theorem at_104_556 : mm_at 104 556 = some ((.iload 5 : Instr), 558, 0, 0) := by decide +kernel
theorem at_104_558 : mm_at 104 558 = some ((.ifCond .ne (15) : Instr), 561, 573, 0) := by decide +kernel
theorem at_104_561 : mm_at 104 561 = some ((.aload_n 3 : Instr), 562, 0, 0) := by decide +kernel
theorem at_104_562 : mm_at 104 562 = some ((.iconst (0) : Instr), 563, 0, 0) := by decide +kernel
theorem at_104_563 : mm_at 104 563 = some ((.laload : Instr), 564, 0, 0) := by decide +kernel
theorem at_104_564 : mm_at 104 564 = some ((.iload 6 : Instr), 566, 0, 0) := by decide +kernel
theorem at_104_566 : mm_at 104 566 = some ((.i2l : Instr), 567, 0, 0) := by decide +kernel
theorem at_104_567 : mm_at 104 567 = some ((.lcmp : Instr), 568, 0, 0) := by decide +kernel
theorem at_104_568 : mm_at 104 568 = some ((.ifCond .eq (5) : Instr), 571, 573, 0) := by decide +kernel
theorem at_104_571 : mm_at 104 571 = some ((.iconst (0) : Instr), 572, 0, 0) := by decide +kernel
theorem at_104_572 : mm_at 104 572 = some ((.ireturn : Instr), 573, 2, 0) := by decide +kernel
theorem at_104_573 : mm_at 104 573 = some ((.goto (694) : Instr), 576, 1267, 0) := by decide +kernel
theorem at_104_576 : mm_at 104 576 = some ((.aload_n 1 : Instr), 577, 0, 0) := by decide +kernel
theorem at_104_577 : mm_at 104 577 = some ((.aload_n 0 : Instr), 578, 0, 0) := by decide +kernel
theorem at_104_578 : mm_at 104 578 = some ((.iload 4 : Instr), 580, 0, 0) := by decide +kernel
theorem at_104_580 : mm_at 104 580 = some ((.iconst (1) : Instr), 581, 0, 0) := by decide +kernel
theorem at_104_581 : mm_at 104 581 = some ((.iadd : Instr), 582, 0, 0) := by decide +kernel
theorem at_104_582 : mm_at 104 582 = some ((.iaload : Instr), 583, 0, 0) := by decide +kernel
theorem at_104_583 : mm_at 104 583 = some ((.aload_n 0 : Instr), 584, 0, 0) := by decide +kernel
theorem at_104_584 : mm_at 104 584 = some ((.iload 4 : Instr), 586, 0, 0) := by decide +kernel
theorem at_104_586 : mm_at 104 586 = some ((.iconst (2) : Instr), 587, 0, 0) := by decide +kernel
theorem at_104_587 : mm_at 104 587 = some ((.iadd : Instr), 588, 0, 0) := by decide +kernel
theorem at_104_588 : mm_at 104 588 = some ((.iaload : Instr), 589, 0, 0) := by decide +kernel
theorem at_104_589 : mm_at 104 589 = some ((.ifCond .eq (7) : Instr), 592, 596, 0) := by decide +kernel
theorem at_104_592 : mm_at 104 592 = some ((.iconst (1) : Instr), 593, 0, 0) := by decide +kernel
theorem at_104_593 : mm_at 104 593 = some ((.goto (4) : Instr), 596, 597, 0) := by decide +kernel
theorem at_104_596 : mm_at 104 596 = some ((.iconst (0) : Instr), 597, 0, 0) := by decide +kernel
theorem at_104_597 : mm_at 104 597 = some ((.aload_n 3 : Instr), 598, 0, 0) := by decide +kernel
theorem at_104_598 : mm_at 104 598 = some ((.invokestatic 121 : Instr), 601, 93, 4) := by decide +kernel
theorem at_104_601 : mm_at 104 601 = some ((.istore 5 : Instr), 603, 0, 0) := by decide +kernel
theorem at_104_603 : mm_at 104 603 = some ((.aload_n 2 : Instr), 604, 0, 0) := by decide +kernel
theorem at_104_604 : mm_at 104 604 = some ((.aload_n 0 : Instr), 605, 0, 0) := by decide +kernel
theorem at_104_605 : mm_at 104 605 = some ((.iload 4 : Instr), 607, 0, 0) := by decide +kernel
theorem at_104_607 : mm_at 104 607 = some ((.iconst (1) : Instr), 608, 0, 0) := by decide +kernel
theorem at_104_608 : mm_at 104 608 = some ((.iadd : Instr), 609, 0, 0) := by decide +kernel
theorem at_104_609 : mm_at 104 609 = some ((.iaload : Instr), 610, 0, 0) := by decide +kernel
theorem at_104_610 : mm_at 104 610 = some ((.aload_n 0 : Instr), 611, 0, 0) := by decide +kernel
theorem at_104_611 : mm_at 104 611 = some ((.iload 4 : Instr), 613, 0, 0) := by decide +kernel
theorem at_104_613 : mm_at 104 613 = some ((.iconst (2) : Instr), 614, 0, 0) := by decide +kernel
theorem at_104_614 : mm_at 104 614 = some ((.iadd : Instr), 615, 0, 0) := by decide +kernel
theorem at_104_615 : mm_at 104 615 = some ((.iaload : Instr), 616, 0, 0) := by decide +kernel
theorem at_104_616 : mm_at 104 616 = some ((.ifCond .eq (7) : Instr), 619, 623, 0) := by decide +kernel
theorem at_104_619 : mm_at 104 619 = some ((.iconst (1) : Instr), 620, 0, 0) := by decide +kernel
theorem at_104_620 : mm_at 104 620 = some ((.goto (4) : Instr), 623, 624, 0) := by decide +kernel
theorem at_104_623 : mm_at 104 623 = some ((.iconst (0) : Instr), 624, 0, 0) := by decide +kernel
theorem at_104_624 : mm_at 104 624 = some ((.invokevirtual 124 : Instr), 627, 73, 3) := by decide +kernel
theorem at_104_627 : mm_at 104 627 = some ((.istore 6 : Instr), 629, 0, 0) := by decide +kernel
theorem at_104_629 : mm_at 104 629 = some ((.aload_n 2 : Instr), 630, 0, 0) := by decide +kernel
theorem at_104_630 : mm_at 104 630 = some ((.invokevirtual 94 : Instr), 633, 51, 1) := by decide +kernel
theorem at_104_633 : mm_at 104 633 = some ((.iload 5 : Instr), 635, 0, 0) := by decide +kernel
theorem at_104_635 : mm_at 104 635 = some ((.if_icmp .eq (5) : Instr), 638, 640, 0) := by decide +kernel
theorem at_104_638 : mm_at 104 638 = some ((.iconst (0) : Instr), 639, 0, 0) := by decide +kernel
theorem at_104_639 : mm_at 104 639 = some ((.ireturn : Instr), 640, 2, 0) := by decide +kernel
theorem at_104_640 : mm_at 104 640 = some ((.iload 5 : Instr), 642, 0, 0) := by decide +kernel
theorem at_104_642 : mm_at 104 642 = some ((.ifCond .ne (15) : Instr), 645, 657, 0) := by decide +kernel
theorem at_104_645 : mm_at 104 645 = some ((.aload_n 3 : Instr), 646, 0, 0) := by decide +kernel
theorem at_104_646 : mm_at 104 646 = some ((.iconst (0) : Instr), 647, 0, 0) := by decide +kernel
theorem at_104_647 : mm_at 104 647 = some ((.laload : Instr), 648, 0, 0) := by decide +kernel
theorem at_104_648 : mm_at 104 648 = some ((.iload 6 : Instr), 650, 0, 0) := by decide +kernel
theorem at_104_650 : mm_at 104 650 = some ((.i2l : Instr), 651, 0, 0) := by decide +kernel
theorem at_104_651 : mm_at 104 651 = some ((.lcmp : Instr), 652, 0, 0) := by decide +kernel
theorem at_104_652 : mm_at 104 652 = some ((.ifCond .eq (5) : Instr), 655, 657, 0) := by decide +kernel
theorem at_104_655 : mm_at 104 655 = some ((.iconst (0) : Instr), 656, 0, 0) := by decide +kernel
theorem at_104_656 : mm_at 104 656 = some ((.ireturn : Instr), 657, 2, 0) := by decide +kernel
theorem at_104_657 : mm_at 104 657 = some ((.goto (610) : Instr), 660, 1267, 0) := by decide +kernel
theorem at_104_660 : mm_at 104 660 = some ((.aload_n 1 : Instr), 661, 0, 0) := by decide +kernel
theorem at_104_661 : mm_at 104 661 = some ((.aload_n 0 : Instr), 662, 0, 0) := by decide +kernel
theorem at_104_662 : mm_at 104 662 = some ((.iload 4 : Instr), 664, 0, 0) := by decide +kernel
theorem at_104_664 : mm_at 104 664 = some ((.iconst (1) : Instr), 665, 0, 0) := by decide +kernel
theorem at_104_665 : mm_at 104 665 = some ((.iadd : Instr), 666, 0, 0) := by decide +kernel
theorem at_104_666 : mm_at 104 666 = some ((.iaload : Instr), 667, 0, 0) := by decide +kernel
theorem at_104_667 : mm_at 104 667 = some ((.aload_n 3 : Instr), 668, 0, 0) := by decide +kernel
theorem at_104_668 : mm_at 104 668 = some ((.invokestatic 125 : Instr), 671, 94, 3) := by decide +kernel
theorem at_104_671 : mm_at 104 671 = some ((.istore 5 : Instr), 673, 0, 0) := by decide +kernel
theorem at_104_673 : mm_at 104 673 = some ((.aload_n 2 : Instr), 674, 0, 0) := by decide +kernel
theorem at_104_674 : mm_at 104 674 = some ((.aload_n 0 : Instr), 675, 0, 0) := by decide +kernel
theorem at_104_675 : mm_at 104 675 = some ((.iload 4 : Instr), 677, 0, 0) := by decide +kernel
theorem at_104_677 : mm_at 104 677 = some ((.iconst (1) : Instr), 678, 0, 0) := by decide +kernel
theorem at_104_678 : mm_at 104 678 = some ((.iadd : Instr), 679, 0, 0) := by decide +kernel
theorem at_104_679 : mm_at 104 679 = some ((.iaload : Instr), 680, 0, 0) := by decide +kernel
theorem at_104_680 : mm_at 104 680 = some ((.invokevirtual 127 : Instr), 683, 74, 2) := by decide +kernel
theorem at_104_683 : mm_at 104 683 = some ((.istore 6 : Instr), 685, 0, 0) := by decide +kernel
theorem at_104_685 : mm_at 104 685 = some ((.aload_n 2 : Instr), 686, 0, 0) := by decide +kernel
theorem at_104_686 : mm_at 104 686 = some ((.invokevirtual 94 : Instr), 689, 51, 1) := by decide +kernel
theorem at_104_689 : mm_at 104 689 = some ((.iload 5 : Instr), 691, 0, 0) := by decide +kernel
theorem at_104_691 : mm_at 104 691 = some ((.if_icmp .eq (5) : Instr), 694, 696, 0) := by decide +kernel
theorem at_104_694 : mm_at 104 694 = some ((.iconst (0) : Instr), 695, 0, 0) := by decide +kernel
theorem at_104_695 : mm_at 104 695 = some ((.ireturn : Instr), 696, 2, 0) := by decide +kernel
theorem at_104_696 : mm_at 104 696 = some ((.iload 5 : Instr), 698, 0, 0) := by decide +kernel
theorem at_104_698 : mm_at 104 698 = some ((.ifCond .ne (15) : Instr), 701, 713, 0) := by decide +kernel
theorem at_104_701 : mm_at 104 701 = some ((.aload_n 3 : Instr), 702, 0, 0) := by decide +kernel
theorem at_104_702 : mm_at 104 702 = some ((.iconst (0) : Instr), 703, 0, 0) := by decide +kernel
theorem at_104_703 : mm_at 104 703 = some ((.laload : Instr), 704, 0, 0) := by decide +kernel
theorem at_104_704 : mm_at 104 704 = some ((.iload 6 : Instr), 706, 0, 0) := by decide +kernel
theorem at_104_706 : mm_at 104 706 = some ((.i2l : Instr), 707, 0, 0) := by decide +kernel
theorem at_104_707 : mm_at 104 707 = some ((.lcmp : Instr), 708, 0, 0) := by decide +kernel
theorem at_104_708 : mm_at 104 708 = some ((.ifCond .eq (5) : Instr), 711, 713, 0) := by decide +kernel
theorem at_104_711 : mm_at 104 711 = some ((.iconst (0) : Instr), 712, 0, 0) := by decide +kernel
theorem at_104_712 : mm_at 104 712 = some ((.ireturn : Instr), 713, 2, 0) := by decide +kernel
theorem at_104_713 : mm_at 104 713 = some ((.goto (554) : Instr), 716, 1267, 0) := by decide +kernel
theorem at_104_716 : mm_at 104 716 = some ((.aload_n 1 : Instr), 717, 0, 0) := by decide +kernel
theorem at_104_717 : mm_at 104 717 = some ((.aload_n 0 : Instr), 718, 0, 0) := by decide +kernel
theorem at_104_718 : mm_at 104 718 = some ((.iload 4 : Instr), 720, 0, 0) := by decide +kernel
theorem at_104_720 : mm_at 104 720 = some ((.iconst (1) : Instr), 721, 0, 0) := by decide +kernel
theorem at_104_721 : mm_at 104 721 = some ((.iadd : Instr), 722, 0, 0) := by decide +kernel
theorem at_104_722 : mm_at 104 722 = some ((.iaload : Instr), 723, 0, 0) := by decide +kernel
theorem at_104_723 : mm_at 104 723 = some ((.aload_n 3 : Instr), 724, 0, 0) := by decide +kernel
theorem at_104_724 : mm_at 104 724 = some ((.invokestatic 128 : Instr), 727, 95, 3) := by decide +kernel
theorem at_104_727 : mm_at 104 727 = some ((.istore 5 : Instr), 729, 0, 0) := by decide +kernel
theorem at_104_729 : mm_at 104 729 = some ((.aload_n 2 : Instr), 730, 0, 0) := by decide +kernel
theorem at_104_730 : mm_at 104 730 = some ((.aload_n 0 : Instr), 731, 0, 0) := by decide +kernel
theorem at_104_731 : mm_at 104 731 = some ((.iload 4 : Instr), 733, 0, 0) := by decide +kernel
theorem at_104_733 : mm_at 104 733 = some ((.iconst (1) : Instr), 734, 0, 0) := by decide +kernel
theorem at_104_734 : mm_at 104 734 = some ((.iadd : Instr), 735, 0, 0) := by decide +kernel
theorem at_104_735 : mm_at 104 735 = some ((.iaload : Instr), 736, 0, 0) := by decide +kernel
theorem at_104_736 : mm_at 104 736 = some ((.invokevirtual 130 : Instr), 739, 75, 2) := by decide +kernel
theorem at_104_739 : mm_at 104 739 = some ((.istore 6 : Instr), 741, 0, 0) := by decide +kernel
theorem at_104_741 : mm_at 104 741 = some ((.aload_n 2 : Instr), 742, 0, 0) := by decide +kernel
theorem at_104_742 : mm_at 104 742 = some ((.invokevirtual 94 : Instr), 745, 51, 1) := by decide +kernel
theorem at_104_745 : mm_at 104 745 = some ((.iload 5 : Instr), 747, 0, 0) := by decide +kernel
theorem at_104_747 : mm_at 104 747 = some ((.if_icmp .eq (5) : Instr), 750, 752, 0) := by decide +kernel
theorem at_104_750 : mm_at 104 750 = some ((.iconst (0) : Instr), 751, 0, 0) := by decide +kernel
theorem at_104_751 : mm_at 104 751 = some ((.ireturn : Instr), 752, 2, 0) := by decide +kernel
theorem at_104_752 : mm_at 104 752 = some ((.iload 5 : Instr), 754, 0, 0) := by decide +kernel
theorem at_104_754 : mm_at 104 754 = some ((.ifCond .ne (15) : Instr), 757, 769, 0) := by decide +kernel
theorem at_104_757 : mm_at 104 757 = some ((.aload_n 3 : Instr), 758, 0, 0) := by decide +kernel
theorem at_104_758 : mm_at 104 758 = some ((.iconst (0) : Instr), 759, 0, 0) := by decide +kernel
theorem at_104_759 : mm_at 104 759 = some ((.laload : Instr), 760, 0, 0) := by decide +kernel
theorem at_104_760 : mm_at 104 760 = some ((.iload 6 : Instr), 762, 0, 0) := by decide +kernel
theorem at_104_762 : mm_at 104 762 = some ((.i2l : Instr), 763, 0, 0) := by decide +kernel
theorem at_104_763 : mm_at 104 763 = some ((.lcmp : Instr), 764, 0, 0) := by decide +kernel
theorem at_104_764 : mm_at 104 764 = some ((.ifCond .eq (5) : Instr), 767, 769, 0) := by decide +kernel
theorem at_104_767 : mm_at 104 767 = some ((.iconst (0) : Instr), 768, 0, 0) := by decide +kernel
theorem at_104_768 : mm_at 104 768 = some ((.ireturn : Instr), 769, 2, 0) := by decide +kernel
theorem at_104_769 : mm_at 104 769 = some ((.goto (498) : Instr), 772, 1267, 0) := by decide +kernel
theorem at_104_772 : mm_at 104 772 = some ((.aload_n 1 : Instr), 773, 0, 0) := by decide +kernel
theorem at_104_773 : mm_at 104 773 = some ((.aload_n 0 : Instr), 774, 0, 0) := by decide +kernel
theorem at_104_774 : mm_at 104 774 = some ((.iload 4 : Instr), 776, 0, 0) := by decide +kernel
theorem at_104_776 : mm_at 104 776 = some ((.iconst (1) : Instr), 777, 0, 0) := by decide +kernel
theorem at_104_777 : mm_at 104 777 = some ((.iadd : Instr), 778, 0, 0) := by decide +kernel
theorem at_104_778 : mm_at 104 778 = some ((.iaload : Instr), 779, 0, 0) := by decide +kernel
theorem at_104_779 : mm_at 104 779 = some ((.aload_n 3 : Instr), 780, 0, 0) := by decide +kernel
theorem at_104_780 : mm_at 104 780 = some ((.invokestatic 131 : Instr), 783, 96, 3) := by decide +kernel
theorem at_104_783 : mm_at 104 783 = some ((.istore 5 : Instr), 785, 0, 0) := by decide +kernel
theorem at_104_785 : mm_at 104 785 = some ((.aload_n 2 : Instr), 786, 0, 0) := by decide +kernel
theorem at_104_786 : mm_at 104 786 = some ((.aload_n 0 : Instr), 787, 0, 0) := by decide +kernel
theorem at_104_787 : mm_at 104 787 = some ((.iload 4 : Instr), 789, 0, 0) := by decide +kernel
theorem at_104_789 : mm_at 104 789 = some ((.iconst (1) : Instr), 790, 0, 0) := by decide +kernel
theorem at_104_790 : mm_at 104 790 = some ((.iadd : Instr), 791, 0, 0) := by decide +kernel
theorem at_104_791 : mm_at 104 791 = some ((.iaload : Instr), 792, 0, 0) := by decide +kernel
theorem at_104_792 : mm_at 104 792 = some ((.invokevirtual 133 : Instr), 795, 76, 2) := by decide +kernel
theorem at_104_795 : mm_at 104 795 = some ((.istore 6 : Instr), 797, 0, 0) := by decide +kernel
theorem at_104_797 : mm_at 104 797 = some ((.aload_n 2 : Instr), 798, 0, 0) := by decide +kernel
theorem at_104_798 : mm_at 104 798 = some ((.invokevirtual 94 : Instr), 801, 51, 1) := by decide +kernel
theorem at_104_801 : mm_at 104 801 = some ((.iload 5 : Instr), 803, 0, 0) := by decide +kernel
theorem at_104_803 : mm_at 104 803 = some ((.if_icmp .eq (5) : Instr), 806, 808, 0) := by decide +kernel
theorem at_104_806 : mm_at 104 806 = some ((.iconst (0) : Instr), 807, 0, 0) := by decide +kernel
theorem at_104_807 : mm_at 104 807 = some ((.ireturn : Instr), 808, 2, 0) := by decide +kernel
theorem at_104_808 : mm_at 104 808 = some ((.iload 5 : Instr), 810, 0, 0) := by decide +kernel
theorem at_104_810 : mm_at 104 810 = some ((.ifCond .ne (15) : Instr), 813, 825, 0) := by decide +kernel
theorem at_104_813 : mm_at 104 813 = some ((.aload_n 3 : Instr), 814, 0, 0) := by decide +kernel
theorem at_104_814 : mm_at 104 814 = some ((.iconst (0) : Instr), 815, 0, 0) := by decide +kernel
theorem at_104_815 : mm_at 104 815 = some ((.laload : Instr), 816, 0, 0) := by decide +kernel
theorem at_104_816 : mm_at 104 816 = some ((.iload 6 : Instr), 818, 0, 0) := by decide +kernel
theorem at_104_818 : mm_at 104 818 = some ((.i2l : Instr), 819, 0, 0) := by decide +kernel
theorem at_104_819 : mm_at 104 819 = some ((.lcmp : Instr), 820, 0, 0) := by decide +kernel
theorem at_104_820 : mm_at 104 820 = some ((.ifCond .eq (5) : Instr), 823, 825, 0) := by decide +kernel
theorem at_104_823 : mm_at 104 823 = some ((.iconst (0) : Instr), 824, 0, 0) := by decide +kernel
theorem at_104_824 : mm_at 104 824 = some ((.ireturn : Instr), 825, 2, 0) := by decide +kernel
theorem at_104_825 : mm_at 104 825 = some ((.goto (442) : Instr), 828, 1267, 0) := by decide +kernel
theorem at_104_828 : mm_at 104 828 = some ((.aload_n 1 : Instr), 829, 0, 0) := by decide +kernel
theorem at_104_829 : mm_at 104 829 = some ((.aload_n 0 : Instr), 830, 0, 0) := by decide +kernel
theorem at_104_830 : mm_at 104 830 = some ((.iload 4 : Instr), 832, 0, 0) := by decide +kernel
theorem at_104_832 : mm_at 104 832 = some ((.iconst (1) : Instr), 833, 0, 0) := by decide +kernel
theorem at_104_833 : mm_at 104 833 = some ((.iadd : Instr), 834, 0, 0) := by decide +kernel
theorem at_104_834 : mm_at 104 834 = some ((.iaload : Instr), 835, 0, 0) := by decide +kernel
theorem at_104_835 : mm_at 104 835 = some ((.aload_n 0 : Instr), 836, 0, 0) := by decide +kernel
theorem at_104_836 : mm_at 104 836 = some ((.iload 4 : Instr), 838, 0, 0) := by decide +kernel
theorem at_104_838 : mm_at 104 838 = some ((.iconst (2) : Instr), 839, 0, 0) := by decide +kernel
theorem at_104_839 : mm_at 104 839 = some ((.iadd : Instr), 840, 0, 0) := by decide +kernel
theorem at_104_840 : mm_at 104 840 = some ((.iaload : Instr), 841, 0, 0) := by decide +kernel
theorem at_104_841 : mm_at 104 841 = some ((.aload_n 0 : Instr), 842, 0, 0) := by decide +kernel
theorem at_104_842 : mm_at 104 842 = some ((.iload 4 : Instr), 844, 0, 0) := by decide +kernel
theorem at_104_844 : mm_at 104 844 = some ((.iconst (3) : Instr), 845, 0, 0) := by decide +kernel
theorem at_104_845 : mm_at 104 845 = some ((.iadd : Instr), 846, 0, 0) := by decide +kernel
theorem at_104_846 : mm_at 104 846 = some ((.iaload : Instr), 847, 0, 0) := by decide +kernel
theorem at_104_847 : mm_at 104 847 = some ((.invokestatic 134 : Instr), 850, 97, 4) := by decide +kernel
theorem at_104_850 : mm_at 104 850 = some ((.istore 5 : Instr), 852, 0, 0) := by decide +kernel
theorem at_104_852 : mm_at 104 852 = some ((.aload_n 2 : Instr), 853, 0, 0) := by decide +kernel
theorem at_104_853 : mm_at 104 853 = some ((.aload_n 0 : Instr), 854, 0, 0) := by decide +kernel
theorem at_104_854 : mm_at 104 854 = some ((.iload 4 : Instr), 856, 0, 0) := by decide +kernel
theorem at_104_856 : mm_at 104 856 = some ((.iconst (1) : Instr), 857, 0, 0) := by decide +kernel
theorem at_104_857 : mm_at 104 857 = some ((.iadd : Instr), 858, 0, 0) := by decide +kernel
theorem at_104_858 : mm_at 104 858 = some ((.iaload : Instr), 859, 0, 0) := by decide +kernel
theorem at_104_859 : mm_at 104 859 = some ((.aload_n 0 : Instr), 860, 0, 0) := by decide +kernel
theorem at_104_860 : mm_at 104 860 = some ((.iload 4 : Instr), 862, 0, 0) := by decide +kernel
theorem at_104_862 : mm_at 104 862 = some ((.iconst (2) : Instr), 863, 0, 0) := by decide +kernel
theorem at_104_863 : mm_at 104 863 = some ((.iadd : Instr), 864, 0, 0) := by decide +kernel
theorem at_104_864 : mm_at 104 864 = some ((.iaload : Instr), 865, 0, 0) := by decide +kernel
theorem at_104_865 : mm_at 104 865 = some ((.aload_n 0 : Instr), 866, 0, 0) := by decide +kernel
theorem at_104_866 : mm_at 104 866 = some ((.iload 4 : Instr), 868, 0, 0) := by decide +kernel
theorem at_104_868 : mm_at 104 868 = some ((.iconst (3) : Instr), 869, 0, 0) := by decide +kernel
theorem at_104_869 : mm_at 104 869 = some ((.iadd : Instr), 870, 0, 0) := by decide +kernel
theorem at_104_870 : mm_at 104 870 = some ((.iaload : Instr), 871, 0, 0) := by decide +kernel
theorem at_104_871 : mm_at 104 871 = some ((.invokevirtual 136 : Instr), 874, 77, 4) := by decide +kernel
theorem at_104_874 : mm_at 104 874 = some ((.aload_n 2 : Instr), 875, 0, 0) := by decide +kernel
theorem at_104_875 : mm_at 104 875 = some ((.invokevirtual 94 : Instr), 878, 51, 1) := by decide +kernel
theorem at_104_878 : mm_at 104 878 = some ((.iload 5 : Instr), 880, 0, 0) := by decide +kernel
theorem at_104_880 : mm_at 104 880 = some ((.if_icmp .eq (5) : Instr), 883, 885, 0) := by decide +kernel
theorem at_104_883 : mm_at 104 883 = some ((.iconst (0) : Instr), 884, 0, 0) := by decide +kernel
theorem at_104_884 : mm_at 104 884 = some ((.ireturn : Instr), 885, 2, 0) := by decide +kernel
theorem at_104_885 : mm_at 104 885 = some ((.goto (382) : Instr), 888, 1267, 0) := by decide +kernel
theorem at_104_888 : mm_at 104 888 = some ((.aload_n 1 : Instr), 889, 0, 0) := by decide +kernel
theorem at_104_889 : mm_at 104 889 = some ((.aload_n 0 : Instr), 890, 0, 0) := by decide +kernel
theorem at_104_890 : mm_at 104 890 = some ((.iload 4 : Instr), 892, 0, 0) := by decide +kernel
theorem at_104_892 : mm_at 104 892 = some ((.iconst (1) : Instr), 893, 0, 0) := by decide +kernel
theorem at_104_893 : mm_at 104 893 = some ((.iadd : Instr), 894, 0, 0) := by decide +kernel
theorem at_104_894 : mm_at 104 894 = some ((.iaload : Instr), 895, 0, 0) := by decide +kernel
theorem at_104_895 : mm_at 104 895 = some ((.aload_n 0 : Instr), 896, 0, 0) := by decide +kernel
theorem at_104_896 : mm_at 104 896 = some ((.iload 4 : Instr), 898, 0, 0) := by decide +kernel
theorem at_104_898 : mm_at 104 898 = some ((.iconst (2) : Instr), 899, 0, 0) := by decide +kernel
theorem at_104_899 : mm_at 104 899 = some ((.iadd : Instr), 900, 0, 0) := by decide +kernel
theorem at_104_900 : mm_at 104 900 = some ((.iaload : Instr), 901, 0, 0) := by decide +kernel
theorem at_104_901 : mm_at 104 901 = some ((.aload_n 3 : Instr), 902, 0, 0) := by decide +kernel
theorem at_104_902 : mm_at 104 902 = some ((.invokestatic 137 : Instr), 905, 98, 4) := by decide +kernel
theorem at_104_905 : mm_at 104 905 = some ((.istore 5 : Instr), 907, 0, 0) := by decide +kernel
theorem at_104_907 : mm_at 104 907 = some ((.aload_n 2 : Instr), 908, 0, 0) := by decide +kernel
theorem at_104_908 : mm_at 104 908 = some ((.aload_n 0 : Instr), 909, 0, 0) := by decide +kernel
theorem at_104_909 : mm_at 104 909 = some ((.iload 4 : Instr), 911, 0, 0) := by decide +kernel
theorem at_104_911 : mm_at 104 911 = some ((.iconst (1) : Instr), 912, 0, 0) := by decide +kernel
theorem at_104_912 : mm_at 104 912 = some ((.iadd : Instr), 913, 0, 0) := by decide +kernel
theorem at_104_913 : mm_at 104 913 = some ((.iaload : Instr), 914, 0, 0) := by decide +kernel
theorem at_104_914 : mm_at 104 914 = some ((.aload_n 0 : Instr), 915, 0, 0) := by decide +kernel
theorem at_104_915 : mm_at 104 915 = some ((.iload 4 : Instr), 917, 0, 0) := by decide +kernel
theorem at_104_917 : mm_at 104 917 = some ((.iconst (2) : Instr), 918, 0, 0) := by decide +kernel
theorem at_104_918 : mm_at 104 918 = some ((.iadd : Instr), 919, 0, 0) := by decide +kernel
theorem at_104_919 : mm_at 104 919 = some ((.iaload : Instr), 920, 0, 0) := by decide +kernel
theorem at_104_920 : mm_at 104 920 = some ((.invokevirtual 139 : Instr), 923, 79, 3) := by decide +kernel
theorem at_104_923 : mm_at 104 923 = some ((.istore 6 : Instr), 925, 0, 0) := by decide +kernel
theorem at_104_925 : mm_at 104 925 = some ((.aload_n 2 : Instr), 926, 0, 0) := by decide +kernel
theorem at_104_926 : mm_at 104 926 = some ((.invokevirtual 94 : Instr), 929, 51, 1) := by decide +kernel
theorem at_104_929 : mm_at 104 929 = some ((.iload 5 : Instr), 931, 0, 0) := by decide +kernel
theorem at_104_931 : mm_at 104 931 = some ((.if_icmp .eq (5) : Instr), 934, 936, 0) := by decide +kernel
theorem at_104_934 : mm_at 104 934 = some ((.iconst (0) : Instr), 935, 0, 0) := by decide +kernel
theorem at_104_935 : mm_at 104 935 = some ((.ireturn : Instr), 936, 2, 0) := by decide +kernel
theorem at_104_936 : mm_at 104 936 = some ((.iload 5 : Instr), 938, 0, 0) := by decide +kernel
theorem at_104_938 : mm_at 104 938 = some ((.ifCond .ne (15) : Instr), 941, 953, 0) := by decide +kernel
theorem at_104_941 : mm_at 104 941 = some ((.aload_n 3 : Instr), 942, 0, 0) := by decide +kernel
theorem at_104_942 : mm_at 104 942 = some ((.iconst (0) : Instr), 943, 0, 0) := by decide +kernel
theorem at_104_943 : mm_at 104 943 = some ((.laload : Instr), 944, 0, 0) := by decide +kernel
theorem at_104_944 : mm_at 104 944 = some ((.iload 6 : Instr), 946, 0, 0) := by decide +kernel
theorem at_104_946 : mm_at 104 946 = some ((.i2l : Instr), 947, 0, 0) := by decide +kernel
theorem at_104_947 : mm_at 104 947 = some ((.lcmp : Instr), 948, 0, 0) := by decide +kernel
theorem at_104_948 : mm_at 104 948 = some ((.ifCond .eq (5) : Instr), 951, 953, 0) := by decide +kernel
theorem at_104_951 : mm_at 104 951 = some ((.iconst (0) : Instr), 952, 0, 0) := by decide +kernel
theorem at_104_952 : mm_at 104 952 = some ((.ireturn : Instr), 953, 2, 0) := by decide +kernel
theorem at_104_953 : mm_at 104 953 = some ((.goto (314) : Instr), 956, 1267, 0) := by decide +kernel
theorem at_104_956 : mm_at 104 956 = some ((.aload_n 1 : Instr), 957, 0, 0) := by decide +kernel
theorem at_104_957 : mm_at 104 957 = some ((.aload_n 0 : Instr), 958, 0, 0) := by decide +kernel
theorem at_104_958 : mm_at 104 958 = some ((.iload 4 : Instr), 960, 0, 0) := by decide +kernel
theorem at_104_960 : mm_at 104 960 = some ((.iconst (1) : Instr), 961, 0, 0) := by decide +kernel
theorem at_104_961 : mm_at 104 961 = some ((.iadd : Instr), 962, 0, 0) := by decide +kernel
theorem at_104_962 : mm_at 104 962 = some ((.iaload : Instr), 963, 0, 0) := by decide +kernel
theorem at_104_963 : mm_at 104 963 = some ((.aload_n 0 : Instr), 964, 0, 0) := by decide +kernel
theorem at_104_964 : mm_at 104 964 = some ((.iload 4 : Instr), 966, 0, 0) := by decide +kernel
theorem at_104_966 : mm_at 104 966 = some ((.iconst (2) : Instr), 967, 0, 0) := by decide +kernel
theorem at_104_967 : mm_at 104 967 = some ((.iadd : Instr), 968, 0, 0) := by decide +kernel
theorem at_104_968 : mm_at 104 968 = some ((.iaload : Instr), 969, 0, 0) := by decide +kernel
theorem at_104_969 : mm_at 104 969 = some ((.aload_n 3 : Instr), 970, 0, 0) := by decide +kernel
theorem at_104_970 : mm_at 104 970 = some ((.invokestatic 140 : Instr), 973, 99, 4) := by decide +kernel
theorem at_104_973 : mm_at 104 973 = some ((.istore 5 : Instr), 975, 0, 0) := by decide +kernel
theorem at_104_975 : mm_at 104 975 = some ((.aload_n 2 : Instr), 976, 0, 0) := by decide +kernel
theorem at_104_976 : mm_at 104 976 = some ((.aload_n 0 : Instr), 977, 0, 0) := by decide +kernel
theorem at_104_977 : mm_at 104 977 = some ((.iload 4 : Instr), 979, 0, 0) := by decide +kernel
theorem at_104_979 : mm_at 104 979 = some ((.iconst (1) : Instr), 980, 0, 0) := by decide +kernel
theorem at_104_980 : mm_at 104 980 = some ((.iadd : Instr), 981, 0, 0) := by decide +kernel
theorem at_104_981 : mm_at 104 981 = some ((.iaload : Instr), 982, 0, 0) := by decide +kernel
theorem at_104_982 : mm_at 104 982 = some ((.aload_n 0 : Instr), 983, 0, 0) := by decide +kernel
theorem at_104_983 : mm_at 104 983 = some ((.iload 4 : Instr), 985, 0, 0) := by decide +kernel
theorem at_104_985 : mm_at 104 985 = some ((.iconst (2) : Instr), 986, 0, 0) := by decide +kernel
theorem at_104_986 : mm_at 104 986 = some ((.iadd : Instr), 987, 0, 0) := by decide +kernel
theorem at_104_987 : mm_at 104 987 = some ((.iaload : Instr), 988, 0, 0) := by decide +kernel
theorem at_104_988 : mm_at 104 988 = some ((.invokevirtual 142 : Instr), 991, 80, 3) := by decide +kernel
theorem at_104_991 : mm_at 104 991 = some ((.istore 6 : Instr), 993, 0, 0) := by decide +kernel
theorem at_104_993 : mm_at 104 993 = some ((.aload_n 2 : Instr), 994, 0, 0) := by decide +kernel
theorem at_104_994 : mm_at 104 994 = some ((.invokevirtual 94 : Instr), 997, 51, 1) := by decide +kernel
theorem at_104_997 : mm_at 104 997 = some ((.iload 5 : Instr), 999, 0, 0) := by decide +kernel
theorem at_104_999 : mm_at 104 999 = some ((.if_icmp .eq (5) : Instr), 1002, 1004, 0) := by decide +kernel
theorem at_104_1002 : mm_at 104 1002 = some ((.iconst (0) : Instr), 1003, 0, 0) := by decide +kernel
theorem at_104_1003 : mm_at 104 1003 = some ((.ireturn : Instr), 1004, 2, 0) := by decide +kernel
theorem at_104_1004 : mm_at 104 1004 = some ((.iload 5 : Instr), 1006, 0, 0) := by decide +kernel
theorem at_104_1006 : mm_at 104 1006 = some ((.ifCond .ne (15) : Instr), 1009, 1021, 0) := by decide +kernel
theorem at_104_1009 : mm_at 104 1009 = some ((.aload_n 3 : Instr), 1010, 0, 0) := by decide +kernel
theorem at_104_1010 : mm_at 104 1010 = some ((.iconst (0) : Instr), 1011, 0, 0) := by decide +kernel
theorem at_104_1011 : mm_at 104 1011 = some ((.laload : Instr), 1012, 0, 0) := by decide +kernel
theorem at_104_1012 : mm_at 104 1012 = some ((.iload 6 : Instr), 1014, 0, 0) := by decide +kernel
theorem at_104_1014 : mm_at 104 1014 = some ((.i2l : Instr), 1015, 0, 0) := by decide +kernel
theorem at_104_1015 : mm_at 104 1015 = some ((.lcmp : Instr), 1016, 0, 0) := by decide +kernel
theorem at_104_1016 : mm_at 104 1016 = some ((.ifCond .eq (5) : Instr), 1019, 1021, 0) := by decide +kernel
theorem at_104_1019 : mm_at 104 1019 = some ((.iconst (0) : Instr), 1020, 0, 0) := by decide +kernel
theorem at_104_1020 : mm_at 104 1020 = some ((.ireturn : Instr), 1021, 2, 0) := by decide +kernel
theorem at_104_1021 : mm_at 104 1021 = some ((.goto (246) : Instr), 1024, 1267, 0) := by decide +kernel
theorem at_104_1024 : mm_at 104 1024 = some ((.aload_n 1 : Instr), 1025, 0, 0) := by decide +kernel
theorem at_104_1025 : mm_at 104 1025 = some ((.aload_n 0 : Instr), 1026, 0, 0) := by decide +kernel
theorem at_104_1026 : mm_at 104 1026 = some ((.iload 4 : Instr), 1028, 0, 0) := by decide +kernel
theorem at_104_1028 : mm_at 104 1028 = some ((.iconst (1) : Instr), 1029, 0, 0) := by decide +kernel
theorem at_104_1029 : mm_at 104 1029 = some ((.iadd : Instr), 1030, 0, 0) := by decide +kernel
theorem at_104_1030 : mm_at 104 1030 = some ((.iaload : Instr), 1031, 0, 0) := by decide +kernel
theorem at_104_1031 : mm_at 104 1031 = some ((.aload_n 3 : Instr), 1032, 0, 0) := by decide +kernel
theorem at_104_1032 : mm_at 104 1032 = some ((.invokestatic 143 : Instr), 1035, 100, 3) := by decide +kernel
theorem at_104_1035 : mm_at 104 1035 = some ((.istore 5 : Instr), 1037, 0, 0) := by decide +kernel
theorem at_104_1037 : mm_at 104 1037 = some ((.aload_n 2 : Instr), 1038, 0, 0) := by decide +kernel
theorem at_104_1038 : mm_at 104 1038 = some ((.aload_n 0 : Instr), 1039, 0, 0) := by decide +kernel
theorem at_104_1039 : mm_at 104 1039 = some ((.iload 4 : Instr), 1041, 0, 0) := by decide +kernel
theorem at_104_1041 : mm_at 104 1041 = some ((.iconst (1) : Instr), 1042, 0, 0) := by decide +kernel
theorem at_104_1042 : mm_at 104 1042 = some ((.iadd : Instr), 1043, 0, 0) := by decide +kernel
theorem at_104_1043 : mm_at 104 1043 = some ((.iaload : Instr), 1044, 0, 0) := by decide +kernel
theorem at_104_1044 : mm_at 104 1044 = some ((.invokevirtual 145 : Instr), 1047, 81, 2) := by decide +kernel
theorem at_104_1047 : mm_at 104 1047 = some ((.istore 6 : Instr), 1049, 0, 0) := by decide +kernel
theorem at_104_1049 : mm_at 104 1049 = some ((.aload_n 2 : Instr), 1050, 0, 0) := by decide +kernel
theorem at_104_1050 : mm_at 104 1050 = some ((.invokevirtual 94 : Instr), 1053, 51, 1) := by decide +kernel
theorem at_104_1053 : mm_at 104 1053 = some ((.iload 5 : Instr), 1055, 0, 0) := by decide +kernel
theorem at_104_1055 : mm_at 104 1055 = some ((.if_icmp .eq (5) : Instr), 1058, 1060, 0) := by decide +kernel
theorem at_104_1058 : mm_at 104 1058 = some ((.iconst (0) : Instr), 1059, 0, 0) := by decide +kernel
theorem at_104_1059 : mm_at 104 1059 = some ((.ireturn : Instr), 1060, 2, 0) := by decide +kernel
theorem at_104_1060 : mm_at 104 1060 = some ((.iload 5 : Instr), 1062, 0, 0) := by decide +kernel
theorem at_104_1062 : mm_at 104 1062 = some ((.ifCond .ne (15) : Instr), 1065, 1077, 0) := by decide +kernel
theorem at_104_1065 : mm_at 104 1065 = some ((.aload_n 3 : Instr), 1066, 0, 0) := by decide +kernel
theorem at_104_1066 : mm_at 104 1066 = some ((.iconst (0) : Instr), 1067, 0, 0) := by decide +kernel
theorem at_104_1067 : mm_at 104 1067 = some ((.laload : Instr), 1068, 0, 0) := by decide +kernel
theorem at_104_1068 : mm_at 104 1068 = some ((.iload 6 : Instr), 1070, 0, 0) := by decide +kernel
theorem at_104_1070 : mm_at 104 1070 = some ((.i2l : Instr), 1071, 0, 0) := by decide +kernel
theorem at_104_1071 : mm_at 104 1071 = some ((.lcmp : Instr), 1072, 0, 0) := by decide +kernel
theorem at_104_1072 : mm_at 104 1072 = some ((.ifCond .eq (5) : Instr), 1075, 1077, 0) := by decide +kernel
theorem at_104_1075 : mm_at 104 1075 = some ((.iconst (0) : Instr), 1076, 0, 0) := by decide +kernel
theorem at_104_1076 : mm_at 104 1076 = some ((.ireturn : Instr), 1077, 2, 0) := by decide +kernel
theorem at_104_1077 : mm_at 104 1077 = some ((.goto (190) : Instr), 1080, 1267, 0) := by decide +kernel
theorem at_104_1080 : mm_at 104 1080 = some ((.aload_n 1 : Instr), 1081, 0, 0) := by decide +kernel
theorem at_104_1081 : mm_at 104 1081 = some ((.aload_n 0 : Instr), 1082, 0, 0) := by decide +kernel
theorem at_104_1082 : mm_at 104 1082 = some ((.iload 4 : Instr), 1084, 0, 0) := by decide +kernel
theorem at_104_1084 : mm_at 104 1084 = some ((.iconst (1) : Instr), 1085, 0, 0) := by decide +kernel
theorem at_104_1085 : mm_at 104 1085 = some ((.iadd : Instr), 1086, 0, 0) := by decide +kernel
theorem at_104_1086 : mm_at 104 1086 = some ((.iaload : Instr), 1087, 0, 0) := by decide +kernel
theorem at_104_1087 : mm_at 104 1087 = some ((.aload_n 3 : Instr), 1088, 0, 0) := by decide +kernel
theorem at_104_1088 : mm_at 104 1088 = some ((.invokestatic 146 : Instr), 1091, 101, 3) := by decide +kernel
theorem at_104_1091 : mm_at 104 1091 = some ((.istore 5 : Instr), 1093, 0, 0) := by decide +kernel
theorem at_104_1093 : mm_at 104 1093 = some ((.aload_n 2 : Instr), 1094, 0, 0) := by decide +kernel
theorem at_104_1094 : mm_at 104 1094 = some ((.aload_n 0 : Instr), 1095, 0, 0) := by decide +kernel
theorem at_104_1095 : mm_at 104 1095 = some ((.iload 4 : Instr), 1097, 0, 0) := by decide +kernel
theorem at_104_1097 : mm_at 104 1097 = some ((.iconst (1) : Instr), 1098, 0, 0) := by decide +kernel
theorem at_104_1098 : mm_at 104 1098 = some ((.iadd : Instr), 1099, 0, 0) := by decide +kernel
theorem at_104_1099 : mm_at 104 1099 = some ((.iaload : Instr), 1100, 0, 0) := by decide +kernel
theorem at_104_1100 : mm_at 104 1100 = some ((.invokevirtual 148 : Instr), 1103, 82, 2) := by decide +kernel
theorem at_104_1103 : mm_at 104 1103 = some ((.istore 6 : Instr), 1105, 0, 0) := by decide +kernel
theorem at_104_1105 : mm_at 104 1105 = some ((.aload_n 2 : Instr), 1106, 0, 0) := by decide +kernel
theorem at_104_1106 : mm_at 104 1106 = some ((.invokevirtual 94 : Instr), 1109, 51, 1) := by decide +kernel
theorem at_104_1109 : mm_at 104 1109 = some ((.iload 5 : Instr), 1111, 0, 0) := by decide +kernel
theorem at_104_1111 : mm_at 104 1111 = some ((.if_icmp .eq (5) : Instr), 1114, 1116, 0) := by decide +kernel
theorem at_104_1114 : mm_at 104 1114 = some ((.iconst (0) : Instr), 1115, 0, 0) := by decide +kernel
theorem at_104_1115 : mm_at 104 1115 = some ((.ireturn : Instr), 1116, 2, 0) := by decide +kernel
theorem at_104_1116 : mm_at 104 1116 = some ((.iload 5 : Instr), 1118, 0, 0) := by decide +kernel
theorem at_104_1118 : mm_at 104 1118 = some ((.ifCond .ne (15) : Instr), 1121, 1133, 0) := by decide +kernel
theorem at_104_1121 : mm_at 104 1121 = some ((.aload_n 3 : Instr), 1122, 0, 0) := by decide +kernel
theorem at_104_1122 : mm_at 104 1122 = some ((.iconst (0) : Instr), 1123, 0, 0) := by decide +kernel
theorem at_104_1123 : mm_at 104 1123 = some ((.laload : Instr), 1124, 0, 0) := by decide +kernel
theorem at_104_1124 : mm_at 104 1124 = some ((.iload 6 : Instr), 1126, 0, 0) := by decide +kernel
theorem at_104_1126 : mm_at 104 1126 = some ((.i2l : Instr), 1127, 0, 0) := by decide +kernel
theorem at_104_1127 : mm_at 104 1127 = some ((.lcmp : Instr), 1128, 0, 0) := by decide +kernel
theorem at_104_1128 : mm_at 104 1128 = some ((.ifCond .eq (5) : Instr), 1131, 1133, 0) := by decide +kernel
theorem at_104_1131 : mm_at 104 1131 = some ((.iconst (0) : Instr), 1132, 0, 0) := by decide +kernel
theorem at_104_1132 : mm_at 104 1132 = some ((.ireturn : Instr), 1133, 2, 0) := by decide +kernel
theorem at_104_1133 : mm_at 104 1133 = some ((.goto (134) : Instr), 1136, 1267, 0) := by decide +kernel
theorem at_104_1136 : mm_at 104 1136 = some ((.aload_n 1 : Instr), 1137, 0, 0) := by decide +kernel
theorem at_104_1137 : mm_at 104 1137 = some ((.aload_n 0 : Instr), 1138, 0, 0) := by decide +kernel
theorem at_104_1138 : mm_at 104 1138 = some ((.iload 4 : Instr), 1140, 0, 0) := by decide +kernel
theorem at_104_1140 : mm_at 104 1140 = some ((.iconst (1) : Instr), 1141, 0, 0) := by decide +kernel
theorem at_104_1141 : mm_at 104 1141 = some ((.iadd : Instr), 1142, 0, 0) := by decide +kernel
theorem at_104_1142 : mm_at 104 1142 = some ((.iaload : Instr), 1143, 0, 0) := by decide +kernel
theorem at_104_1143 : mm_at 104 1143 = some ((.aload_n 0 : Instr), 1144, 0, 0) := by decide +kernel
theorem at_104_1144 : mm_at 104 1144 = some ((.iload 4 : Instr), 1146, 0, 0) := by decide +kernel
theorem at_104_1146 : mm_at 104 1146 = some ((.iconst (2) : Instr), 1147, 0, 0) := by decide +kernel
theorem at_104_1147 : mm_at 104 1147 = some ((.iadd : Instr), 1148, 0, 0) := by decide +kernel
theorem at_104_1148 : mm_at 104 1148 = some ((.iaload : Instr), 1149, 0, 0) := by decide +kernel
theorem at_104_1149 : mm_at 104 1149 = some ((.aload_n 3 : Instr), 1150, 0, 0) := by decide +kernel
theorem at_104_1150 : mm_at 104 1150 = some ((.invokestatic 149 : Instr), 1153, 102, 4) := by decide +kernel
theorem at_104_1153 : mm_at 104 1153 = some ((.istore 5 : Instr), 1155, 0, 0) := by decide +kernel
theorem at_104_1155 : mm_at 104 1155 = some ((.aload_n 2 : Instr), 1156, 0, 0) := by decide +kernel
theorem at_104_1156 : mm_at 104 1156 = some ((.aload_n 0 : Instr), 1157, 0, 0) := by decide +kernel
theorem at_104_1157 : mm_at 104 1157 = some ((.iload 4 : Instr), 1159, 0, 0) := by decide +kernel
theorem at_104_1159 : mm_at 104 1159 = some ((.iconst (1) : Instr), 1160, 0, 0) := by decide +kernel
theorem at_104_1160 : mm_at 104 1160 = some ((.iadd : Instr), 1161, 0, 0) := by decide +kernel
theorem at_104_1161 : mm_at 104 1161 = some ((.iaload : Instr), 1162, 0, 0) := by decide +kernel
theorem at_104_1162 : mm_at 104 1162 = some ((.aload_n 0 : Instr), 1163, 0, 0) := by decide +kernel
theorem at_104_1163 : mm_at 104 1163 = some ((.iload 4 : Instr), 1165, 0, 0) := by decide +kernel
theorem at_104_1165 : mm_at 104 1165 = some ((.iconst (2) : Instr), 1166, 0, 0) := by decide +kernel
theorem at_104_1166 : mm_at 104 1166 = some ((.iadd : Instr), 1167, 0, 0) := by decide +kernel
theorem at_104_1167 : mm_at 104 1167 = some ((.iaload : Instr), 1168, 0, 0) := by decide +kernel
theorem at_104_1168 : mm_at 104 1168 = some ((.invokevirtual 151 : Instr), 1171, 83, 3) := by decide +kernel
theorem at_104_1171 : mm_at 104 1171 = some ((.istore 6 : Instr), 1173, 0, 0) := by decide +kernel
theorem at_104_1173 : mm_at 104 1173 = some ((.aload_n 2 : Instr), 1174, 0, 0) := by decide +kernel
theorem at_104_1174 : mm_at 104 1174 = some ((.invokevirtual 94 : Instr), 1177, 51, 1) := by decide +kernel
theorem at_104_1177 : mm_at 104 1177 = some ((.iload 5 : Instr), 1179, 0, 0) := by decide +kernel
theorem at_104_1179 : mm_at 104 1179 = some ((.if_icmp .eq (5) : Instr), 1182, 1184, 0) := by decide +kernel
theorem at_104_1182 : mm_at 104 1182 = some ((.iconst (0) : Instr), 1183, 0, 0) := by decide +kernel
theorem at_104_1183 : mm_at 104 1183 = some ((.ireturn : Instr), 1184, 2, 0) := by decide +kernel
theorem at_104_1184 : mm_at 104 1184 = some ((.iload 5 : Instr), 1186, 0, 0) := by decide +kernel
theorem at_104_1186 : mm_at 104 1186 = some ((.ifCond .ne (15) : Instr), 1189, 1201, 0) := by decide +kernel
theorem at_104_1189 : mm_at 104 1189 = some ((.aload_n 3 : Instr), 1190, 0, 0) := by decide +kernel
theorem at_104_1190 : mm_at 104 1190 = some ((.iconst (0) : Instr), 1191, 0, 0) := by decide +kernel
theorem at_104_1191 : mm_at 104 1191 = some ((.laload : Instr), 1192, 0, 0) := by decide +kernel
theorem at_104_1192 : mm_at 104 1192 = some ((.iload 6 : Instr), 1194, 0, 0) := by decide +kernel
theorem at_104_1194 : mm_at 104 1194 = some ((.i2l : Instr), 1195, 0, 0) := by decide +kernel
theorem at_104_1195 : mm_at 104 1195 = some ((.lcmp : Instr), 1196, 0, 0) := by decide +kernel
theorem at_104_1196 : mm_at 104 1196 = some ((.ifCond .eq (5) : Instr), 1199, 1201, 0) := by decide +kernel
theorem at_104_1199 : mm_at 104 1199 = some ((.iconst (0) : Instr), 1200, 0, 0) := by decide +kernel
theorem at_104_1200 : mm_at 104 1200 = some ((.ireturn : Instr), 1201, 2, 0) := by decide +kernel
theorem at_104_1201 : mm_at 104 1201 = some ((.goto (66) : Instr), 1204, 1267, 0) := by decide +kernel
theorem at_104_1204 : mm_at 104 1204 = some ((.aload_n 1 : Instr), 1205, 0, 0) := by decide +kernel
theorem at_104_1205 : mm_at 104 1205 = some ((.aload_n 0 : Instr), 1206, 0, 0) := by decide +kernel
theorem at_104_1206 : mm_at 104 1206 = some ((.iload 4 : Instr), 1208, 0, 0) := by decide +kernel
theorem at_104_1208 : mm_at 104 1208 = some ((.iconst (1) : Instr), 1209, 0, 0) := by decide +kernel
theorem at_104_1209 : mm_at 104 1209 = some ((.iadd : Instr), 1210, 0, 0) := by decide +kernel
theorem at_104_1210 : mm_at 104 1210 = some ((.iaload : Instr), 1211, 0, 0) := by decide +kernel
theorem at_104_1211 : mm_at 104 1211 = some ((.aload_n 3 : Instr), 1212, 0, 0) := by decide +kernel
theorem at_104_1212 : mm_at 104 1212 = some ((.invokestatic 152 : Instr), 1215, 103, 3) := by decide +kernel
theorem at_104_1215 : mm_at 104 1215 = some ((.istore 5 : Instr), 1217, 0, 0) := by decide +kernel
theorem at_104_1217 : mm_at 104 1217 = some ((.aload_n 2 : Instr), 1218, 0, 0) := by decide +kernel
theorem at_104_1218 : mm_at 104 1218 = some ((.aload_n 0 : Instr), 1219, 0, 0) := by decide +kernel
theorem at_104_1219 : mm_at 104 1219 = some ((.iload 4 : Instr), 1221, 0, 0) := by decide +kernel
theorem at_104_1221 : mm_at 104 1221 = some ((.iconst (1) : Instr), 1222, 0, 0) := by decide +kernel
theorem at_104_1222 : mm_at 104 1222 = some ((.iadd : Instr), 1223, 0, 0) := by decide +kernel
theorem at_104_1223 : mm_at 104 1223 = some ((.iaload : Instr), 1224, 0, 0) := by decide +kernel
theorem at_104_1224 : mm_at 104 1224 = some ((.invokevirtual 154 : Instr), 1227, 84, 2) := by decide +kernel
theorem at_104_1227 : mm_at 104 1227 = some ((.istore 6 : Instr), 1229, 0, 0) := by decide +kernel
theorem at_104_1229 : mm_at 104 1229 = some ((.aload_n 2 : Instr), 1230, 0, 0) := by decide +kernel
theorem at_104_1230 : mm_at 104 1230 = some ((.invokevirtual 94 : Instr), 1233, 51, 1) := by decide +kernel
theorem at_104_1233 : mm_at 104 1233 = some ((.iload 5 : Instr), 1235, 0, 0) := by decide +kernel
theorem at_104_1235 : mm_at 104 1235 = some ((.if_icmp .eq (5) : Instr), 1238, 1240, 0) := by decide +kernel
theorem at_104_1238 : mm_at 104 1238 = some ((.iconst (0) : Instr), 1239, 0, 0) := by decide +kernel
theorem at_104_1239 : mm_at 104 1239 = some ((.ireturn : Instr), 1240, 2, 0) := by decide +kernel
theorem at_104_1240 : mm_at 104 1240 = some ((.iload 5 : Instr), 1242, 0, 0) := by decide +kernel
theorem at_104_1242 : mm_at 104 1242 = some ((.ifCond .ne (22) : Instr), 1245, 1264, 0) := by decide +kernel
theorem at_104_1245 : mm_at 104 1245 = some ((.aload_n 3 : Instr), 1246, 0, 0) := by decide +kernel
theorem at_104_1246 : mm_at 104 1246 = some ((.iconst (0) : Instr), 1247, 0, 0) := by decide +kernel
theorem at_104_1247 : mm_at 104 1247 = some ((.laload : Instr), 1248, 0, 0) := by decide +kernel
theorem at_104_1248 : mm_at 104 1248 = some ((.iload 6 : Instr), 1250, 0, 0) := by decide +kernel
theorem at_104_1250 : mm_at 104 1250 = some ((.ifCond .eq (7) : Instr), 1253, 1257, 0) := by decide +kernel
theorem at_104_1253 : mm_at 104 1253 = some ((.lconst 1 : Instr), 1254, 0, 0) := by decide +kernel
theorem at_104_1254 : mm_at 104 1254 = some ((.goto (4) : Instr), 1257, 1258, 0) := by decide +kernel
theorem at_104_1257 : mm_at 104 1257 = some ((.lconst 0 : Instr), 1258, 0, 0) := by decide +kernel
theorem at_104_1258 : mm_at 104 1258 = some ((.lcmp : Instr), 1259, 0, 0) := by decide +kernel
theorem at_104_1259 : mm_at 104 1259 = some ((.ifCond .eq (5) : Instr), 1262, 1264, 0) := by decide +kernel
theorem at_104_1262 : mm_at 104 1262 = some ((.iconst (0) : Instr), 1263, 0, 0) := by decide +kernel
theorem at_104_1263 : mm_at 104 1263 = some ((.ireturn : Instr), 1264, 2, 0) := by decide +kernel
theorem at_104_1264 : mm_at 104 1264 = some ((.goto (3) : Instr), 1267, 1267, 0) := by decide +kernel
theorem at_104_1267 : mm_at 104 1267 = some ((.iinc 4 (4) : Instr), 1270, 0, 0) := by decide +kernel
theorem at_104_1270 : mm_at 104 1270 = some ((.goto (-1217) : Instr), 1273, 53, 0) := by decide +kernel
theorem at_104_1273 : mm_at 104 1273 = some ((.iconst (1) : Instr), 1274, 0, 0) := by decide +kernel
theorem at_104_1274 : mm_at 104 1274 = some ((.ireturn : Instr), 1275, 2, 0) := by decide +kernel
