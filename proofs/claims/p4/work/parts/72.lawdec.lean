-- decode rows of the law's entry
theorem dq72_0 : dOk code [(0, .new 7, 3), (3, .dup, 1), (4, .invokespecial 9, 3), (7, .astore_n 1, 1), (8, .new 10, 3), (11, .dup, 1), (12, .invokespecial 12, 3), (15, .astore_n 2, 1), (16, .iconst 0, 1), (17, .istore_n 3, 1), (18, .iload_n 3, 1), (19, .aload_n 0, 1), (20, .arraylength, 1), (21, .bipush 6, 2), (23, .isub, 1), (24, .if_icmp .gt 1406, 3), (27, .aload_n 0, 1), (28, .iload_n 3, 1), (29, .iaload, 1), (30, .bipush 63, 2), (32, .iand, 1)] = true := by decide +kernel
theorem dL_0 : decode code 0 = .ok (.new 7, 3) := dOk_get dq72_0 (i := 0) rfl
theorem dL_3 : decode code 3 = .ok (.dup, 1) := dOk_get dq72_0 (i := 1) rfl
theorem dL_4 : decode code 4 = .ok (.invokespecial 9, 3) := dOk_get dq72_0 (i := 2) rfl
theorem dL_7 : decode code 7 = .ok (.astore_n 1, 1) := dOk_get dq72_0 (i := 3) rfl
theorem dL_8 : decode code 8 = .ok (.new 10, 3) := dOk_get dq72_0 (i := 4) rfl
theorem dL_11 : decode code 11 = .ok (.dup, 1) := dOk_get dq72_0 (i := 5) rfl
theorem dL_12 : decode code 12 = .ok (.invokespecial 12, 3) := dOk_get dq72_0 (i := 6) rfl
theorem dL_15 : decode code 15 = .ok (.astore_n 2, 1) := dOk_get dq72_0 (i := 7) rfl
theorem dL_16 : decode code 16 = .ok (.iconst 0, 1) := dOk_get dq72_0 (i := 8) rfl
theorem dL_17 : decode code 17 = .ok (.istore_n 3, 1) := dOk_get dq72_0 (i := 9) rfl
theorem dL_18 : decode code 18 = .ok (.iload_n 3, 1) := dOk_get dq72_0 (i := 10) rfl
theorem dL_19 : decode code 19 = .ok (.aload_n 0, 1) := dOk_get dq72_0 (i := 11) rfl
theorem dL_20 : decode code 20 = .ok (.arraylength, 1) := dOk_get dq72_0 (i := 12) rfl
theorem dL_21 : decode code 21 = .ok (.bipush 6, 2) := dOk_get dq72_0 (i := 13) rfl
theorem dL_23 : decode code 23 = .ok (.isub, 1) := dOk_get dq72_0 (i := 14) rfl
theorem dL_24 : decode code 24 = .ok (.if_icmp .gt 1406, 3) := dOk_get dq72_0 (i := 15) rfl
theorem dL_27 : decode code 27 = .ok (.aload_n 0, 1) := dOk_get dq72_0 (i := 16) rfl
theorem dL_28 : decode code 28 = .ok (.iload_n 3, 1) := dOk_get dq72_0 (i := 17) rfl
theorem dL_29 : decode code 29 = .ok (.iaload, 1) := dOk_get dq72_0 (i := 18) rfl
theorem dL_30 : decode code 30 = .ok (.bipush 63, 2) := dOk_get dq72_0 (i := 19) rfl
theorem dL_32 : decode code 32 = .ok (.iand, 1) := dOk_get dq72_0 (i := 20) rfl
theorem dL_33 : decode code 33 = .ok (.tableswitch 1391 0 37 #[167, 200, 233, 266, 309, 342, 365, 408, 431, 474, 497, 560, 583, 606, 639, 672, 705, 738, 781, 824, 847, 890, 913, 956, 969, 1012, 1055, 1078, 1121, 1164, 1227, 1250, 1283, 1296, 1309, 1332, 1345, 1368], 167) := by decide +kernel
theorem dq72_1 : dOk code [(200, .aload_n 1, 1), (201, .aload_n 0, 1), (202, .iload_n 3, 1), (203, .iconst 1, 1), (204, .iadd, 1), (205, .iaload, 1), (206, .aload_n 0, 1), (207, .iload_n 3, 1), (208, .iconst 2, 1), (209, .iadd, 1), (210, .iaload, 1), (211, .invokevirtual 13, 3), (214, .pop, 1), (215, .aload_n 2, 1), (216, .aload_n 0, 1), (217, .iload_n 3, 1), (218, .iconst 1, 1), (219, .iadd, 1), (220, .iaload, 1), (221, .aload_n 0, 1), (222, .iload_n 3, 1), (223, .iconst 2, 1), (224, .iadd, 1), (225, .iaload, 1), (226, .invokevirtual 17, 3)] = true := by decide +kernel
theorem dL_200 : decode code 200 = .ok (.aload_n 1, 1) := dOk_get dq72_1 (i := 0) rfl
theorem dL_201 : decode code 201 = .ok (.aload_n 0, 1) := dOk_get dq72_1 (i := 1) rfl
theorem dL_202 : decode code 202 = .ok (.iload_n 3, 1) := dOk_get dq72_1 (i := 2) rfl
theorem dL_203 : decode code 203 = .ok (.iconst 1, 1) := dOk_get dq72_1 (i := 3) rfl
theorem dL_204 : decode code 204 = .ok (.iadd, 1) := dOk_get dq72_1 (i := 4) rfl
theorem dL_205 : decode code 205 = .ok (.iaload, 1) := dOk_get dq72_1 (i := 5) rfl
theorem dL_206 : decode code 206 = .ok (.aload_n 0, 1) := dOk_get dq72_1 (i := 6) rfl
theorem dL_207 : decode code 207 = .ok (.iload_n 3, 1) := dOk_get dq72_1 (i := 7) rfl
theorem dL_208 : decode code 208 = .ok (.iconst 2, 1) := dOk_get dq72_1 (i := 8) rfl
theorem dL_209 : decode code 209 = .ok (.iadd, 1) := dOk_get dq72_1 (i := 9) rfl
theorem dL_210 : decode code 210 = .ok (.iaload, 1) := dOk_get dq72_1 (i := 10) rfl
theorem dL_211 : decode code 211 = .ok (.invokevirtual 13, 3) := dOk_get dq72_1 (i := 11) rfl
theorem dL_214 : decode code 214 = .ok (.pop, 1) := dOk_get dq72_1 (i := 12) rfl
theorem dL_215 : decode code 215 = .ok (.aload_n 2, 1) := dOk_get dq72_1 (i := 13) rfl
theorem dL_216 : decode code 216 = .ok (.aload_n 0, 1) := dOk_get dq72_1 (i := 14) rfl
theorem dL_217 : decode code 217 = .ok (.iload_n 3, 1) := dOk_get dq72_1 (i := 15) rfl
theorem dL_218 : decode code 218 = .ok (.iconst 1, 1) := dOk_get dq72_1 (i := 16) rfl
theorem dL_219 : decode code 219 = .ok (.iadd, 1) := dOk_get dq72_1 (i := 17) rfl
theorem dL_220 : decode code 220 = .ok (.iaload, 1) := dOk_get dq72_1 (i := 18) rfl
theorem dL_221 : decode code 221 = .ok (.aload_n 0, 1) := dOk_get dq72_1 (i := 19) rfl
theorem dL_222 : decode code 222 = .ok (.iload_n 3, 1) := dOk_get dq72_1 (i := 20) rfl
theorem dL_223 : decode code 223 = .ok (.iconst 2, 1) := dOk_get dq72_1 (i := 21) rfl
theorem dL_224 : decode code 224 = .ok (.iadd, 1) := dOk_get dq72_1 (i := 22) rfl
theorem dL_225 : decode code 225 = .ok (.iaload, 1) := dOk_get dq72_1 (i := 23) rfl
theorem dL_226 : decode code 226 = .ok (.invokevirtual 17, 3) := dOk_get dq72_1 (i := 24) rfl
theorem dq72_2 : dOk code [(229, .pop, 1), (230, .goto 1194, 3), (233, .aload_n 1, 1), (234, .aload_n 0, 1), (235, .iload_n 3, 1), (236, .iconst 1, 1), (237, .iadd, 1), (238, .iaload, 1), (239, .aload_n 0, 1), (240, .iload_n 3, 1), (241, .iconst 2, 1), (242, .iadd, 1), (243, .iaload, 1), (244, .invokevirtual 18, 3), (247, .pop, 1), (248, .aload_n 2, 1), (249, .aload_n 0, 1), (250, .iload_n 3, 1), (251, .iconst 1, 1), (252, .iadd, 1), (253, .iaload, 1), (254, .aload_n 0, 1), (255, .iload_n 3, 1), (256, .iconst 2, 1), (257, .iadd, 1)] = true := by decide +kernel
theorem dL_229 : decode code 229 = .ok (.pop, 1) := dOk_get dq72_2 (i := 0) rfl
theorem dL_230 : decode code 230 = .ok (.goto 1194, 3) := dOk_get dq72_2 (i := 1) rfl
theorem dL_233 : decode code 233 = .ok (.aload_n 1, 1) := dOk_get dq72_2 (i := 2) rfl
theorem dL_234 : decode code 234 = .ok (.aload_n 0, 1) := dOk_get dq72_2 (i := 3) rfl
theorem dL_235 : decode code 235 = .ok (.iload_n 3, 1) := dOk_get dq72_2 (i := 4) rfl
theorem dL_236 : decode code 236 = .ok (.iconst 1, 1) := dOk_get dq72_2 (i := 5) rfl
theorem dL_237 : decode code 237 = .ok (.iadd, 1) := dOk_get dq72_2 (i := 6) rfl
theorem dL_238 : decode code 238 = .ok (.iaload, 1) := dOk_get dq72_2 (i := 7) rfl
theorem dL_239 : decode code 239 = .ok (.aload_n 0, 1) := dOk_get dq72_2 (i := 8) rfl
theorem dL_240 : decode code 240 = .ok (.iload_n 3, 1) := dOk_get dq72_2 (i := 9) rfl
theorem dL_241 : decode code 241 = .ok (.iconst 2, 1) := dOk_get dq72_2 (i := 10) rfl
theorem dL_242 : decode code 242 = .ok (.iadd, 1) := dOk_get dq72_2 (i := 11) rfl
theorem dL_243 : decode code 243 = .ok (.iaload, 1) := dOk_get dq72_2 (i := 12) rfl
theorem dL_244 : decode code 244 = .ok (.invokevirtual 18, 3) := dOk_get dq72_2 (i := 13) rfl
theorem dL_247 : decode code 247 = .ok (.pop, 1) := dOk_get dq72_2 (i := 14) rfl
theorem dL_248 : decode code 248 = .ok (.aload_n 2, 1) := dOk_get dq72_2 (i := 15) rfl
theorem dL_249 : decode code 249 = .ok (.aload_n 0, 1) := dOk_get dq72_2 (i := 16) rfl
theorem dL_250 : decode code 250 = .ok (.iload_n 3, 1) := dOk_get dq72_2 (i := 17) rfl
theorem dL_251 : decode code 251 = .ok (.iconst 1, 1) := dOk_get dq72_2 (i := 18) rfl
theorem dL_252 : decode code 252 = .ok (.iadd, 1) := dOk_get dq72_2 (i := 19) rfl
theorem dL_253 : decode code 253 = .ok (.iaload, 1) := dOk_get dq72_2 (i := 20) rfl
theorem dL_254 : decode code 254 = .ok (.aload_n 0, 1) := dOk_get dq72_2 (i := 21) rfl
theorem dL_255 : decode code 255 = .ok (.iload_n 3, 1) := dOk_get dq72_2 (i := 22) rfl
theorem dL_256 : decode code 256 = .ok (.iconst 2, 1) := dOk_get dq72_2 (i := 23) rfl
theorem dL_257 : decode code 257 = .ok (.iadd, 1) := dOk_get dq72_2 (i := 24) rfl
theorem dq72_3 : dOk code [(258, .iaload, 1), (259, .invokevirtual 21, 3), (262, .pop, 1), (263, .goto 1161, 3), (266, .aload_n 1, 1), (267, .aload_n 0, 1), (268, .iload_n 3, 1), (269, .iconst 1, 1), (270, .iadd, 1), (271, .iaload, 1), (272, .aload_n 0, 1), (273, .iload_n 3, 1), (274, .iconst 2, 1), (275, .iadd, 1), (276, .iaload, 1), (277, .invokevirtual 22, 3), (280, .aload_n 2, 1), (281, .aload_n 0, 1), (282, .iload_n 3, 1), (283, .iconst 1, 1), (284, .iadd, 1), (285, .iaload, 1), (286, .aload_n 0, 1), (287, .iload_n 3, 1), (288, .iconst 2, 1)] = true := by decide +kernel
theorem dL_258 : decode code 258 = .ok (.iaload, 1) := dOk_get dq72_3 (i := 0) rfl
theorem dL_259 : decode code 259 = .ok (.invokevirtual 21, 3) := dOk_get dq72_3 (i := 1) rfl
theorem dL_262 : decode code 262 = .ok (.pop, 1) := dOk_get dq72_3 (i := 2) rfl
theorem dL_263 : decode code 263 = .ok (.goto 1161, 3) := dOk_get dq72_3 (i := 3) rfl
theorem dL_266 : decode code 266 = .ok (.aload_n 1, 1) := dOk_get dq72_3 (i := 4) rfl
theorem dL_267 : decode code 267 = .ok (.aload_n 0, 1) := dOk_get dq72_3 (i := 5) rfl
theorem dL_268 : decode code 268 = .ok (.iload_n 3, 1) := dOk_get dq72_3 (i := 6) rfl
theorem dL_269 : decode code 269 = .ok (.iconst 1, 1) := dOk_get dq72_3 (i := 7) rfl
theorem dL_270 : decode code 270 = .ok (.iadd, 1) := dOk_get dq72_3 (i := 8) rfl
theorem dL_271 : decode code 271 = .ok (.iaload, 1) := dOk_get dq72_3 (i := 9) rfl
theorem dL_272 : decode code 272 = .ok (.aload_n 0, 1) := dOk_get dq72_3 (i := 10) rfl
theorem dL_273 : decode code 273 = .ok (.iload_n 3, 1) := dOk_get dq72_3 (i := 11) rfl
theorem dL_274 : decode code 274 = .ok (.iconst 2, 1) := dOk_get dq72_3 (i := 12) rfl
theorem dL_275 : decode code 275 = .ok (.iadd, 1) := dOk_get dq72_3 (i := 13) rfl
theorem dL_276 : decode code 276 = .ok (.iaload, 1) := dOk_get dq72_3 (i := 14) rfl
theorem dL_277 : decode code 277 = .ok (.invokevirtual 22, 3) := dOk_get dq72_3 (i := 15) rfl
theorem dL_280 : decode code 280 = .ok (.aload_n 2, 1) := dOk_get dq72_3 (i := 16) rfl
theorem dL_281 : decode code 281 = .ok (.aload_n 0, 1) := dOk_get dq72_3 (i := 17) rfl
theorem dL_282 : decode code 282 = .ok (.iload_n 3, 1) := dOk_get dq72_3 (i := 18) rfl
theorem dL_283 : decode code 283 = .ok (.iconst 1, 1) := dOk_get dq72_3 (i := 19) rfl
theorem dL_284 : decode code 284 = .ok (.iadd, 1) := dOk_get dq72_3 (i := 20) rfl
theorem dL_285 : decode code 285 = .ok (.iaload, 1) := dOk_get dq72_3 (i := 21) rfl
theorem dL_286 : decode code 286 = .ok (.aload_n 0, 1) := dOk_get dq72_3 (i := 22) rfl
theorem dL_287 : decode code 287 = .ok (.iload_n 3, 1) := dOk_get dq72_3 (i := 23) rfl
theorem dL_288 : decode code 288 = .ok (.iconst 2, 1) := dOk_get dq72_3 (i := 24) rfl
theorem dq72_4 : dOk code [(289, .iadd, 1), (290, .iaload, 1), (291, .invokevirtual 25, 3), (294, .if_icmp .eq 1130, 3), (297, .iconst 0, 1), (298, .ireturn, 1), (299, .aload_n 1, 1), (300, .aload_n 0, 1), (301, .iload_n 3, 1), (302, .iconst 1, 1), (303, .iadd, 1), (304, .iaload, 1), (305, .aload_n 0, 1), (306, .iload_n 3, 1), (307, .iconst 2, 1), (308, .iadd, 1), (309, .iaload, 1), (310, .aload_n 0, 1), (311, .iload_n 3, 1), (312, .iconst 3, 1), (313, .iadd, 1), (314, .iaload, 1), (315, .invokevirtual 26, 3), (318, .pop, 1), (319, .aload_n 2, 1)] = true := by decide +kernel
theorem dL_289 : decode code 289 = .ok (.iadd, 1) := dOk_get dq72_4 (i := 0) rfl
theorem dL_290 : decode code 290 = .ok (.iaload, 1) := dOk_get dq72_4 (i := 1) rfl
theorem dL_291 : decode code 291 = .ok (.invokevirtual 25, 3) := dOk_get dq72_4 (i := 2) rfl
theorem dL_294 : decode code 294 = .ok (.if_icmp .eq 1130, 3) := dOk_get dq72_4 (i := 3) rfl
theorem dL_297 : decode code 297 = .ok (.iconst 0, 1) := dOk_get dq72_4 (i := 4) rfl
theorem dL_298 : decode code 298 = .ok (.ireturn, 1) := dOk_get dq72_4 (i := 5) rfl
theorem dL_299 : decode code 299 = .ok (.aload_n 1, 1) := dOk_get dq72_4 (i := 6) rfl
theorem dL_300 : decode code 300 = .ok (.aload_n 0, 1) := dOk_get dq72_4 (i := 7) rfl
theorem dL_301 : decode code 301 = .ok (.iload_n 3, 1) := dOk_get dq72_4 (i := 8) rfl
theorem dL_302 : decode code 302 = .ok (.iconst 1, 1) := dOk_get dq72_4 (i := 9) rfl
theorem dL_303 : decode code 303 = .ok (.iadd, 1) := dOk_get dq72_4 (i := 10) rfl
theorem dL_304 : decode code 304 = .ok (.iaload, 1) := dOk_get dq72_4 (i := 11) rfl
theorem dL_305 : decode code 305 = .ok (.aload_n 0, 1) := dOk_get dq72_4 (i := 12) rfl
theorem dL_306 : decode code 306 = .ok (.iload_n 3, 1) := dOk_get dq72_4 (i := 13) rfl
theorem dL_307 : decode code 307 = .ok (.iconst 2, 1) := dOk_get dq72_4 (i := 14) rfl
theorem dL_308 : decode code 308 = .ok (.iadd, 1) := dOk_get dq72_4 (i := 15) rfl
theorem dL_309 : decode code 309 = .ok (.iaload, 1) := dOk_get dq72_4 (i := 16) rfl
theorem dL_310 : decode code 310 = .ok (.aload_n 0, 1) := dOk_get dq72_4 (i := 17) rfl
theorem dL_311 : decode code 311 = .ok (.iload_n 3, 1) := dOk_get dq72_4 (i := 18) rfl
theorem dL_312 : decode code 312 = .ok (.iconst 3, 1) := dOk_get dq72_4 (i := 19) rfl
theorem dL_313 : decode code 313 = .ok (.iadd, 1) := dOk_get dq72_4 (i := 20) rfl
theorem dL_314 : decode code 314 = .ok (.iaload, 1) := dOk_get dq72_4 (i := 21) rfl
theorem dL_315 : decode code 315 = .ok (.invokevirtual 26, 3) := dOk_get dq72_4 (i := 22) rfl
theorem dL_318 : decode code 318 = .ok (.pop, 1) := dOk_get dq72_4 (i := 23) rfl
theorem dL_319 : decode code 319 = .ok (.aload_n 2, 1) := dOk_get dq72_4 (i := 24) rfl
theorem dq72_5 : dOk code [(320, .aload_n 0, 1), (321, .iload_n 3, 1), (322, .iconst 1, 1), (323, .iadd, 1), (324, .iaload, 1), (325, .aload_n 0, 1), (326, .iload_n 3, 1), (327, .iconst 2, 1), (328, .iadd, 1), (329, .iaload, 1), (330, .aload_n 0, 1), (331, .iload_n 3, 1), (332, .iconst 3, 1), (333, .iadd, 1), (334, .iaload, 1), (335, .invokevirtual 30, 3), (338, .pop, 1), (339, .goto 1085, 3), (342, .aload_n 1, 1), (343, .aload_n 0, 1), (344, .iload_n 3, 1), (345, .iconst 1, 1), (346, .iadd, 1), (347, .iaload, 1), (348, .aload_n 0, 1)] = true := by decide +kernel
theorem dL_320 : decode code 320 = .ok (.aload_n 0, 1) := dOk_get dq72_5 (i := 0) rfl
theorem dL_321 : decode code 321 = .ok (.iload_n 3, 1) := dOk_get dq72_5 (i := 1) rfl
theorem dL_322 : decode code 322 = .ok (.iconst 1, 1) := dOk_get dq72_5 (i := 2) rfl
theorem dL_323 : decode code 323 = .ok (.iadd, 1) := dOk_get dq72_5 (i := 3) rfl
theorem dL_324 : decode code 324 = .ok (.iaload, 1) := dOk_get dq72_5 (i := 4) rfl
theorem dL_325 : decode code 325 = .ok (.aload_n 0, 1) := dOk_get dq72_5 (i := 5) rfl
theorem dL_326 : decode code 326 = .ok (.iload_n 3, 1) := dOk_get dq72_5 (i := 6) rfl
theorem dL_327 : decode code 327 = .ok (.iconst 2, 1) := dOk_get dq72_5 (i := 7) rfl
theorem dL_328 : decode code 328 = .ok (.iadd, 1) := dOk_get dq72_5 (i := 8) rfl
theorem dL_329 : decode code 329 = .ok (.iaload, 1) := dOk_get dq72_5 (i := 9) rfl
theorem dL_330 : decode code 330 = .ok (.aload_n 0, 1) := dOk_get dq72_5 (i := 10) rfl
theorem dL_331 : decode code 331 = .ok (.iload_n 3, 1) := dOk_get dq72_5 (i := 11) rfl
theorem dL_332 : decode code 332 = .ok (.iconst 3, 1) := dOk_get dq72_5 (i := 12) rfl
theorem dL_333 : decode code 333 = .ok (.iadd, 1) := dOk_get dq72_5 (i := 13) rfl
theorem dL_334 : decode code 334 = .ok (.iaload, 1) := dOk_get dq72_5 (i := 14) rfl
theorem dL_335 : decode code 335 = .ok (.invokevirtual 30, 3) := dOk_get dq72_5 (i := 15) rfl
theorem dL_338 : decode code 338 = .ok (.pop, 1) := dOk_get dq72_5 (i := 16) rfl
theorem dL_339 : decode code 339 = .ok (.goto 1085, 3) := dOk_get dq72_5 (i := 17) rfl
theorem dL_342 : decode code 342 = .ok (.aload_n 1, 1) := dOk_get dq72_5 (i := 18) rfl
theorem dL_343 : decode code 343 = .ok (.aload_n 0, 1) := dOk_get dq72_5 (i := 19) rfl
theorem dL_344 : decode code 344 = .ok (.iload_n 3, 1) := dOk_get dq72_5 (i := 20) rfl
theorem dL_345 : decode code 345 = .ok (.iconst 1, 1) := dOk_get dq72_5 (i := 21) rfl
theorem dL_346 : decode code 346 = .ok (.iadd, 1) := dOk_get dq72_5 (i := 22) rfl
theorem dL_347 : decode code 347 = .ok (.iaload, 1) := dOk_get dq72_5 (i := 23) rfl
theorem dL_348 : decode code 348 = .ok (.aload_n 0, 1) := dOk_get dq72_5 (i := 24) rfl
theorem dq72_6 : dOk code [(349, .iload_n 3, 1), (350, .iconst 2, 1), (351, .iadd, 1), (352, .iaload, 1), (353, .invokevirtual 31, 3), (356, .pop, 1), (357, .aload_n 2, 1), (358, .aload_n 0, 1), (359, .iload_n 3, 1), (360, .iconst 1, 1), (361, .iadd, 1), (362, .iaload, 1), (363, .aload_n 0, 1), (364, .iload_n 3, 1), (365, .iconst 2, 1), (366, .iadd, 1), (367, .iaload, 1), (368, .invokevirtual 34, 3), (371, .pop, 1), (372, .goto 1052, 3), (375, .aload_n 1, 1), (376, .aload_n 0, 1), (377, .iload_n 3, 1), (378, .iconst 1, 1), (379, .iadd, 1)] = true := by decide +kernel
theorem dL_349 : decode code 349 = .ok (.iload_n 3, 1) := dOk_get dq72_6 (i := 0) rfl
theorem dL_350 : decode code 350 = .ok (.iconst 2, 1) := dOk_get dq72_6 (i := 1) rfl
theorem dL_351 : decode code 351 = .ok (.iadd, 1) := dOk_get dq72_6 (i := 2) rfl
theorem dL_352 : decode code 352 = .ok (.iaload, 1) := dOk_get dq72_6 (i := 3) rfl
theorem dL_353 : decode code 353 = .ok (.invokevirtual 31, 3) := dOk_get dq72_6 (i := 4) rfl
theorem dL_356 : decode code 356 = .ok (.pop, 1) := dOk_get dq72_6 (i := 5) rfl
theorem dL_357 : decode code 357 = .ok (.aload_n 2, 1) := dOk_get dq72_6 (i := 6) rfl
theorem dL_358 : decode code 358 = .ok (.aload_n 0, 1) := dOk_get dq72_6 (i := 7) rfl
theorem dL_359 : decode code 359 = .ok (.iload_n 3, 1) := dOk_get dq72_6 (i := 8) rfl
theorem dL_360 : decode code 360 = .ok (.iconst 1, 1) := dOk_get dq72_6 (i := 9) rfl
theorem dL_361 : decode code 361 = .ok (.iadd, 1) := dOk_get dq72_6 (i := 10) rfl
theorem dL_362 : decode code 362 = .ok (.iaload, 1) := dOk_get dq72_6 (i := 11) rfl
theorem dL_363 : decode code 363 = .ok (.aload_n 0, 1) := dOk_get dq72_6 (i := 12) rfl
theorem dL_364 : decode code 364 = .ok (.iload_n 3, 1) := dOk_get dq72_6 (i := 13) rfl
theorem dL_365 : decode code 365 = .ok (.iconst 2, 1) := dOk_get dq72_6 (i := 14) rfl
theorem dL_366 : decode code 366 = .ok (.iadd, 1) := dOk_get dq72_6 (i := 15) rfl
theorem dL_367 : decode code 367 = .ok (.iaload, 1) := dOk_get dq72_6 (i := 16) rfl
theorem dL_368 : decode code 368 = .ok (.invokevirtual 34, 3) := dOk_get dq72_6 (i := 17) rfl
theorem dL_371 : decode code 371 = .ok (.pop, 1) := dOk_get dq72_6 (i := 18) rfl
theorem dL_372 : decode code 372 = .ok (.goto 1052, 3) := dOk_get dq72_6 (i := 19) rfl
theorem dL_375 : decode code 375 = .ok (.aload_n 1, 1) := dOk_get dq72_6 (i := 20) rfl
theorem dL_376 : decode code 376 = .ok (.aload_n 0, 1) := dOk_get dq72_6 (i := 21) rfl
theorem dL_377 : decode code 377 = .ok (.iload_n 3, 1) := dOk_get dq72_6 (i := 22) rfl
theorem dL_378 : decode code 378 = .ok (.iconst 1, 1) := dOk_get dq72_6 (i := 23) rfl
theorem dL_379 : decode code 379 = .ok (.iadd, 1) := dOk_get dq72_6 (i := 24) rfl
theorem dq72_7 : dOk code [(380, .iaload, 1), (381, .invokevirtual 35, 3), (384, .pop, 1), (385, .aload_n 2, 1), (386, .aload_n 0, 1), (387, .iload_n 3, 1), (388, .iconst 1, 1), (389, .iadd, 1), (390, .iaload, 1), (391, .invokevirtual 39, 3), (394, .pop, 1), (395, .goto 1029, 3), (398, .aload_n 1, 1), (399, .aload_n 0, 1), (400, .iload_n 3, 1), (401, .iconst 1, 1), (402, .iadd, 1), (403, .iaload, 1), (404, .aload_n 0, 1), (405, .iload_n 3, 1), (406, .iconst 2, 1), (407, .iadd, 1), (408, .iaload, 1), (409, .aload_n 0, 1), (410, .iload_n 3, 1)] = true := by decide +kernel
theorem dL_380 : decode code 380 = .ok (.iaload, 1) := dOk_get dq72_7 (i := 0) rfl
theorem dL_381 : decode code 381 = .ok (.invokevirtual 35, 3) := dOk_get dq72_7 (i := 1) rfl
theorem dL_384 : decode code 384 = .ok (.pop, 1) := dOk_get dq72_7 (i := 2) rfl
theorem dL_385 : decode code 385 = .ok (.aload_n 2, 1) := dOk_get dq72_7 (i := 3) rfl
theorem dL_386 : decode code 386 = .ok (.aload_n 0, 1) := dOk_get dq72_7 (i := 4) rfl
theorem dL_387 : decode code 387 = .ok (.iload_n 3, 1) := dOk_get dq72_7 (i := 5) rfl
theorem dL_388 : decode code 388 = .ok (.iconst 1, 1) := dOk_get dq72_7 (i := 6) rfl
theorem dL_389 : decode code 389 = .ok (.iadd, 1) := dOk_get dq72_7 (i := 7) rfl
theorem dL_390 : decode code 390 = .ok (.iaload, 1) := dOk_get dq72_7 (i := 8) rfl
theorem dL_391 : decode code 391 = .ok (.invokevirtual 39, 3) := dOk_get dq72_7 (i := 9) rfl
theorem dL_394 : decode code 394 = .ok (.pop, 1) := dOk_get dq72_7 (i := 10) rfl
theorem dL_395 : decode code 395 = .ok (.goto 1029, 3) := dOk_get dq72_7 (i := 11) rfl
theorem dL_398 : decode code 398 = .ok (.aload_n 1, 1) := dOk_get dq72_7 (i := 12) rfl
theorem dL_399 : decode code 399 = .ok (.aload_n 0, 1) := dOk_get dq72_7 (i := 13) rfl
theorem dL_400 : decode code 400 = .ok (.iload_n 3, 1) := dOk_get dq72_7 (i := 14) rfl
theorem dL_401 : decode code 401 = .ok (.iconst 1, 1) := dOk_get dq72_7 (i := 15) rfl
theorem dL_402 : decode code 402 = .ok (.iadd, 1) := dOk_get dq72_7 (i := 16) rfl
theorem dL_403 : decode code 403 = .ok (.iaload, 1) := dOk_get dq72_7 (i := 17) rfl
theorem dL_404 : decode code 404 = .ok (.aload_n 0, 1) := dOk_get dq72_7 (i := 18) rfl
theorem dL_405 : decode code 405 = .ok (.iload_n 3, 1) := dOk_get dq72_7 (i := 19) rfl
theorem dL_406 : decode code 406 = .ok (.iconst 2, 1) := dOk_get dq72_7 (i := 20) rfl
theorem dL_407 : decode code 407 = .ok (.iadd, 1) := dOk_get dq72_7 (i := 21) rfl
theorem dL_408 : decode code 408 = .ok (.iaload, 1) := dOk_get dq72_7 (i := 22) rfl
theorem dL_409 : decode code 409 = .ok (.aload_n 0, 1) := dOk_get dq72_7 (i := 23) rfl
theorem dL_410 : decode code 410 = .ok (.iload_n 3, 1) := dOk_get dq72_7 (i := 24) rfl
theorem dq72_8 : dOk code [(411, .iconst 3, 1), (412, .iadd, 1), (413, .iaload, 1), (414, .invokevirtual 40, 3), (417, .pop, 1), (418, .aload_n 2, 1), (419, .aload_n 0, 1), (420, .iload_n 3, 1), (421, .iconst 1, 1), (422, .iadd, 1), (423, .iaload, 1), (424, .aload_n 0, 1), (425, .iload_n 3, 1), (426, .iconst 2, 1), (427, .iadd, 1), (428, .iaload, 1), (429, .aload_n 0, 1), (430, .iload_n 3, 1), (431, .iconst 3, 1), (432, .iadd, 1), (433, .iaload, 1), (434, .invokevirtual 43, 3), (437, .pop, 1), (438, .goto 986, 3), (441, .aload_n 1, 1)] = true := by decide +kernel
theorem dL_411 : decode code 411 = .ok (.iconst 3, 1) := dOk_get dq72_8 (i := 0) rfl
theorem dL_412 : decode code 412 = .ok (.iadd, 1) := dOk_get dq72_8 (i := 1) rfl
theorem dL_413 : decode code 413 = .ok (.iaload, 1) := dOk_get dq72_8 (i := 2) rfl
theorem dL_414 : decode code 414 = .ok (.invokevirtual 40, 3) := dOk_get dq72_8 (i := 3) rfl
theorem dL_417 : decode code 417 = .ok (.pop, 1) := dOk_get dq72_8 (i := 4) rfl
theorem dL_418 : decode code 418 = .ok (.aload_n 2, 1) := dOk_get dq72_8 (i := 5) rfl
theorem dL_419 : decode code 419 = .ok (.aload_n 0, 1) := dOk_get dq72_8 (i := 6) rfl
theorem dL_420 : decode code 420 = .ok (.iload_n 3, 1) := dOk_get dq72_8 (i := 7) rfl
theorem dL_421 : decode code 421 = .ok (.iconst 1, 1) := dOk_get dq72_8 (i := 8) rfl
theorem dL_422 : decode code 422 = .ok (.iadd, 1) := dOk_get dq72_8 (i := 9) rfl
theorem dL_423 : decode code 423 = .ok (.iaload, 1) := dOk_get dq72_8 (i := 10) rfl
theorem dL_424 : decode code 424 = .ok (.aload_n 0, 1) := dOk_get dq72_8 (i := 11) rfl
theorem dL_425 : decode code 425 = .ok (.iload_n 3, 1) := dOk_get dq72_8 (i := 12) rfl
theorem dL_426 : decode code 426 = .ok (.iconst 2, 1) := dOk_get dq72_8 (i := 13) rfl
theorem dL_427 : decode code 427 = .ok (.iadd, 1) := dOk_get dq72_8 (i := 14) rfl
theorem dL_428 : decode code 428 = .ok (.iaload, 1) := dOk_get dq72_8 (i := 15) rfl
theorem dL_429 : decode code 429 = .ok (.aload_n 0, 1) := dOk_get dq72_8 (i := 16) rfl
theorem dL_430 : decode code 430 = .ok (.iload_n 3, 1) := dOk_get dq72_8 (i := 17) rfl
theorem dL_431 : decode code 431 = .ok (.iconst 3, 1) := dOk_get dq72_8 (i := 18) rfl
theorem dL_432 : decode code 432 = .ok (.iadd, 1) := dOk_get dq72_8 (i := 19) rfl
theorem dL_433 : decode code 433 = .ok (.iaload, 1) := dOk_get dq72_8 (i := 20) rfl
theorem dL_434 : decode code 434 = .ok (.invokevirtual 43, 3) := dOk_get dq72_8 (i := 21) rfl
theorem dL_437 : decode code 437 = .ok (.pop, 1) := dOk_get dq72_8 (i := 22) rfl
theorem dL_438 : decode code 438 = .ok (.goto 986, 3) := dOk_get dq72_8 (i := 23) rfl
theorem dL_441 : decode code 441 = .ok (.aload_n 1, 1) := dOk_get dq72_8 (i := 24) rfl
theorem dq72_9 : dOk code [(442, .aload_n 0, 1), (443, .iload_n 3, 1), (444, .iconst 1, 1), (445, .iadd, 1), (446, .iaload, 1), (447, .invokevirtual 44, 3), (450, .pop, 1), (451, .aload_n 2, 1), (452, .aload_n 0, 1), (453, .iload_n 3, 1), (454, .iconst 1, 1), (455, .iadd, 1), (456, .iaload, 1), (457, .invokevirtual 47, 3), (460, .pop, 1), (461, .goto 963, 3), (464, .aload_n 1, 1), (465, .aload_n 0, 1), (466, .iload_n 3, 1), (467, .iconst 1, 1), (468, .iadd, 1), (469, .iaload, 1), (470, .aload_n 0, 1), (471, .iload_n 3, 1), (472, .iconst 2, 1)] = true := by decide +kernel
theorem dL_442 : decode code 442 = .ok (.aload_n 0, 1) := dOk_get dq72_9 (i := 0) rfl
theorem dL_443 : decode code 443 = .ok (.iload_n 3, 1) := dOk_get dq72_9 (i := 1) rfl
theorem dL_444 : decode code 444 = .ok (.iconst 1, 1) := dOk_get dq72_9 (i := 2) rfl
theorem dL_445 : decode code 445 = .ok (.iadd, 1) := dOk_get dq72_9 (i := 3) rfl
theorem dL_446 : decode code 446 = .ok (.iaload, 1) := dOk_get dq72_9 (i := 4) rfl
theorem dL_447 : decode code 447 = .ok (.invokevirtual 44, 3) := dOk_get dq72_9 (i := 5) rfl
theorem dL_450 : decode code 450 = .ok (.pop, 1) := dOk_get dq72_9 (i := 6) rfl
theorem dL_451 : decode code 451 = .ok (.aload_n 2, 1) := dOk_get dq72_9 (i := 7) rfl
theorem dL_452 : decode code 452 = .ok (.aload_n 0, 1) := dOk_get dq72_9 (i := 8) rfl
theorem dL_453 : decode code 453 = .ok (.iload_n 3, 1) := dOk_get dq72_9 (i := 9) rfl
theorem dL_454 : decode code 454 = .ok (.iconst 1, 1) := dOk_get dq72_9 (i := 10) rfl
theorem dL_455 : decode code 455 = .ok (.iadd, 1) := dOk_get dq72_9 (i := 11) rfl
theorem dL_456 : decode code 456 = .ok (.iaload, 1) := dOk_get dq72_9 (i := 12) rfl
theorem dL_457 : decode code 457 = .ok (.invokevirtual 47, 3) := dOk_get dq72_9 (i := 13) rfl
theorem dL_460 : decode code 460 = .ok (.pop, 1) := dOk_get dq72_9 (i := 14) rfl
theorem dL_461 : decode code 461 = .ok (.goto 963, 3) := dOk_get dq72_9 (i := 15) rfl
theorem dL_464 : decode code 464 = .ok (.aload_n 1, 1) := dOk_get dq72_9 (i := 16) rfl
theorem dL_465 : decode code 465 = .ok (.aload_n 0, 1) := dOk_get dq72_9 (i := 17) rfl
theorem dL_466 : decode code 466 = .ok (.iload_n 3, 1) := dOk_get dq72_9 (i := 18) rfl
theorem dL_467 : decode code 467 = .ok (.iconst 1, 1) := dOk_get dq72_9 (i := 19) rfl
theorem dL_468 : decode code 468 = .ok (.iadd, 1) := dOk_get dq72_9 (i := 20) rfl
theorem dL_469 : decode code 469 = .ok (.iaload, 1) := dOk_get dq72_9 (i := 21) rfl
theorem dL_470 : decode code 470 = .ok (.aload_n 0, 1) := dOk_get dq72_9 (i := 22) rfl
theorem dL_471 : decode code 471 = .ok (.iload_n 3, 1) := dOk_get dq72_9 (i := 23) rfl
theorem dL_472 : decode code 472 = .ok (.iconst 2, 1) := dOk_get dq72_9 (i := 24) rfl
theorem dq72_10 : dOk code [(473, .iadd, 1), (474, .iaload, 1), (475, .aload_n 0, 1), (476, .iload_n 3, 1), (477, .iconst 3, 1), (478, .iadd, 1), (479, .iaload, 1), (480, .invokevirtual 48, 3), (483, .pop, 1), (484, .aload_n 2, 1), (485, .aload_n 0, 1), (486, .iload_n 3, 1), (487, .iconst 1, 1), (488, .iadd, 1), (489, .iaload, 1), (490, .aload_n 0, 1), (491, .iload_n 3, 1), (492, .iconst 2, 1), (493, .iadd, 1), (494, .iaload, 1), (495, .aload_n 0, 1), (496, .iload_n 3, 1), (497, .iconst 3, 1), (498, .iadd, 1), (499, .iaload, 1)] = true := by decide +kernel
theorem dL_473 : decode code 473 = .ok (.iadd, 1) := dOk_get dq72_10 (i := 0) rfl
theorem dL_474 : decode code 474 = .ok (.iaload, 1) := dOk_get dq72_10 (i := 1) rfl
theorem dL_475 : decode code 475 = .ok (.aload_n 0, 1) := dOk_get dq72_10 (i := 2) rfl
theorem dL_476 : decode code 476 = .ok (.iload_n 3, 1) := dOk_get dq72_10 (i := 3) rfl
theorem dL_477 : decode code 477 = .ok (.iconst 3, 1) := dOk_get dq72_10 (i := 4) rfl
theorem dL_478 : decode code 478 = .ok (.iadd, 1) := dOk_get dq72_10 (i := 5) rfl
theorem dL_479 : decode code 479 = .ok (.iaload, 1) := dOk_get dq72_10 (i := 6) rfl
theorem dL_480 : decode code 480 = .ok (.invokevirtual 48, 3) := dOk_get dq72_10 (i := 7) rfl
theorem dL_483 : decode code 483 = .ok (.pop, 1) := dOk_get dq72_10 (i := 8) rfl
theorem dL_484 : decode code 484 = .ok (.aload_n 2, 1) := dOk_get dq72_10 (i := 9) rfl
theorem dL_485 : decode code 485 = .ok (.aload_n 0, 1) := dOk_get dq72_10 (i := 10) rfl
theorem dL_486 : decode code 486 = .ok (.iload_n 3, 1) := dOk_get dq72_10 (i := 11) rfl
theorem dL_487 : decode code 487 = .ok (.iconst 1, 1) := dOk_get dq72_10 (i := 12) rfl
theorem dL_488 : decode code 488 = .ok (.iadd, 1) := dOk_get dq72_10 (i := 13) rfl
theorem dL_489 : decode code 489 = .ok (.iaload, 1) := dOk_get dq72_10 (i := 14) rfl
theorem dL_490 : decode code 490 = .ok (.aload_n 0, 1) := dOk_get dq72_10 (i := 15) rfl
theorem dL_491 : decode code 491 = .ok (.iload_n 3, 1) := dOk_get dq72_10 (i := 16) rfl
theorem dL_492 : decode code 492 = .ok (.iconst 2, 1) := dOk_get dq72_10 (i := 17) rfl
theorem dL_493 : decode code 493 = .ok (.iadd, 1) := dOk_get dq72_10 (i := 18) rfl
theorem dL_494 : decode code 494 = .ok (.iaload, 1) := dOk_get dq72_10 (i := 19) rfl
theorem dL_495 : decode code 495 = .ok (.aload_n 0, 1) := dOk_get dq72_10 (i := 20) rfl
theorem dL_496 : decode code 496 = .ok (.iload_n 3, 1) := dOk_get dq72_10 (i := 21) rfl
theorem dL_497 : decode code 497 = .ok (.iconst 3, 1) := dOk_get dq72_10 (i := 22) rfl
theorem dL_498 : decode code 498 = .ok (.iadd, 1) := dOk_get dq72_10 (i := 23) rfl
theorem dL_499 : decode code 499 = .ok (.iaload, 1) := dOk_get dq72_10 (i := 24) rfl
theorem dq72_11 : dOk code [(500, .invokevirtual 51, 3), (503, .pop, 1), (504, .goto 920, 3), (507, .aload_n 1, 1), (508, .aload_n 0, 1), (509, .iload_n 3, 1), (510, .iconst 1, 1), (511, .iadd, 1), (512, .iaload, 1), (513, .invokevirtual 52, 3), (516, .pop, 1), (517, .aload_n 2, 1), (518, .aload_n 0, 1), (519, .iload_n 3, 1), (520, .iconst 1, 1), (521, .iadd, 1), (522, .iaload, 1), (523, .invokevirtual 55, 3), (526, .pop, 1), (527, .goto 897, 3), (530, .aload_n 1, 1), (531, .aload_n 0, 1), (532, .iload_n 3, 1), (533, .iconst 1, 1), (534, .iadd, 1)] = true := by decide +kernel
theorem dL_500 : decode code 500 = .ok (.invokevirtual 51, 3) := dOk_get dq72_11 (i := 0) rfl
theorem dL_503 : decode code 503 = .ok (.pop, 1) := dOk_get dq72_11 (i := 1) rfl
theorem dL_504 : decode code 504 = .ok (.goto 920, 3) := dOk_get dq72_11 (i := 2) rfl
theorem dL_507 : decode code 507 = .ok (.aload_n 1, 1) := dOk_get dq72_11 (i := 3) rfl
theorem dL_508 : decode code 508 = .ok (.aload_n 0, 1) := dOk_get dq72_11 (i := 4) rfl
theorem dL_509 : decode code 509 = .ok (.iload_n 3, 1) := dOk_get dq72_11 (i := 5) rfl
theorem dL_510 : decode code 510 = .ok (.iconst 1, 1) := dOk_get dq72_11 (i := 6) rfl
theorem dL_511 : decode code 511 = .ok (.iadd, 1) := dOk_get dq72_11 (i := 7) rfl
theorem dL_512 : decode code 512 = .ok (.iaload, 1) := dOk_get dq72_11 (i := 8) rfl
theorem dL_513 : decode code 513 = .ok (.invokevirtual 52, 3) := dOk_get dq72_11 (i := 9) rfl
theorem dL_516 : decode code 516 = .ok (.pop, 1) := dOk_get dq72_11 (i := 10) rfl
theorem dL_517 : decode code 517 = .ok (.aload_n 2, 1) := dOk_get dq72_11 (i := 11) rfl
theorem dL_518 : decode code 518 = .ok (.aload_n 0, 1) := dOk_get dq72_11 (i := 12) rfl
theorem dL_519 : decode code 519 = .ok (.iload_n 3, 1) := dOk_get dq72_11 (i := 13) rfl
theorem dL_520 : decode code 520 = .ok (.iconst 1, 1) := dOk_get dq72_11 (i := 14) rfl
theorem dL_521 : decode code 521 = .ok (.iadd, 1) := dOk_get dq72_11 (i := 15) rfl
theorem dL_522 : decode code 522 = .ok (.iaload, 1) := dOk_get dq72_11 (i := 16) rfl
theorem dL_523 : decode code 523 = .ok (.invokevirtual 55, 3) := dOk_get dq72_11 (i := 17) rfl
theorem dL_526 : decode code 526 = .ok (.pop, 1) := dOk_get dq72_11 (i := 18) rfl
theorem dL_527 : decode code 527 = .ok (.goto 897, 3) := dOk_get dq72_11 (i := 19) rfl
theorem dL_530 : decode code 530 = .ok (.aload_n 1, 1) := dOk_get dq72_11 (i := 20) rfl
theorem dL_531 : decode code 531 = .ok (.aload_n 0, 1) := dOk_get dq72_11 (i := 21) rfl
theorem dL_532 : decode code 532 = .ok (.iload_n 3, 1) := dOk_get dq72_11 (i := 22) rfl
theorem dL_533 : decode code 533 = .ok (.iconst 1, 1) := dOk_get dq72_11 (i := 23) rfl
theorem dL_534 : decode code 534 = .ok (.iadd, 1) := dOk_get dq72_11 (i := 24) rfl
theorem dq72_12 : dOk code [(535, .iaload, 1), (536, .i2l, 1), (537, .bipush 32, 2), (539, .lshl, 1), (540, .aload_n 0, 1), (541, .iload_n 3, 1), (542, .iconst 2, 1), (543, .iadd, 1), (544, .iaload, 1), (545, .i2l, 1), (546, .ldc2_w 56, 3), (549, .land, 1), (550, .lor, 1), (551, .aload_n 0, 1), (552, .iload_n 3, 1), (553, .iconst 3, 1), (554, .iadd, 1), (555, .iaload, 1), (556, .invokevirtual 58, 3), (559, .pop, 1), (560, .aload_n 2, 1), (561, .aload_n 0, 1), (562, .iload_n 3, 1), (563, .iconst 1, 1), (564, .iadd, 1)] = true := by decide +kernel
theorem dL_535 : decode code 535 = .ok (.iaload, 1) := dOk_get dq72_12 (i := 0) rfl
theorem dL_536 : decode code 536 = .ok (.i2l, 1) := dOk_get dq72_12 (i := 1) rfl
theorem dL_537 : decode code 537 = .ok (.bipush 32, 2) := dOk_get dq72_12 (i := 2) rfl
theorem dL_539 : decode code 539 = .ok (.lshl, 1) := dOk_get dq72_12 (i := 3) rfl
theorem dL_540 : decode code 540 = .ok (.aload_n 0, 1) := dOk_get dq72_12 (i := 4) rfl
theorem dL_541 : decode code 541 = .ok (.iload_n 3, 1) := dOk_get dq72_12 (i := 5) rfl
theorem dL_542 : decode code 542 = .ok (.iconst 2, 1) := dOk_get dq72_12 (i := 6) rfl
theorem dL_543 : decode code 543 = .ok (.iadd, 1) := dOk_get dq72_12 (i := 7) rfl
theorem dL_544 : decode code 544 = .ok (.iaload, 1) := dOk_get dq72_12 (i := 8) rfl
theorem dL_545 : decode code 545 = .ok (.i2l, 1) := dOk_get dq72_12 (i := 9) rfl
theorem dL_546 : decode code 546 = .ok (.ldc2_w 56, 3) := dOk_get dq72_12 (i := 10) rfl
theorem dL_549 : decode code 549 = .ok (.land, 1) := dOk_get dq72_12 (i := 11) rfl
theorem dL_550 : decode code 550 = .ok (.lor, 1) := dOk_get dq72_12 (i := 12) rfl
theorem dL_551 : decode code 551 = .ok (.aload_n 0, 1) := dOk_get dq72_12 (i := 13) rfl
theorem dL_552 : decode code 552 = .ok (.iload_n 3, 1) := dOk_get dq72_12 (i := 14) rfl
theorem dL_553 : decode code 553 = .ok (.iconst 3, 1) := dOk_get dq72_12 (i := 15) rfl
theorem dL_554 : decode code 554 = .ok (.iadd, 1) := dOk_get dq72_12 (i := 16) rfl
theorem dL_555 : decode code 555 = .ok (.iaload, 1) := dOk_get dq72_12 (i := 17) rfl
theorem dL_556 : decode code 556 = .ok (.invokevirtual 58, 3) := dOk_get dq72_12 (i := 18) rfl
theorem dL_559 : decode code 559 = .ok (.pop, 1) := dOk_get dq72_12 (i := 19) rfl
theorem dL_560 : decode code 560 = .ok (.aload_n 2, 1) := dOk_get dq72_12 (i := 20) rfl
theorem dL_561 : decode code 561 = .ok (.aload_n 0, 1) := dOk_get dq72_12 (i := 21) rfl
theorem dL_562 : decode code 562 = .ok (.iload_n 3, 1) := dOk_get dq72_12 (i := 22) rfl
theorem dL_563 : decode code 563 = .ok (.iconst 1, 1) := dOk_get dq72_12 (i := 23) rfl
theorem dL_564 : decode code 564 = .ok (.iadd, 1) := dOk_get dq72_12 (i := 24) rfl
theorem dq72_13 : dOk code [(565, .iaload, 1), (566, .i2l, 1), (567, .bipush 32, 2), (569, .lshl, 1), (570, .aload_n 0, 1), (571, .iload_n 3, 1), (572, .iconst 2, 1), (573, .iadd, 1), (574, .iaload, 1), (575, .i2l, 1), (576, .ldc2_w 56, 3), (579, .land, 1), (580, .lor, 1), (581, .aload_n 0, 1), (582, .iload_n 3, 1), (583, .iconst 3, 1), (584, .iadd, 1), (585, .iaload, 1), (586, .invokevirtual 62, 3), (589, .pop, 1), (590, .goto 834, 3), (593, .aload_n 1, 1), (594, .aload_n 0, 1), (595, .iload_n 3, 1), (596, .iconst 1, 1)] = true := by decide +kernel
theorem dL_565 : decode code 565 = .ok (.iaload, 1) := dOk_get dq72_13 (i := 0) rfl
theorem dL_566 : decode code 566 = .ok (.i2l, 1) := dOk_get dq72_13 (i := 1) rfl
theorem dL_567 : decode code 567 = .ok (.bipush 32, 2) := dOk_get dq72_13 (i := 2) rfl
theorem dL_569 : decode code 569 = .ok (.lshl, 1) := dOk_get dq72_13 (i := 3) rfl
theorem dL_570 : decode code 570 = .ok (.aload_n 0, 1) := dOk_get dq72_13 (i := 4) rfl
theorem dL_571 : decode code 571 = .ok (.iload_n 3, 1) := dOk_get dq72_13 (i := 5) rfl
theorem dL_572 : decode code 572 = .ok (.iconst 2, 1) := dOk_get dq72_13 (i := 6) rfl
theorem dL_573 : decode code 573 = .ok (.iadd, 1) := dOk_get dq72_13 (i := 7) rfl
theorem dL_574 : decode code 574 = .ok (.iaload, 1) := dOk_get dq72_13 (i := 8) rfl
theorem dL_575 : decode code 575 = .ok (.i2l, 1) := dOk_get dq72_13 (i := 9) rfl
theorem dL_576 : decode code 576 = .ok (.ldc2_w 56, 3) := dOk_get dq72_13 (i := 10) rfl
theorem dL_579 : decode code 579 = .ok (.land, 1) := dOk_get dq72_13 (i := 11) rfl
theorem dL_580 : decode code 580 = .ok (.lor, 1) := dOk_get dq72_13 (i := 12) rfl
theorem dL_581 : decode code 581 = .ok (.aload_n 0, 1) := dOk_get dq72_13 (i := 13) rfl
theorem dL_582 : decode code 582 = .ok (.iload_n 3, 1) := dOk_get dq72_13 (i := 14) rfl
theorem dL_583 : decode code 583 = .ok (.iconst 3, 1) := dOk_get dq72_13 (i := 15) rfl
theorem dL_584 : decode code 584 = .ok (.iadd, 1) := dOk_get dq72_13 (i := 16) rfl
theorem dL_585 : decode code 585 = .ok (.iaload, 1) := dOk_get dq72_13 (i := 17) rfl
theorem dL_586 : decode code 586 = .ok (.invokevirtual 62, 3) := dOk_get dq72_13 (i := 18) rfl
theorem dL_589 : decode code 589 = .ok (.pop, 1) := dOk_get dq72_13 (i := 19) rfl
theorem dL_590 : decode code 590 = .ok (.goto 834, 3) := dOk_get dq72_13 (i := 20) rfl
theorem dL_593 : decode code 593 = .ok (.aload_n 1, 1) := dOk_get dq72_13 (i := 21) rfl
theorem dL_594 : decode code 594 = .ok (.aload_n 0, 1) := dOk_get dq72_13 (i := 22) rfl
theorem dL_595 : decode code 595 = .ok (.iload_n 3, 1) := dOk_get dq72_13 (i := 23) rfl
theorem dL_596 : decode code 596 = .ok (.iconst 1, 1) := dOk_get dq72_13 (i := 24) rfl
theorem dq72_14 : dOk code [(597, .iadd, 1), (598, .iaload, 1), (599, .invokevirtual 63, 3), (602, .pop, 1), (603, .aload_n 2, 1), (604, .aload_n 0, 1), (605, .iload_n 3, 1), (606, .iconst 1, 1), (607, .iadd, 1), (608, .iaload, 1), (609, .invokevirtual 66, 3), (612, .pop, 1), (613, .goto 811, 3), (616, .aload_n 1, 1), (617, .aload_n 0, 1), (618, .iload_n 3, 1), (619, .iconst 1, 1), (620, .iadd, 1), (621, .iaload, 1), (622, .invokevirtual 67, 3), (625, .pop, 1), (626, .aload_n 2, 1), (627, .aload_n 0, 1), (628, .iload_n 3, 1), (629, .iconst 1, 1)] = true := by decide +kernel
theorem dL_597 : decode code 597 = .ok (.iadd, 1) := dOk_get dq72_14 (i := 0) rfl
theorem dL_598 : decode code 598 = .ok (.iaload, 1) := dOk_get dq72_14 (i := 1) rfl
theorem dL_599 : decode code 599 = .ok (.invokevirtual 63, 3) := dOk_get dq72_14 (i := 2) rfl
theorem dL_602 : decode code 602 = .ok (.pop, 1) := dOk_get dq72_14 (i := 3) rfl
theorem dL_603 : decode code 603 = .ok (.aload_n 2, 1) := dOk_get dq72_14 (i := 4) rfl
theorem dL_604 : decode code 604 = .ok (.aload_n 0, 1) := dOk_get dq72_14 (i := 5) rfl
theorem dL_605 : decode code 605 = .ok (.iload_n 3, 1) := dOk_get dq72_14 (i := 6) rfl
theorem dL_606 : decode code 606 = .ok (.iconst 1, 1) := dOk_get dq72_14 (i := 7) rfl
theorem dL_607 : decode code 607 = .ok (.iadd, 1) := dOk_get dq72_14 (i := 8) rfl
theorem dL_608 : decode code 608 = .ok (.iaload, 1) := dOk_get dq72_14 (i := 9) rfl
theorem dL_609 : decode code 609 = .ok (.invokevirtual 66, 3) := dOk_get dq72_14 (i := 10) rfl
theorem dL_612 : decode code 612 = .ok (.pop, 1) := dOk_get dq72_14 (i := 11) rfl
theorem dL_613 : decode code 613 = .ok (.goto 811, 3) := dOk_get dq72_14 (i := 12) rfl
theorem dL_616 : decode code 616 = .ok (.aload_n 1, 1) := dOk_get dq72_14 (i := 13) rfl
theorem dL_617 : decode code 617 = .ok (.aload_n 0, 1) := dOk_get dq72_14 (i := 14) rfl
theorem dL_618 : decode code 618 = .ok (.iload_n 3, 1) := dOk_get dq72_14 (i := 15) rfl
theorem dL_619 : decode code 619 = .ok (.iconst 1, 1) := dOk_get dq72_14 (i := 16) rfl
theorem dL_620 : decode code 620 = .ok (.iadd, 1) := dOk_get dq72_14 (i := 17) rfl
theorem dL_621 : decode code 621 = .ok (.iaload, 1) := dOk_get dq72_14 (i := 18) rfl
theorem dL_622 : decode code 622 = .ok (.invokevirtual 67, 3) := dOk_get dq72_14 (i := 19) rfl
theorem dL_625 : decode code 625 = .ok (.pop, 1) := dOk_get dq72_14 (i := 20) rfl
theorem dL_626 : decode code 626 = .ok (.aload_n 2, 1) := dOk_get dq72_14 (i := 21) rfl
theorem dL_627 : decode code 627 = .ok (.aload_n 0, 1) := dOk_get dq72_14 (i := 22) rfl
theorem dL_628 : decode code 628 = .ok (.iload_n 3, 1) := dOk_get dq72_14 (i := 23) rfl
theorem dL_629 : decode code 629 = .ok (.iconst 1, 1) := dOk_get dq72_14 (i := 24) rfl
theorem dq72_15 : dOk code [(630, .iadd, 1), (631, .iaload, 1), (632, .invokevirtual 70, 3), (635, .pop, 1), (636, .goto 788, 3), (639, .aload_n 1, 1), (640, .aload_n 0, 1), (641, .iload_n 3, 1), (642, .iconst 1, 1), (643, .iadd, 1), (644, .iaload, 1), (645, .aload_n 0, 1), (646, .iload_n 3, 1), (647, .iconst 2, 1), (648, .iadd, 1), (649, .iaload, 1), (650, .invokevirtual 71, 3), (653, .pop, 1), (654, .aload_n 2, 1), (655, .aload_n 0, 1), (656, .iload_n 3, 1), (657, .iconst 1, 1), (658, .iadd, 1), (659, .iaload, 1), (660, .aload_n 0, 1)] = true := by decide +kernel
theorem dL_630 : decode code 630 = .ok (.iadd, 1) := dOk_get dq72_15 (i := 0) rfl
theorem dL_631 : decode code 631 = .ok (.iaload, 1) := dOk_get dq72_15 (i := 1) rfl
theorem dL_632 : decode code 632 = .ok (.invokevirtual 70, 3) := dOk_get dq72_15 (i := 2) rfl
theorem dL_635 : decode code 635 = .ok (.pop, 1) := dOk_get dq72_15 (i := 3) rfl
theorem dL_636 : decode code 636 = .ok (.goto 788, 3) := dOk_get dq72_15 (i := 4) rfl
theorem dL_639 : decode code 639 = .ok (.aload_n 1, 1) := dOk_get dq72_15 (i := 5) rfl
theorem dL_640 : decode code 640 = .ok (.aload_n 0, 1) := dOk_get dq72_15 (i := 6) rfl
theorem dL_641 : decode code 641 = .ok (.iload_n 3, 1) := dOk_get dq72_15 (i := 7) rfl
theorem dL_642 : decode code 642 = .ok (.iconst 1, 1) := dOk_get dq72_15 (i := 8) rfl
theorem dL_643 : decode code 643 = .ok (.iadd, 1) := dOk_get dq72_15 (i := 9) rfl
theorem dL_644 : decode code 644 = .ok (.iaload, 1) := dOk_get dq72_15 (i := 10) rfl
theorem dL_645 : decode code 645 = .ok (.aload_n 0, 1) := dOk_get dq72_15 (i := 11) rfl
theorem dL_646 : decode code 646 = .ok (.iload_n 3, 1) := dOk_get dq72_15 (i := 12) rfl
theorem dL_647 : decode code 647 = .ok (.iconst 2, 1) := dOk_get dq72_15 (i := 13) rfl
theorem dL_648 : decode code 648 = .ok (.iadd, 1) := dOk_get dq72_15 (i := 14) rfl
theorem dL_649 : decode code 649 = .ok (.iaload, 1) := dOk_get dq72_15 (i := 15) rfl
theorem dL_650 : decode code 650 = .ok (.invokevirtual 71, 3) := dOk_get dq72_15 (i := 16) rfl
theorem dL_653 : decode code 653 = .ok (.pop, 1) := dOk_get dq72_15 (i := 17) rfl
theorem dL_654 : decode code 654 = .ok (.aload_n 2, 1) := dOk_get dq72_15 (i := 18) rfl
theorem dL_655 : decode code 655 = .ok (.aload_n 0, 1) := dOk_get dq72_15 (i := 19) rfl
theorem dL_656 : decode code 656 = .ok (.iload_n 3, 1) := dOk_get dq72_15 (i := 20) rfl
theorem dL_657 : decode code 657 = .ok (.iconst 1, 1) := dOk_get dq72_15 (i := 21) rfl
theorem dL_658 : decode code 658 = .ok (.iadd, 1) := dOk_get dq72_15 (i := 22) rfl
theorem dL_659 : decode code 659 = .ok (.iaload, 1) := dOk_get dq72_15 (i := 23) rfl
theorem dL_660 : decode code 660 = .ok (.aload_n 0, 1) := dOk_get dq72_15 (i := 24) rfl
theorem dq72_16 : dOk code [(661, .iload_n 3, 1), (662, .iconst 2, 1), (663, .iadd, 1), (664, .iaload, 1), (665, .invokevirtual 74, 3), (668, .pop, 1), (669, .goto 755, 3), (672, .aload_n 1, 1), (673, .aload_n 0, 1), (674, .iload_n 3, 1), (675, .iconst 1, 1), (676, .iadd, 1), (677, .iaload, 1), (678, .aload_n 0, 1), (679, .iload_n 3, 1), (680, .iconst 2, 1), (681, .iadd, 1), (682, .iaload, 1), (683, .invokevirtual 75, 3), (686, .pop, 1), (687, .aload_n 2, 1), (688, .aload_n 0, 1), (689, .iload_n 3, 1), (690, .iconst 1, 1), (691, .iadd, 1)] = true := by decide +kernel
theorem dL_661 : decode code 661 = .ok (.iload_n 3, 1) := dOk_get dq72_16 (i := 0) rfl
theorem dL_662 : decode code 662 = .ok (.iconst 2, 1) := dOk_get dq72_16 (i := 1) rfl
theorem dL_663 : decode code 663 = .ok (.iadd, 1) := dOk_get dq72_16 (i := 2) rfl
theorem dL_664 : decode code 664 = .ok (.iaload, 1) := dOk_get dq72_16 (i := 3) rfl
theorem dL_665 : decode code 665 = .ok (.invokevirtual 74, 3) := dOk_get dq72_16 (i := 4) rfl
theorem dL_668 : decode code 668 = .ok (.pop, 1) := dOk_get dq72_16 (i := 5) rfl
theorem dL_669 : decode code 669 = .ok (.goto 755, 3) := dOk_get dq72_16 (i := 6) rfl
theorem dL_672 : decode code 672 = .ok (.aload_n 1, 1) := dOk_get dq72_16 (i := 7) rfl
theorem dL_673 : decode code 673 = .ok (.aload_n 0, 1) := dOk_get dq72_16 (i := 8) rfl
theorem dL_674 : decode code 674 = .ok (.iload_n 3, 1) := dOk_get dq72_16 (i := 9) rfl
theorem dL_675 : decode code 675 = .ok (.iconst 1, 1) := dOk_get dq72_16 (i := 10) rfl
theorem dL_676 : decode code 676 = .ok (.iadd, 1) := dOk_get dq72_16 (i := 11) rfl
theorem dL_677 : decode code 677 = .ok (.iaload, 1) := dOk_get dq72_16 (i := 12) rfl
theorem dL_678 : decode code 678 = .ok (.aload_n 0, 1) := dOk_get dq72_16 (i := 13) rfl
theorem dL_679 : decode code 679 = .ok (.iload_n 3, 1) := dOk_get dq72_16 (i := 14) rfl
theorem dL_680 : decode code 680 = .ok (.iconst 2, 1) := dOk_get dq72_16 (i := 15) rfl
theorem dL_681 : decode code 681 = .ok (.iadd, 1) := dOk_get dq72_16 (i := 16) rfl
theorem dL_682 : decode code 682 = .ok (.iaload, 1) := dOk_get dq72_16 (i := 17) rfl
theorem dL_683 : decode code 683 = .ok (.invokevirtual 75, 3) := dOk_get dq72_16 (i := 18) rfl
theorem dL_686 : decode code 686 = .ok (.pop, 1) := dOk_get dq72_16 (i := 19) rfl
theorem dL_687 : decode code 687 = .ok (.aload_n 2, 1) := dOk_get dq72_16 (i := 20) rfl
theorem dL_688 : decode code 688 = .ok (.aload_n 0, 1) := dOk_get dq72_16 (i := 21) rfl
theorem dL_689 : decode code 689 = .ok (.iload_n 3, 1) := dOk_get dq72_16 (i := 22) rfl
theorem dL_690 : decode code 690 = .ok (.iconst 1, 1) := dOk_get dq72_16 (i := 23) rfl
theorem dL_691 : decode code 691 = .ok (.iadd, 1) := dOk_get dq72_16 (i := 24) rfl
theorem dq72_17 : dOk code [(692, .iaload, 1), (693, .aload_n 0, 1), (694, .iload_n 3, 1), (695, .iconst 2, 1), (696, .iadd, 1), (697, .iaload, 1), (698, .invokevirtual 78, 3), (701, .pop, 1), (702, .goto 722, 3), (705, .aload_n 1, 1), (706, .aload_n 0, 1), (707, .iload_n 3, 1), (708, .iconst 1, 1), (709, .iadd, 1), (710, .iaload, 1), (711, .aload_n 0, 1), (712, .iload_n 3, 1), (713, .iconst 2, 1), (714, .iadd, 1), (715, .iaload, 1), (716, .invokevirtual 79, 3), (719, .pop, 1), (720, .aload_n 2, 1), (721, .aload_n 0, 1), (722, .iload_n 3, 1)] = true := by decide +kernel
theorem dL_692 : decode code 692 = .ok (.iaload, 1) := dOk_get dq72_17 (i := 0) rfl
theorem dL_693 : decode code 693 = .ok (.aload_n 0, 1) := dOk_get dq72_17 (i := 1) rfl
theorem dL_694 : decode code 694 = .ok (.iload_n 3, 1) := dOk_get dq72_17 (i := 2) rfl
theorem dL_695 : decode code 695 = .ok (.iconst 2, 1) := dOk_get dq72_17 (i := 3) rfl
theorem dL_696 : decode code 696 = .ok (.iadd, 1) := dOk_get dq72_17 (i := 4) rfl
theorem dL_697 : decode code 697 = .ok (.iaload, 1) := dOk_get dq72_17 (i := 5) rfl
theorem dL_698 : decode code 698 = .ok (.invokevirtual 78, 3) := dOk_get dq72_17 (i := 6) rfl
theorem dL_701 : decode code 701 = .ok (.pop, 1) := dOk_get dq72_17 (i := 7) rfl
theorem dL_702 : decode code 702 = .ok (.goto 722, 3) := dOk_get dq72_17 (i := 8) rfl
theorem dL_705 : decode code 705 = .ok (.aload_n 1, 1) := dOk_get dq72_17 (i := 9) rfl
theorem dL_706 : decode code 706 = .ok (.aload_n 0, 1) := dOk_get dq72_17 (i := 10) rfl
theorem dL_707 : decode code 707 = .ok (.iload_n 3, 1) := dOk_get dq72_17 (i := 11) rfl
theorem dL_708 : decode code 708 = .ok (.iconst 1, 1) := dOk_get dq72_17 (i := 12) rfl
theorem dL_709 : decode code 709 = .ok (.iadd, 1) := dOk_get dq72_17 (i := 13) rfl
theorem dL_710 : decode code 710 = .ok (.iaload, 1) := dOk_get dq72_17 (i := 14) rfl
theorem dL_711 : decode code 711 = .ok (.aload_n 0, 1) := dOk_get dq72_17 (i := 15) rfl
theorem dL_712 : decode code 712 = .ok (.iload_n 3, 1) := dOk_get dq72_17 (i := 16) rfl
theorem dL_713 : decode code 713 = .ok (.iconst 2, 1) := dOk_get dq72_17 (i := 17) rfl
theorem dL_714 : decode code 714 = .ok (.iadd, 1) := dOk_get dq72_17 (i := 18) rfl
theorem dL_715 : decode code 715 = .ok (.iaload, 1) := dOk_get dq72_17 (i := 19) rfl
theorem dL_716 : decode code 716 = .ok (.invokevirtual 79, 3) := dOk_get dq72_17 (i := 20) rfl
theorem dL_719 : decode code 719 = .ok (.pop, 1) := dOk_get dq72_17 (i := 21) rfl
theorem dL_720 : decode code 720 = .ok (.aload_n 2, 1) := dOk_get dq72_17 (i := 22) rfl
theorem dL_721 : decode code 721 = .ok (.aload_n 0, 1) := dOk_get dq72_17 (i := 23) rfl
theorem dL_722 : decode code 722 = .ok (.iload_n 3, 1) := dOk_get dq72_17 (i := 24) rfl
theorem dq72_18 : dOk code [(723, .iconst 1, 1), (724, .iadd, 1), (725, .iaload, 1), (726, .aload_n 0, 1), (727, .iload_n 3, 1), (728, .iconst 2, 1), (729, .iadd, 1), (730, .iaload, 1), (731, .invokevirtual 82, 3), (734, .pop, 1), (735, .goto 689, 3), (738, .aload_n 1, 1), (739, .aload_n 0, 1), (740, .iload_n 3, 1), (741, .iconst 1, 1), (742, .iadd, 1), (743, .iaload, 1), (744, .aload_n 0, 1), (745, .iload_n 3, 1), (746, .iconst 2, 1), (747, .iadd, 1), (748, .iaload, 1), (749, .invokevirtual 83, 3), (752, .pop, 1), (753, .aload_n 2, 1)] = true := by decide +kernel
theorem dL_723 : decode code 723 = .ok (.iconst 1, 1) := dOk_get dq72_18 (i := 0) rfl
theorem dL_724 : decode code 724 = .ok (.iadd, 1) := dOk_get dq72_18 (i := 1) rfl
theorem dL_725 : decode code 725 = .ok (.iaload, 1) := dOk_get dq72_18 (i := 2) rfl
theorem dL_726 : decode code 726 = .ok (.aload_n 0, 1) := dOk_get dq72_18 (i := 3) rfl
theorem dL_727 : decode code 727 = .ok (.iload_n 3, 1) := dOk_get dq72_18 (i := 4) rfl
theorem dL_728 : decode code 728 = .ok (.iconst 2, 1) := dOk_get dq72_18 (i := 5) rfl
theorem dL_729 : decode code 729 = .ok (.iadd, 1) := dOk_get dq72_18 (i := 6) rfl
theorem dL_730 : decode code 730 = .ok (.iaload, 1) := dOk_get dq72_18 (i := 7) rfl
theorem dL_731 : decode code 731 = .ok (.invokevirtual 82, 3) := dOk_get dq72_18 (i := 8) rfl
theorem dL_734 : decode code 734 = .ok (.pop, 1) := dOk_get dq72_18 (i := 9) rfl
theorem dL_735 : decode code 735 = .ok (.goto 689, 3) := dOk_get dq72_18 (i := 10) rfl
theorem dL_738 : decode code 738 = .ok (.aload_n 1, 1) := dOk_get dq72_18 (i := 11) rfl
theorem dL_739 : decode code 739 = .ok (.aload_n 0, 1) := dOk_get dq72_18 (i := 12) rfl
theorem dL_740 : decode code 740 = .ok (.iload_n 3, 1) := dOk_get dq72_18 (i := 13) rfl
theorem dL_741 : decode code 741 = .ok (.iconst 1, 1) := dOk_get dq72_18 (i := 14) rfl
theorem dL_742 : decode code 742 = .ok (.iadd, 1) := dOk_get dq72_18 (i := 15) rfl
theorem dL_743 : decode code 743 = .ok (.iaload, 1) := dOk_get dq72_18 (i := 16) rfl
theorem dL_744 : decode code 744 = .ok (.aload_n 0, 1) := dOk_get dq72_18 (i := 17) rfl
theorem dL_745 : decode code 745 = .ok (.iload_n 3, 1) := dOk_get dq72_18 (i := 18) rfl
theorem dL_746 : decode code 746 = .ok (.iconst 2, 1) := dOk_get dq72_18 (i := 19) rfl
theorem dL_747 : decode code 747 = .ok (.iadd, 1) := dOk_get dq72_18 (i := 20) rfl
theorem dL_748 : decode code 748 = .ok (.iaload, 1) := dOk_get dq72_18 (i := 21) rfl
theorem dL_749 : decode code 749 = .ok (.invokevirtual 83, 3) := dOk_get dq72_18 (i := 22) rfl
theorem dL_752 : decode code 752 = .ok (.pop, 1) := dOk_get dq72_18 (i := 23) rfl
theorem dL_753 : decode code 753 = .ok (.aload_n 2, 1) := dOk_get dq72_18 (i := 24) rfl
theorem dq72_19 : dOk code [(754, .aload_n 0, 1), (755, .iload_n 3, 1), (756, .iconst 1, 1), (757, .iadd, 1), (758, .iaload, 1), (759, .aload_n 0, 1), (760, .iload_n 3, 1), (761, .iconst 2, 1), (762, .iadd, 1), (763, .iaload, 1), (764, .invokevirtual 86, 3), (767, .pop, 1), (768, .goto 656, 3), (771, .aload_n 1, 1), (772, .aload_n 0, 1), (773, .iload_n 3, 1), (774, .iconst 1, 1), (775, .iadd, 1), (776, .iaload, 1), (777, .aload_n 0, 1), (778, .iload_n 3, 1), (779, .iconst 2, 1), (780, .iadd, 1), (781, .iaload, 1), (782, .aload_n 0, 1)] = true := by decide +kernel
theorem dL_754 : decode code 754 = .ok (.aload_n 0, 1) := dOk_get dq72_19 (i := 0) rfl
theorem dL_755 : decode code 755 = .ok (.iload_n 3, 1) := dOk_get dq72_19 (i := 1) rfl
theorem dL_756 : decode code 756 = .ok (.iconst 1, 1) := dOk_get dq72_19 (i := 2) rfl
theorem dL_757 : decode code 757 = .ok (.iadd, 1) := dOk_get dq72_19 (i := 3) rfl
theorem dL_758 : decode code 758 = .ok (.iaload, 1) := dOk_get dq72_19 (i := 4) rfl
theorem dL_759 : decode code 759 = .ok (.aload_n 0, 1) := dOk_get dq72_19 (i := 5) rfl
theorem dL_760 : decode code 760 = .ok (.iload_n 3, 1) := dOk_get dq72_19 (i := 6) rfl
theorem dL_761 : decode code 761 = .ok (.iconst 2, 1) := dOk_get dq72_19 (i := 7) rfl
theorem dL_762 : decode code 762 = .ok (.iadd, 1) := dOk_get dq72_19 (i := 8) rfl
theorem dL_763 : decode code 763 = .ok (.iaload, 1) := dOk_get dq72_19 (i := 9) rfl
theorem dL_764 : decode code 764 = .ok (.invokevirtual 86, 3) := dOk_get dq72_19 (i := 10) rfl
theorem dL_767 : decode code 767 = .ok (.pop, 1) := dOk_get dq72_19 (i := 11) rfl
theorem dL_768 : decode code 768 = .ok (.goto 656, 3) := dOk_get dq72_19 (i := 12) rfl
theorem dL_771 : decode code 771 = .ok (.aload_n 1, 1) := dOk_get dq72_19 (i := 13) rfl
theorem dL_772 : decode code 772 = .ok (.aload_n 0, 1) := dOk_get dq72_19 (i := 14) rfl
theorem dL_773 : decode code 773 = .ok (.iload_n 3, 1) := dOk_get dq72_19 (i := 15) rfl
theorem dL_774 : decode code 774 = .ok (.iconst 1, 1) := dOk_get dq72_19 (i := 16) rfl
theorem dL_775 : decode code 775 = .ok (.iadd, 1) := dOk_get dq72_19 (i := 17) rfl
theorem dL_776 : decode code 776 = .ok (.iaload, 1) := dOk_get dq72_19 (i := 18) rfl
theorem dL_777 : decode code 777 = .ok (.aload_n 0, 1) := dOk_get dq72_19 (i := 19) rfl
theorem dL_778 : decode code 778 = .ok (.iload_n 3, 1) := dOk_get dq72_19 (i := 20) rfl
theorem dL_779 : decode code 779 = .ok (.iconst 2, 1) := dOk_get dq72_19 (i := 21) rfl
theorem dL_780 : decode code 780 = .ok (.iadd, 1) := dOk_get dq72_19 (i := 22) rfl
theorem dL_781 : decode code 781 = .ok (.iaload, 1) := dOk_get dq72_19 (i := 23) rfl
theorem dL_782 : decode code 782 = .ok (.aload_n 0, 1) := dOk_get dq72_19 (i := 24) rfl
theorem dq72_20 : dOk code [(783, .iload_n 3, 1), (784, .iconst 3, 1), (785, .iadd, 1), (786, .iaload, 1), (787, .invokevirtual 87, 3), (790, .pop, 1), (791, .aload_n 2, 1), (792, .aload_n 0, 1), (793, .iload_n 3, 1), (794, .iconst 1, 1), (795, .iadd, 1), (796, .iaload, 1), (797, .aload_n 0, 1), (798, .iload_n 3, 1), (799, .iconst 2, 1), (800, .iadd, 1), (801, .iaload, 1), (802, .aload_n 0, 1), (803, .iload_n 3, 1), (804, .iconst 3, 1), (805, .iadd, 1), (806, .iaload, 1), (807, .invokevirtual 90, 3), (810, .pop, 1), (811, .goto 613, 3)] = true := by decide +kernel
theorem dL_783 : decode code 783 = .ok (.iload_n 3, 1) := dOk_get dq72_20 (i := 0) rfl
theorem dL_784 : decode code 784 = .ok (.iconst 3, 1) := dOk_get dq72_20 (i := 1) rfl
theorem dL_785 : decode code 785 = .ok (.iadd, 1) := dOk_get dq72_20 (i := 2) rfl
theorem dL_786 : decode code 786 = .ok (.iaload, 1) := dOk_get dq72_20 (i := 3) rfl
theorem dL_787 : decode code 787 = .ok (.invokevirtual 87, 3) := dOk_get dq72_20 (i := 4) rfl
theorem dL_790 : decode code 790 = .ok (.pop, 1) := dOk_get dq72_20 (i := 5) rfl
theorem dL_791 : decode code 791 = .ok (.aload_n 2, 1) := dOk_get dq72_20 (i := 6) rfl
theorem dL_792 : decode code 792 = .ok (.aload_n 0, 1) := dOk_get dq72_20 (i := 7) rfl
theorem dL_793 : decode code 793 = .ok (.iload_n 3, 1) := dOk_get dq72_20 (i := 8) rfl
theorem dL_794 : decode code 794 = .ok (.iconst 1, 1) := dOk_get dq72_20 (i := 9) rfl
theorem dL_795 : decode code 795 = .ok (.iadd, 1) := dOk_get dq72_20 (i := 10) rfl
theorem dL_796 : decode code 796 = .ok (.iaload, 1) := dOk_get dq72_20 (i := 11) rfl
theorem dL_797 : decode code 797 = .ok (.aload_n 0, 1) := dOk_get dq72_20 (i := 12) rfl
theorem dL_798 : decode code 798 = .ok (.iload_n 3, 1) := dOk_get dq72_20 (i := 13) rfl
theorem dL_799 : decode code 799 = .ok (.iconst 2, 1) := dOk_get dq72_20 (i := 14) rfl
theorem dL_800 : decode code 800 = .ok (.iadd, 1) := dOk_get dq72_20 (i := 15) rfl
theorem dL_801 : decode code 801 = .ok (.iaload, 1) := dOk_get dq72_20 (i := 16) rfl
theorem dL_802 : decode code 802 = .ok (.aload_n 0, 1) := dOk_get dq72_20 (i := 17) rfl
theorem dL_803 : decode code 803 = .ok (.iload_n 3, 1) := dOk_get dq72_20 (i := 18) rfl
theorem dL_804 : decode code 804 = .ok (.iconst 3, 1) := dOk_get dq72_20 (i := 19) rfl
theorem dL_805 : decode code 805 = .ok (.iadd, 1) := dOk_get dq72_20 (i := 20) rfl
theorem dL_806 : decode code 806 = .ok (.iaload, 1) := dOk_get dq72_20 (i := 21) rfl
theorem dL_807 : decode code 807 = .ok (.invokevirtual 90, 3) := dOk_get dq72_20 (i := 22) rfl
theorem dL_810 : decode code 810 = .ok (.pop, 1) := dOk_get dq72_20 (i := 23) rfl
theorem dL_811 : decode code 811 = .ok (.goto 613, 3) := dOk_get dq72_20 (i := 24) rfl
theorem dq72_21 : dOk code [(814, .aload_n 1, 1), (815, .aload_n 0, 1), (816, .iload_n 3, 1), (817, .iconst 1, 1), (818, .iadd, 1), (819, .iaload, 1), (820, .aload_n 0, 1), (821, .iload_n 3, 1), (822, .iconst 2, 1), (823, .iadd, 1), (824, .iaload, 1), (825, .aload_n 0, 1), (826, .iload_n 3, 1), (827, .iconst 3, 1), (828, .iadd, 1), (829, .iaload, 1), (830, .invokevirtual 91, 3), (833, .pop, 1), (834, .aload_n 2, 1), (835, .aload_n 0, 1), (836, .iload_n 3, 1), (837, .iconst 1, 1), (838, .iadd, 1), (839, .iaload, 1), (840, .aload_n 0, 1)] = true := by decide +kernel
theorem dL_814 : decode code 814 = .ok (.aload_n 1, 1) := dOk_get dq72_21 (i := 0) rfl
theorem dL_815 : decode code 815 = .ok (.aload_n 0, 1) := dOk_get dq72_21 (i := 1) rfl
theorem dL_816 : decode code 816 = .ok (.iload_n 3, 1) := dOk_get dq72_21 (i := 2) rfl
theorem dL_817 : decode code 817 = .ok (.iconst 1, 1) := dOk_get dq72_21 (i := 3) rfl
theorem dL_818 : decode code 818 = .ok (.iadd, 1) := dOk_get dq72_21 (i := 4) rfl
theorem dL_819 : decode code 819 = .ok (.iaload, 1) := dOk_get dq72_21 (i := 5) rfl
theorem dL_820 : decode code 820 = .ok (.aload_n 0, 1) := dOk_get dq72_21 (i := 6) rfl
theorem dL_821 : decode code 821 = .ok (.iload_n 3, 1) := dOk_get dq72_21 (i := 7) rfl
theorem dL_822 : decode code 822 = .ok (.iconst 2, 1) := dOk_get dq72_21 (i := 8) rfl
theorem dL_823 : decode code 823 = .ok (.iadd, 1) := dOk_get dq72_21 (i := 9) rfl
theorem dL_824 : decode code 824 = .ok (.iaload, 1) := dOk_get dq72_21 (i := 10) rfl
theorem dL_825 : decode code 825 = .ok (.aload_n 0, 1) := dOk_get dq72_21 (i := 11) rfl
theorem dL_826 : decode code 826 = .ok (.iload_n 3, 1) := dOk_get dq72_21 (i := 12) rfl
theorem dL_827 : decode code 827 = .ok (.iconst 3, 1) := dOk_get dq72_21 (i := 13) rfl
theorem dL_828 : decode code 828 = .ok (.iadd, 1) := dOk_get dq72_21 (i := 14) rfl
theorem dL_829 : decode code 829 = .ok (.iaload, 1) := dOk_get dq72_21 (i := 15) rfl
theorem dL_830 : decode code 830 = .ok (.invokevirtual 91, 3) := dOk_get dq72_21 (i := 16) rfl
theorem dL_833 : decode code 833 = .ok (.pop, 1) := dOk_get dq72_21 (i := 17) rfl
theorem dL_834 : decode code 834 = .ok (.aload_n 2, 1) := dOk_get dq72_21 (i := 18) rfl
theorem dL_835 : decode code 835 = .ok (.aload_n 0, 1) := dOk_get dq72_21 (i := 19) rfl
theorem dL_836 : decode code 836 = .ok (.iload_n 3, 1) := dOk_get dq72_21 (i := 20) rfl
theorem dL_837 : decode code 837 = .ok (.iconst 1, 1) := dOk_get dq72_21 (i := 21) rfl
theorem dL_838 : decode code 838 = .ok (.iadd, 1) := dOk_get dq72_21 (i := 22) rfl
theorem dL_839 : decode code 839 = .ok (.iaload, 1) := dOk_get dq72_21 (i := 23) rfl
theorem dL_840 : decode code 840 = .ok (.aload_n 0, 1) := dOk_get dq72_21 (i := 24) rfl
theorem dq72_22 : dOk code [(841, .iload_n 3, 1), (842, .iconst 2, 1), (843, .iadd, 1), (844, .iaload, 1), (845, .aload_n 0, 1), (846, .iload_n 3, 1), (847, .iconst 3, 1), (848, .iadd, 1), (849, .iaload, 1), (850, .invokevirtual 94, 3), (853, .pop, 1), (854, .goto 570, 3), (857, .aload_n 1, 1), (858, .aload_n 0, 1), (859, .iload_n 3, 1), (860, .iconst 1, 1), (861, .iadd, 1), (862, .iaload, 1), (863, .invokevirtual 95, 3), (866, .pop, 1), (867, .aload_n 2, 1), (868, .aload_n 0, 1), (869, .iload_n 3, 1), (870, .iconst 1, 1), (871, .iadd, 1)] = true := by decide +kernel
theorem dL_841 : decode code 841 = .ok (.iload_n 3, 1) := dOk_get dq72_22 (i := 0) rfl
theorem dL_842 : decode code 842 = .ok (.iconst 2, 1) := dOk_get dq72_22 (i := 1) rfl
theorem dL_843 : decode code 843 = .ok (.iadd, 1) := dOk_get dq72_22 (i := 2) rfl
theorem dL_844 : decode code 844 = .ok (.iaload, 1) := dOk_get dq72_22 (i := 3) rfl
theorem dL_845 : decode code 845 = .ok (.aload_n 0, 1) := dOk_get dq72_22 (i := 4) rfl
theorem dL_846 : decode code 846 = .ok (.iload_n 3, 1) := dOk_get dq72_22 (i := 5) rfl
theorem dL_847 : decode code 847 = .ok (.iconst 3, 1) := dOk_get dq72_22 (i := 6) rfl
theorem dL_848 : decode code 848 = .ok (.iadd, 1) := dOk_get dq72_22 (i := 7) rfl
theorem dL_849 : decode code 849 = .ok (.iaload, 1) := dOk_get dq72_22 (i := 8) rfl
theorem dL_850 : decode code 850 = .ok (.invokevirtual 94, 3) := dOk_get dq72_22 (i := 9) rfl
theorem dL_853 : decode code 853 = .ok (.pop, 1) := dOk_get dq72_22 (i := 10) rfl
theorem dL_854 : decode code 854 = .ok (.goto 570, 3) := dOk_get dq72_22 (i := 11) rfl
theorem dL_857 : decode code 857 = .ok (.aload_n 1, 1) := dOk_get dq72_22 (i := 12) rfl
theorem dL_858 : decode code 858 = .ok (.aload_n 0, 1) := dOk_get dq72_22 (i := 13) rfl
theorem dL_859 : decode code 859 = .ok (.iload_n 3, 1) := dOk_get dq72_22 (i := 14) rfl
theorem dL_860 : decode code 860 = .ok (.iconst 1, 1) := dOk_get dq72_22 (i := 15) rfl
theorem dL_861 : decode code 861 = .ok (.iadd, 1) := dOk_get dq72_22 (i := 16) rfl
theorem dL_862 : decode code 862 = .ok (.iaload, 1) := dOk_get dq72_22 (i := 17) rfl
theorem dL_863 : decode code 863 = .ok (.invokevirtual 95, 3) := dOk_get dq72_22 (i := 18) rfl
theorem dL_866 : decode code 866 = .ok (.pop, 1) := dOk_get dq72_22 (i := 19) rfl
theorem dL_867 : decode code 867 = .ok (.aload_n 2, 1) := dOk_get dq72_22 (i := 20) rfl
theorem dL_868 : decode code 868 = .ok (.aload_n 0, 1) := dOk_get dq72_22 (i := 21) rfl
theorem dL_869 : decode code 869 = .ok (.iload_n 3, 1) := dOk_get dq72_22 (i := 22) rfl
theorem dL_870 : decode code 870 = .ok (.iconst 1, 1) := dOk_get dq72_22 (i := 23) rfl
theorem dL_871 : decode code 871 = .ok (.iadd, 1) := dOk_get dq72_22 (i := 24) rfl
theorem dq72_23 : dOk code [(872, .iaload, 1), (873, .invokevirtual 98, 3), (876, .pop, 1), (877, .goto 547, 3), (880, .aload_n 1, 1), (881, .aload_n 0, 1), (882, .iload_n 3, 1), (883, .iconst 1, 1), (884, .iadd, 1), (885, .iaload, 1), (886, .aload_n 0, 1), (887, .iload_n 3, 1), (888, .iconst 2, 1), (889, .iadd, 1), (890, .iaload, 1), (891, .aload_n 0, 1), (892, .iload_n 3, 1), (893, .iconst 3, 1), (894, .iadd, 1), (895, .iaload, 1), (896, .invokevirtual 99, 3), (899, .pop, 1), (900, .aload_n 2, 1), (901, .aload_n 0, 1), (902, .iload_n 3, 1)] = true := by decide +kernel
theorem dL_872 : decode code 872 = .ok (.iaload, 1) := dOk_get dq72_23 (i := 0) rfl
theorem dL_873 : decode code 873 = .ok (.invokevirtual 98, 3) := dOk_get dq72_23 (i := 1) rfl
theorem dL_876 : decode code 876 = .ok (.pop, 1) := dOk_get dq72_23 (i := 2) rfl
theorem dL_877 : decode code 877 = .ok (.goto 547, 3) := dOk_get dq72_23 (i := 3) rfl
theorem dL_880 : decode code 880 = .ok (.aload_n 1, 1) := dOk_get dq72_23 (i := 4) rfl
theorem dL_881 : decode code 881 = .ok (.aload_n 0, 1) := dOk_get dq72_23 (i := 5) rfl
theorem dL_882 : decode code 882 = .ok (.iload_n 3, 1) := dOk_get dq72_23 (i := 6) rfl
theorem dL_883 : decode code 883 = .ok (.iconst 1, 1) := dOk_get dq72_23 (i := 7) rfl
theorem dL_884 : decode code 884 = .ok (.iadd, 1) := dOk_get dq72_23 (i := 8) rfl
theorem dL_885 : decode code 885 = .ok (.iaload, 1) := dOk_get dq72_23 (i := 9) rfl
theorem dL_886 : decode code 886 = .ok (.aload_n 0, 1) := dOk_get dq72_23 (i := 10) rfl
theorem dL_887 : decode code 887 = .ok (.iload_n 3, 1) := dOk_get dq72_23 (i := 11) rfl
theorem dL_888 : decode code 888 = .ok (.iconst 2, 1) := dOk_get dq72_23 (i := 12) rfl
theorem dL_889 : decode code 889 = .ok (.iadd, 1) := dOk_get dq72_23 (i := 13) rfl
theorem dL_890 : decode code 890 = .ok (.iaload, 1) := dOk_get dq72_23 (i := 14) rfl
theorem dL_891 : decode code 891 = .ok (.aload_n 0, 1) := dOk_get dq72_23 (i := 15) rfl
theorem dL_892 : decode code 892 = .ok (.iload_n 3, 1) := dOk_get dq72_23 (i := 16) rfl
theorem dL_893 : decode code 893 = .ok (.iconst 3, 1) := dOk_get dq72_23 (i := 17) rfl
theorem dL_894 : decode code 894 = .ok (.iadd, 1) := dOk_get dq72_23 (i := 18) rfl
theorem dL_895 : decode code 895 = .ok (.iaload, 1) := dOk_get dq72_23 (i := 19) rfl
theorem dL_896 : decode code 896 = .ok (.invokevirtual 99, 3) := dOk_get dq72_23 (i := 20) rfl
theorem dL_899 : decode code 899 = .ok (.pop, 1) := dOk_get dq72_23 (i := 21) rfl
theorem dL_900 : decode code 900 = .ok (.aload_n 2, 1) := dOk_get dq72_23 (i := 22) rfl
theorem dL_901 : decode code 901 = .ok (.aload_n 0, 1) := dOk_get dq72_23 (i := 23) rfl
theorem dL_902 : decode code 902 = .ok (.iload_n 3, 1) := dOk_get dq72_23 (i := 24) rfl
theorem dq72_24 : dOk code [(903, .iconst 1, 1), (904, .iadd, 1), (905, .iaload, 1), (906, .aload_n 0, 1), (907, .iload_n 3, 1), (908, .iconst 2, 1), (909, .iadd, 1), (910, .iaload, 1), (911, .aload_n 0, 1), (912, .iload_n 3, 1), (913, .iconst 3, 1), (914, .iadd, 1), (915, .iaload, 1), (916, .invokevirtual 102, 3), (919, .pop, 1), (920, .goto 504, 3), (923, .aload_n 1, 1), (924, .aload_n 0, 1), (925, .iload_n 3, 1), (926, .iconst 1, 1), (927, .iadd, 1), (928, .iaload, 1), (929, .invokevirtual 103, 3), (932, .pop, 1), (933, .aload_n 2, 1)] = true := by decide +kernel
theorem dL_903 : decode code 903 = .ok (.iconst 1, 1) := dOk_get dq72_24 (i := 0) rfl
theorem dL_904 : decode code 904 = .ok (.iadd, 1) := dOk_get dq72_24 (i := 1) rfl
theorem dL_905 : decode code 905 = .ok (.iaload, 1) := dOk_get dq72_24 (i := 2) rfl
theorem dL_906 : decode code 906 = .ok (.aload_n 0, 1) := dOk_get dq72_24 (i := 3) rfl
theorem dL_907 : decode code 907 = .ok (.iload_n 3, 1) := dOk_get dq72_24 (i := 4) rfl
theorem dL_908 : decode code 908 = .ok (.iconst 2, 1) := dOk_get dq72_24 (i := 5) rfl
theorem dL_909 : decode code 909 = .ok (.iadd, 1) := dOk_get dq72_24 (i := 6) rfl
theorem dL_910 : decode code 910 = .ok (.iaload, 1) := dOk_get dq72_24 (i := 7) rfl
theorem dL_911 : decode code 911 = .ok (.aload_n 0, 1) := dOk_get dq72_24 (i := 8) rfl
theorem dL_912 : decode code 912 = .ok (.iload_n 3, 1) := dOk_get dq72_24 (i := 9) rfl
theorem dL_913 : decode code 913 = .ok (.iconst 3, 1) := dOk_get dq72_24 (i := 10) rfl
theorem dL_914 : decode code 914 = .ok (.iadd, 1) := dOk_get dq72_24 (i := 11) rfl
theorem dL_915 : decode code 915 = .ok (.iaload, 1) := dOk_get dq72_24 (i := 12) rfl
theorem dL_916 : decode code 916 = .ok (.invokevirtual 102, 3) := dOk_get dq72_24 (i := 13) rfl
theorem dL_919 : decode code 919 = .ok (.pop, 1) := dOk_get dq72_24 (i := 14) rfl
theorem dL_920 : decode code 920 = .ok (.goto 504, 3) := dOk_get dq72_24 (i := 15) rfl
theorem dL_923 : decode code 923 = .ok (.aload_n 1, 1) := dOk_get dq72_24 (i := 16) rfl
theorem dL_924 : decode code 924 = .ok (.aload_n 0, 1) := dOk_get dq72_24 (i := 17) rfl
theorem dL_925 : decode code 925 = .ok (.iload_n 3, 1) := dOk_get dq72_24 (i := 18) rfl
theorem dL_926 : decode code 926 = .ok (.iconst 1, 1) := dOk_get dq72_24 (i := 19) rfl
theorem dL_927 : decode code 927 = .ok (.iadd, 1) := dOk_get dq72_24 (i := 20) rfl
theorem dL_928 : decode code 928 = .ok (.iaload, 1) := dOk_get dq72_24 (i := 21) rfl
theorem dL_929 : decode code 929 = .ok (.invokevirtual 103, 3) := dOk_get dq72_24 (i := 22) rfl
theorem dL_932 : decode code 932 = .ok (.pop, 1) := dOk_get dq72_24 (i := 23) rfl
theorem dL_933 : decode code 933 = .ok (.aload_n 2, 1) := dOk_get dq72_24 (i := 24) rfl
theorem dq72_25 : dOk code [(934, .aload_n 0, 1), (935, .iload_n 3, 1), (936, .iconst 1, 1), (937, .iadd, 1), (938, .iaload, 1), (939, .invokevirtual 106, 3), (942, .pop, 1), (943, .goto 481, 3), (946, .aload_n 1, 1), (947, .aload_n 0, 1), (948, .iload_n 3, 1), (949, .iconst 1, 1), (950, .iadd, 1), (951, .iaload, 1), (952, .aload_n 0, 1), (953, .iload_n 3, 1), (954, .iconst 2, 1), (955, .iadd, 1), (956, .iaload, 1), (957, .aload_n 0, 1), (958, .iload_n 3, 1), (959, .iconst 3, 1), (960, .iadd, 1), (961, .iaload, 1), (962, .invokevirtual 107, 3)] = true := by decide +kernel
theorem dL_934 : decode code 934 = .ok (.aload_n 0, 1) := dOk_get dq72_25 (i := 0) rfl
theorem dL_935 : decode code 935 = .ok (.iload_n 3, 1) := dOk_get dq72_25 (i := 1) rfl
theorem dL_936 : decode code 936 = .ok (.iconst 1, 1) := dOk_get dq72_25 (i := 2) rfl
theorem dL_937 : decode code 937 = .ok (.iadd, 1) := dOk_get dq72_25 (i := 3) rfl
theorem dL_938 : decode code 938 = .ok (.iaload, 1) := dOk_get dq72_25 (i := 4) rfl
theorem dL_939 : decode code 939 = .ok (.invokevirtual 106, 3) := dOk_get dq72_25 (i := 5) rfl
theorem dL_942 : decode code 942 = .ok (.pop, 1) := dOk_get dq72_25 (i := 6) rfl
theorem dL_943 : decode code 943 = .ok (.goto 481, 3) := dOk_get dq72_25 (i := 7) rfl
theorem dL_946 : decode code 946 = .ok (.aload_n 1, 1) := dOk_get dq72_25 (i := 8) rfl
theorem dL_947 : decode code 947 = .ok (.aload_n 0, 1) := dOk_get dq72_25 (i := 9) rfl
theorem dL_948 : decode code 948 = .ok (.iload_n 3, 1) := dOk_get dq72_25 (i := 10) rfl
theorem dL_949 : decode code 949 = .ok (.iconst 1, 1) := dOk_get dq72_25 (i := 11) rfl
theorem dL_950 : decode code 950 = .ok (.iadd, 1) := dOk_get dq72_25 (i := 12) rfl
theorem dL_951 : decode code 951 = .ok (.iaload, 1) := dOk_get dq72_25 (i := 13) rfl
theorem dL_952 : decode code 952 = .ok (.aload_n 0, 1) := dOk_get dq72_25 (i := 14) rfl
theorem dL_953 : decode code 953 = .ok (.iload_n 3, 1) := dOk_get dq72_25 (i := 15) rfl
theorem dL_954 : decode code 954 = .ok (.iconst 2, 1) := dOk_get dq72_25 (i := 16) rfl
theorem dL_955 : decode code 955 = .ok (.iadd, 1) := dOk_get dq72_25 (i := 17) rfl
theorem dL_956 : decode code 956 = .ok (.iaload, 1) := dOk_get dq72_25 (i := 18) rfl
theorem dL_957 : decode code 957 = .ok (.aload_n 0, 1) := dOk_get dq72_25 (i := 19) rfl
theorem dL_958 : decode code 958 = .ok (.iload_n 3, 1) := dOk_get dq72_25 (i := 20) rfl
theorem dL_959 : decode code 959 = .ok (.iconst 3, 1) := dOk_get dq72_25 (i := 21) rfl
theorem dL_960 : decode code 960 = .ok (.iadd, 1) := dOk_get dq72_25 (i := 22) rfl
theorem dL_961 : decode code 961 = .ok (.iaload, 1) := dOk_get dq72_25 (i := 23) rfl
theorem dL_962 : decode code 962 = .ok (.invokevirtual 107, 3) := dOk_get dq72_25 (i := 24) rfl
theorem dq72_26 : dOk code [(965, .pop, 1), (966, .aload_n 2, 1), (967, .aload_n 0, 1), (968, .iload_n 3, 1), (969, .iconst 1, 1), (970, .iadd, 1), (971, .iaload, 1), (972, .aload_n 0, 1), (973, .iload_n 3, 1), (974, .iconst 2, 1), (975, .iadd, 1), (976, .iaload, 1), (977, .aload_n 0, 1), (978, .iload_n 3, 1), (979, .iconst 3, 1), (980, .iadd, 1), (981, .iaload, 1), (982, .invokevirtual 110, 3), (985, .pop, 1), (986, .goto 438, 3), (989, .aload_n 1, 1), (990, .invokevirtual 111, 3), (993, .pop, 1), (994, .aload_n 2, 1), (995, .invokevirtual 115, 3)] = true := by decide +kernel
theorem dL_965 : decode code 965 = .ok (.pop, 1) := dOk_get dq72_26 (i := 0) rfl
theorem dL_966 : decode code 966 = .ok (.aload_n 2, 1) := dOk_get dq72_26 (i := 1) rfl
theorem dL_967 : decode code 967 = .ok (.aload_n 0, 1) := dOk_get dq72_26 (i := 2) rfl
theorem dL_968 : decode code 968 = .ok (.iload_n 3, 1) := dOk_get dq72_26 (i := 3) rfl
theorem dL_969 : decode code 969 = .ok (.iconst 1, 1) := dOk_get dq72_26 (i := 4) rfl
theorem dL_970 : decode code 970 = .ok (.iadd, 1) := dOk_get dq72_26 (i := 5) rfl
theorem dL_971 : decode code 971 = .ok (.iaload, 1) := dOk_get dq72_26 (i := 6) rfl
theorem dL_972 : decode code 972 = .ok (.aload_n 0, 1) := dOk_get dq72_26 (i := 7) rfl
theorem dL_973 : decode code 973 = .ok (.iload_n 3, 1) := dOk_get dq72_26 (i := 8) rfl
theorem dL_974 : decode code 974 = .ok (.iconst 2, 1) := dOk_get dq72_26 (i := 9) rfl
theorem dL_975 : decode code 975 = .ok (.iadd, 1) := dOk_get dq72_26 (i := 10) rfl
theorem dL_976 : decode code 976 = .ok (.iaload, 1) := dOk_get dq72_26 (i := 11) rfl
theorem dL_977 : decode code 977 = .ok (.aload_n 0, 1) := dOk_get dq72_26 (i := 12) rfl
theorem dL_978 : decode code 978 = .ok (.iload_n 3, 1) := dOk_get dq72_26 (i := 13) rfl
theorem dL_979 : decode code 979 = .ok (.iconst 3, 1) := dOk_get dq72_26 (i := 14) rfl
theorem dL_980 : decode code 980 = .ok (.iadd, 1) := dOk_get dq72_26 (i := 15) rfl
theorem dL_981 : decode code 981 = .ok (.iaload, 1) := dOk_get dq72_26 (i := 16) rfl
theorem dL_982 : decode code 982 = .ok (.invokevirtual 110, 3) := dOk_get dq72_26 (i := 17) rfl
theorem dL_985 : decode code 985 = .ok (.pop, 1) := dOk_get dq72_26 (i := 18) rfl
theorem dL_986 : decode code 986 = .ok (.goto 438, 3) := dOk_get dq72_26 (i := 19) rfl
theorem dL_989 : decode code 989 = .ok (.aload_n 1, 1) := dOk_get dq72_26 (i := 20) rfl
theorem dL_990 : decode code 990 = .ok (.invokevirtual 111, 3) := dOk_get dq72_26 (i := 21) rfl
theorem dL_993 : decode code 993 = .ok (.pop, 1) := dOk_get dq72_26 (i := 22) rfl
theorem dL_994 : decode code 994 = .ok (.aload_n 2, 1) := dOk_get dq72_26 (i := 23) rfl
theorem dL_995 : decode code 995 = .ok (.invokevirtual 115, 3) := dOk_get dq72_26 (i := 24) rfl
theorem dq72_27 : dOk code [(998, .pop, 1), (999, .goto 425, 3), (1002, .aload_n 1, 1), (1003, .aload_n 0, 1), (1004, .iload_n 3, 1), (1005, .iconst 1, 1), (1006, .iadd, 1), (1007, .iaload, 1), (1008, .aload_n 0, 1), (1009, .iload_n 3, 1), (1010, .iconst 2, 1), (1011, .iadd, 1), (1012, .iaload, 1), (1013, .aload_n 0, 1), (1014, .iload_n 3, 1), (1015, .iconst 3, 1), (1016, .iadd, 1), (1017, .iaload, 1), (1018, .invokevirtual 116, 3), (1021, .pop, 1), (1022, .aload_n 2, 1), (1023, .aload_n 0, 1), (1024, .iload_n 3, 1), (1025, .iconst 1, 1), (1026, .iadd, 1)] = true := by decide +kernel
theorem dL_998 : decode code 998 = .ok (.pop, 1) := dOk_get dq72_27 (i := 0) rfl
theorem dL_999 : decode code 999 = .ok (.goto 425, 3) := dOk_get dq72_27 (i := 1) rfl
theorem dL_1002 : decode code 1002 = .ok (.aload_n 1, 1) := dOk_get dq72_27 (i := 2) rfl
theorem dL_1003 : decode code 1003 = .ok (.aload_n 0, 1) := dOk_get dq72_27 (i := 3) rfl
theorem dL_1004 : decode code 1004 = .ok (.iload_n 3, 1) := dOk_get dq72_27 (i := 4) rfl
theorem dL_1005 : decode code 1005 = .ok (.iconst 1, 1) := dOk_get dq72_27 (i := 5) rfl
theorem dL_1006 : decode code 1006 = .ok (.iadd, 1) := dOk_get dq72_27 (i := 6) rfl
theorem dL_1007 : decode code 1007 = .ok (.iaload, 1) := dOk_get dq72_27 (i := 7) rfl
theorem dL_1008 : decode code 1008 = .ok (.aload_n 0, 1) := dOk_get dq72_27 (i := 8) rfl
theorem dL_1009 : decode code 1009 = .ok (.iload_n 3, 1) := dOk_get dq72_27 (i := 9) rfl
theorem dL_1010 : decode code 1010 = .ok (.iconst 2, 1) := dOk_get dq72_27 (i := 10) rfl
theorem dL_1011 : decode code 1011 = .ok (.iadd, 1) := dOk_get dq72_27 (i := 11) rfl
theorem dL_1012 : decode code 1012 = .ok (.iaload, 1) := dOk_get dq72_27 (i := 12) rfl
theorem dL_1013 : decode code 1013 = .ok (.aload_n 0, 1) := dOk_get dq72_27 (i := 13) rfl
theorem dL_1014 : decode code 1014 = .ok (.iload_n 3, 1) := dOk_get dq72_27 (i := 14) rfl
theorem dL_1015 : decode code 1015 = .ok (.iconst 3, 1) := dOk_get dq72_27 (i := 15) rfl
theorem dL_1016 : decode code 1016 = .ok (.iadd, 1) := dOk_get dq72_27 (i := 16) rfl
theorem dL_1017 : decode code 1017 = .ok (.iaload, 1) := dOk_get dq72_27 (i := 17) rfl
theorem dL_1018 : decode code 1018 = .ok (.invokevirtual 116, 3) := dOk_get dq72_27 (i := 18) rfl
theorem dL_1021 : decode code 1021 = .ok (.pop, 1) := dOk_get dq72_27 (i := 19) rfl
theorem dL_1022 : decode code 1022 = .ok (.aload_n 2, 1) := dOk_get dq72_27 (i := 20) rfl
theorem dL_1023 : decode code 1023 = .ok (.aload_n 0, 1) := dOk_get dq72_27 (i := 21) rfl
theorem dL_1024 : decode code 1024 = .ok (.iload_n 3, 1) := dOk_get dq72_27 (i := 22) rfl
theorem dL_1025 : decode code 1025 = .ok (.iconst 1, 1) := dOk_get dq72_27 (i := 23) rfl
theorem dL_1026 : decode code 1026 = .ok (.iadd, 1) := dOk_get dq72_27 (i := 24) rfl
theorem dq72_28 : dOk code [(1027, .iaload, 1), (1028, .aload_n 0, 1), (1029, .iload_n 3, 1), (1030, .iconst 2, 1), (1031, .iadd, 1), (1032, .iaload, 1), (1033, .aload_n 0, 1), (1034, .iload_n 3, 1), (1035, .iconst 3, 1), (1036, .iadd, 1), (1037, .iaload, 1), (1038, .invokevirtual 119, 3), (1041, .pop, 1), (1042, .goto 382, 3), (1045, .aload_n 1, 1), (1046, .aload_n 0, 1), (1047, .iload_n 3, 1), (1048, .iconst 1, 1), (1049, .iadd, 1), (1050, .iaload, 1), (1051, .aload_n 0, 1), (1052, .iload_n 3, 1), (1053, .iconst 2, 1), (1054, .iadd, 1), (1055, .iaload, 1)] = true := by decide +kernel
theorem dL_1027 : decode code 1027 = .ok (.iaload, 1) := dOk_get dq72_28 (i := 0) rfl
theorem dL_1028 : decode code 1028 = .ok (.aload_n 0, 1) := dOk_get dq72_28 (i := 1) rfl
theorem dL_1029 : decode code 1029 = .ok (.iload_n 3, 1) := dOk_get dq72_28 (i := 2) rfl
theorem dL_1030 : decode code 1030 = .ok (.iconst 2, 1) := dOk_get dq72_28 (i := 3) rfl
theorem dL_1031 : decode code 1031 = .ok (.iadd, 1) := dOk_get dq72_28 (i := 4) rfl
theorem dL_1032 : decode code 1032 = .ok (.iaload, 1) := dOk_get dq72_28 (i := 5) rfl
theorem dL_1033 : decode code 1033 = .ok (.aload_n 0, 1) := dOk_get dq72_28 (i := 6) rfl
theorem dL_1034 : decode code 1034 = .ok (.iload_n 3, 1) := dOk_get dq72_28 (i := 7) rfl
theorem dL_1035 : decode code 1035 = .ok (.iconst 3, 1) := dOk_get dq72_28 (i := 8) rfl
theorem dL_1036 : decode code 1036 = .ok (.iadd, 1) := dOk_get dq72_28 (i := 9) rfl
theorem dL_1037 : decode code 1037 = .ok (.iaload, 1) := dOk_get dq72_28 (i := 10) rfl
theorem dL_1038 : decode code 1038 = .ok (.invokevirtual 119, 3) := dOk_get dq72_28 (i := 11) rfl
theorem dL_1041 : decode code 1041 = .ok (.pop, 1) := dOk_get dq72_28 (i := 12) rfl
theorem dL_1042 : decode code 1042 = .ok (.goto 382, 3) := dOk_get dq72_28 (i := 13) rfl
theorem dL_1045 : decode code 1045 = .ok (.aload_n 1, 1) := dOk_get dq72_28 (i := 14) rfl
theorem dL_1046 : decode code 1046 = .ok (.aload_n 0, 1) := dOk_get dq72_28 (i := 15) rfl
theorem dL_1047 : decode code 1047 = .ok (.iload_n 3, 1) := dOk_get dq72_28 (i := 16) rfl
theorem dL_1048 : decode code 1048 = .ok (.iconst 1, 1) := dOk_get dq72_28 (i := 17) rfl
theorem dL_1049 : decode code 1049 = .ok (.iadd, 1) := dOk_get dq72_28 (i := 18) rfl
theorem dL_1050 : decode code 1050 = .ok (.iaload, 1) := dOk_get dq72_28 (i := 19) rfl
theorem dL_1051 : decode code 1051 = .ok (.aload_n 0, 1) := dOk_get dq72_28 (i := 20) rfl
theorem dL_1052 : decode code 1052 = .ok (.iload_n 3, 1) := dOk_get dq72_28 (i := 21) rfl
theorem dL_1053 : decode code 1053 = .ok (.iconst 2, 1) := dOk_get dq72_28 (i := 22) rfl
theorem dL_1054 : decode code 1054 = .ok (.iadd, 1) := dOk_get dq72_28 (i := 23) rfl
theorem dL_1055 : decode code 1055 = .ok (.iaload, 1) := dOk_get dq72_28 (i := 24) rfl
theorem dq72_29 : dOk code [(1056, .aload_n 0, 1), (1057, .iload_n 3, 1), (1058, .iconst 3, 1), (1059, .iadd, 1), (1060, .iaload, 1), (1061, .invokevirtual 120, 3), (1064, .pop, 1), (1065, .aload_n 2, 1), (1066, .aload_n 0, 1), (1067, .iload_n 3, 1), (1068, .iconst 1, 1), (1069, .iadd, 1), (1070, .iaload, 1), (1071, .aload_n 0, 1), (1072, .iload_n 3, 1), (1073, .iconst 2, 1), (1074, .iadd, 1), (1075, .iaload, 1), (1076, .aload_n 0, 1), (1077, .iload_n 3, 1), (1078, .iconst 3, 1), (1079, .iadd, 1), (1080, .iaload, 1), (1081, .invokevirtual 123, 3), (1084, .pop, 1)] = true := by decide +kernel
theorem dL_1056 : decode code 1056 = .ok (.aload_n 0, 1) := dOk_get dq72_29 (i := 0) rfl
theorem dL_1057 : decode code 1057 = .ok (.iload_n 3, 1) := dOk_get dq72_29 (i := 1) rfl
theorem dL_1058 : decode code 1058 = .ok (.iconst 3, 1) := dOk_get dq72_29 (i := 2) rfl
theorem dL_1059 : decode code 1059 = .ok (.iadd, 1) := dOk_get dq72_29 (i := 3) rfl
theorem dL_1060 : decode code 1060 = .ok (.iaload, 1) := dOk_get dq72_29 (i := 4) rfl
theorem dL_1061 : decode code 1061 = .ok (.invokevirtual 120, 3) := dOk_get dq72_29 (i := 5) rfl
theorem dL_1064 : decode code 1064 = .ok (.pop, 1) := dOk_get dq72_29 (i := 6) rfl
theorem dL_1065 : decode code 1065 = .ok (.aload_n 2, 1) := dOk_get dq72_29 (i := 7) rfl
theorem dL_1066 : decode code 1066 = .ok (.aload_n 0, 1) := dOk_get dq72_29 (i := 8) rfl
theorem dL_1067 : decode code 1067 = .ok (.iload_n 3, 1) := dOk_get dq72_29 (i := 9) rfl
theorem dL_1068 : decode code 1068 = .ok (.iconst 1, 1) := dOk_get dq72_29 (i := 10) rfl
theorem dL_1069 : decode code 1069 = .ok (.iadd, 1) := dOk_get dq72_29 (i := 11) rfl
theorem dL_1070 : decode code 1070 = .ok (.iaload, 1) := dOk_get dq72_29 (i := 12) rfl
theorem dL_1071 : decode code 1071 = .ok (.aload_n 0, 1) := dOk_get dq72_29 (i := 13) rfl
theorem dL_1072 : decode code 1072 = .ok (.iload_n 3, 1) := dOk_get dq72_29 (i := 14) rfl
theorem dL_1073 : decode code 1073 = .ok (.iconst 2, 1) := dOk_get dq72_29 (i := 15) rfl
theorem dL_1074 : decode code 1074 = .ok (.iadd, 1) := dOk_get dq72_29 (i := 16) rfl
theorem dL_1075 : decode code 1075 = .ok (.iaload, 1) := dOk_get dq72_29 (i := 17) rfl
theorem dL_1076 : decode code 1076 = .ok (.aload_n 0, 1) := dOk_get dq72_29 (i := 18) rfl
theorem dL_1077 : decode code 1077 = .ok (.iload_n 3, 1) := dOk_get dq72_29 (i := 19) rfl
theorem dL_1078 : decode code 1078 = .ok (.iconst 3, 1) := dOk_get dq72_29 (i := 20) rfl
theorem dL_1079 : decode code 1079 = .ok (.iadd, 1) := dOk_get dq72_29 (i := 21) rfl
theorem dL_1080 : decode code 1080 = .ok (.iaload, 1) := dOk_get dq72_29 (i := 22) rfl
theorem dL_1081 : decode code 1081 = .ok (.invokevirtual 123, 3) := dOk_get dq72_29 (i := 23) rfl
theorem dL_1084 : decode code 1084 = .ok (.pop, 1) := dOk_get dq72_29 (i := 24) rfl
theorem dq72_30 : dOk code [(1085, .goto 339, 3), (1088, .aload_n 1, 1), (1089, .aload_n 0, 1), (1090, .iload_n 3, 1), (1091, .iconst 1, 1), (1092, .iadd, 1), (1093, .iaload, 1), (1094, .invokevirtual 124, 3), (1097, .pop, 1), (1098, .aload_n 2, 1), (1099, .aload_n 0, 1), (1100, .iload_n 3, 1), (1101, .iconst 1, 1), (1102, .iadd, 1), (1103, .iaload, 1), (1104, .invokevirtual 127, 3), (1107, .pop, 1), (1108, .goto 316, 3), (1111, .aload_n 1, 1), (1112, .aload_n 0, 1), (1113, .iload_n 3, 1), (1114, .iconst 1, 1), (1115, .iadd, 1), (1116, .iaload, 1), (1117, .aload_n 0, 1)] = true := by decide +kernel
theorem dL_1085 : decode code 1085 = .ok (.goto 339, 3) := dOk_get dq72_30 (i := 0) rfl
theorem dL_1088 : decode code 1088 = .ok (.aload_n 1, 1) := dOk_get dq72_30 (i := 1) rfl
theorem dL_1089 : decode code 1089 = .ok (.aload_n 0, 1) := dOk_get dq72_30 (i := 2) rfl
theorem dL_1090 : decode code 1090 = .ok (.iload_n 3, 1) := dOk_get dq72_30 (i := 3) rfl
theorem dL_1091 : decode code 1091 = .ok (.iconst 1, 1) := dOk_get dq72_30 (i := 4) rfl
theorem dL_1092 : decode code 1092 = .ok (.iadd, 1) := dOk_get dq72_30 (i := 5) rfl
theorem dL_1093 : decode code 1093 = .ok (.iaload, 1) := dOk_get dq72_30 (i := 6) rfl
theorem dL_1094 : decode code 1094 = .ok (.invokevirtual 124, 3) := dOk_get dq72_30 (i := 7) rfl
theorem dL_1097 : decode code 1097 = .ok (.pop, 1) := dOk_get dq72_30 (i := 8) rfl
theorem dL_1098 : decode code 1098 = .ok (.aload_n 2, 1) := dOk_get dq72_30 (i := 9) rfl
theorem dL_1099 : decode code 1099 = .ok (.aload_n 0, 1) := dOk_get dq72_30 (i := 10) rfl
theorem dL_1100 : decode code 1100 = .ok (.iload_n 3, 1) := dOk_get dq72_30 (i := 11) rfl
theorem dL_1101 : decode code 1101 = .ok (.iconst 1, 1) := dOk_get dq72_30 (i := 12) rfl
theorem dL_1102 : decode code 1102 = .ok (.iadd, 1) := dOk_get dq72_30 (i := 13) rfl
theorem dL_1103 : decode code 1103 = .ok (.iaload, 1) := dOk_get dq72_30 (i := 14) rfl
theorem dL_1104 : decode code 1104 = .ok (.invokevirtual 127, 3) := dOk_get dq72_30 (i := 15) rfl
theorem dL_1107 : decode code 1107 = .ok (.pop, 1) := dOk_get dq72_30 (i := 16) rfl
theorem dL_1108 : decode code 1108 = .ok (.goto 316, 3) := dOk_get dq72_30 (i := 17) rfl
theorem dL_1111 : decode code 1111 = .ok (.aload_n 1, 1) := dOk_get dq72_30 (i := 18) rfl
theorem dL_1112 : decode code 1112 = .ok (.aload_n 0, 1) := dOk_get dq72_30 (i := 19) rfl
theorem dL_1113 : decode code 1113 = .ok (.iload_n 3, 1) := dOk_get dq72_30 (i := 20) rfl
theorem dL_1114 : decode code 1114 = .ok (.iconst 1, 1) := dOk_get dq72_30 (i := 21) rfl
theorem dL_1115 : decode code 1115 = .ok (.iadd, 1) := dOk_get dq72_30 (i := 22) rfl
theorem dL_1116 : decode code 1116 = .ok (.iaload, 1) := dOk_get dq72_30 (i := 23) rfl
theorem dL_1117 : decode code 1117 = .ok (.aload_n 0, 1) := dOk_get dq72_30 (i := 24) rfl
theorem dq72_31 : dOk code [(1118, .iload_n 3, 1), (1119, .iconst 2, 1), (1120, .iadd, 1), (1121, .iaload, 1), (1122, .aload_n 0, 1), (1123, .iload_n 3, 1), (1124, .iconst 3, 1), (1125, .iadd, 1), (1126, .iaload, 1), (1127, .invokevirtual 128, 3), (1130, .pop, 1), (1131, .aload_n 2, 1), (1132, .aload_n 0, 1), (1133, .iload_n 3, 1), (1134, .iconst 1, 1), (1135, .iadd, 1), (1136, .iaload, 1), (1137, .aload_n 0, 1), (1138, .iload_n 3, 1), (1139, .iconst 2, 1), (1140, .iadd, 1), (1141, .iaload, 1), (1142, .aload_n 0, 1), (1143, .iload_n 3, 1), (1144, .iconst 3, 1)] = true := by decide +kernel
theorem dL_1118 : decode code 1118 = .ok (.iload_n 3, 1) := dOk_get dq72_31 (i := 0) rfl
theorem dL_1119 : decode code 1119 = .ok (.iconst 2, 1) := dOk_get dq72_31 (i := 1) rfl
theorem dL_1120 : decode code 1120 = .ok (.iadd, 1) := dOk_get dq72_31 (i := 2) rfl
theorem dL_1121 : decode code 1121 = .ok (.iaload, 1) := dOk_get dq72_31 (i := 3) rfl
theorem dL_1122 : decode code 1122 = .ok (.aload_n 0, 1) := dOk_get dq72_31 (i := 4) rfl
theorem dL_1123 : decode code 1123 = .ok (.iload_n 3, 1) := dOk_get dq72_31 (i := 5) rfl
theorem dL_1124 : decode code 1124 = .ok (.iconst 3, 1) := dOk_get dq72_31 (i := 6) rfl
theorem dL_1125 : decode code 1125 = .ok (.iadd, 1) := dOk_get dq72_31 (i := 7) rfl
theorem dL_1126 : decode code 1126 = .ok (.iaload, 1) := dOk_get dq72_31 (i := 8) rfl
theorem dL_1127 : decode code 1127 = .ok (.invokevirtual 128, 3) := dOk_get dq72_31 (i := 9) rfl
theorem dL_1130 : decode code 1130 = .ok (.pop, 1) := dOk_get dq72_31 (i := 10) rfl
theorem dL_1131 : decode code 1131 = .ok (.aload_n 2, 1) := dOk_get dq72_31 (i := 11) rfl
theorem dL_1132 : decode code 1132 = .ok (.aload_n 0, 1) := dOk_get dq72_31 (i := 12) rfl
theorem dL_1133 : decode code 1133 = .ok (.iload_n 3, 1) := dOk_get dq72_31 (i := 13) rfl
theorem dL_1134 : decode code 1134 = .ok (.iconst 1, 1) := dOk_get dq72_31 (i := 14) rfl
theorem dL_1135 : decode code 1135 = .ok (.iadd, 1) := dOk_get dq72_31 (i := 15) rfl
theorem dL_1136 : decode code 1136 = .ok (.iaload, 1) := dOk_get dq72_31 (i := 16) rfl
theorem dL_1137 : decode code 1137 = .ok (.aload_n 0, 1) := dOk_get dq72_31 (i := 17) rfl
theorem dL_1138 : decode code 1138 = .ok (.iload_n 3, 1) := dOk_get dq72_31 (i := 18) rfl
theorem dL_1139 : decode code 1139 = .ok (.iconst 2, 1) := dOk_get dq72_31 (i := 19) rfl
theorem dL_1140 : decode code 1140 = .ok (.iadd, 1) := dOk_get dq72_31 (i := 20) rfl
theorem dL_1141 : decode code 1141 = .ok (.iaload, 1) := dOk_get dq72_31 (i := 21) rfl
theorem dL_1142 : decode code 1142 = .ok (.aload_n 0, 1) := dOk_get dq72_31 (i := 22) rfl
theorem dL_1143 : decode code 1143 = .ok (.iload_n 3, 1) := dOk_get dq72_31 (i := 23) rfl
theorem dL_1144 : decode code 1144 = .ok (.iconst 3, 1) := dOk_get dq72_31 (i := 24) rfl
theorem dq72_32 : dOk code [(1145, .iadd, 1), (1146, .iaload, 1), (1147, .invokevirtual 131, 3), (1150, .pop, 1), (1151, .goto 273, 3), (1154, .aload_n 1, 1), (1155, .aload_n 0, 1), (1156, .iload_n 3, 1), (1157, .iconst 1, 1), (1158, .iadd, 1), (1159, .iaload, 1), (1160, .aload_n 0, 1), (1161, .iload_n 3, 1), (1162, .iconst 2, 1), (1163, .iadd, 1), (1164, .iaload, 1), (1165, .aload_n 0, 1), (1166, .iload_n 3, 1), (1167, .iconst 3, 1), (1168, .iadd, 1), (1169, .iaload, 1), (1170, .invokevirtual 132, 3), (1173, .pop, 1), (1174, .aload_n 2, 1), (1175, .aload_n 0, 1)] = true := by decide +kernel
theorem dL_1145 : decode code 1145 = .ok (.iadd, 1) := dOk_get dq72_32 (i := 0) rfl
theorem dL_1146 : decode code 1146 = .ok (.iaload, 1) := dOk_get dq72_32 (i := 1) rfl
theorem dL_1147 : decode code 1147 = .ok (.invokevirtual 131, 3) := dOk_get dq72_32 (i := 2) rfl
theorem dL_1150 : decode code 1150 = .ok (.pop, 1) := dOk_get dq72_32 (i := 3) rfl
theorem dL_1151 : decode code 1151 = .ok (.goto 273, 3) := dOk_get dq72_32 (i := 4) rfl
theorem dL_1154 : decode code 1154 = .ok (.aload_n 1, 1) := dOk_get dq72_32 (i := 5) rfl
theorem dL_1155 : decode code 1155 = .ok (.aload_n 0, 1) := dOk_get dq72_32 (i := 6) rfl
theorem dL_1156 : decode code 1156 = .ok (.iload_n 3, 1) := dOk_get dq72_32 (i := 7) rfl
theorem dL_1157 : decode code 1157 = .ok (.iconst 1, 1) := dOk_get dq72_32 (i := 8) rfl
theorem dL_1158 : decode code 1158 = .ok (.iadd, 1) := dOk_get dq72_32 (i := 9) rfl
theorem dL_1159 : decode code 1159 = .ok (.iaload, 1) := dOk_get dq72_32 (i := 10) rfl
theorem dL_1160 : decode code 1160 = .ok (.aload_n 0, 1) := dOk_get dq72_32 (i := 11) rfl
theorem dL_1161 : decode code 1161 = .ok (.iload_n 3, 1) := dOk_get dq72_32 (i := 12) rfl
theorem dL_1162 : decode code 1162 = .ok (.iconst 2, 1) := dOk_get dq72_32 (i := 13) rfl
theorem dL_1163 : decode code 1163 = .ok (.iadd, 1) := dOk_get dq72_32 (i := 14) rfl
theorem dL_1164 : decode code 1164 = .ok (.iaload, 1) := dOk_get dq72_32 (i := 15) rfl
theorem dL_1165 : decode code 1165 = .ok (.aload_n 0, 1) := dOk_get dq72_32 (i := 16) rfl
theorem dL_1166 : decode code 1166 = .ok (.iload_n 3, 1) := dOk_get dq72_32 (i := 17) rfl
theorem dL_1167 : decode code 1167 = .ok (.iconst 3, 1) := dOk_get dq72_32 (i := 18) rfl
theorem dL_1168 : decode code 1168 = .ok (.iadd, 1) := dOk_get dq72_32 (i := 19) rfl
theorem dL_1169 : decode code 1169 = .ok (.iaload, 1) := dOk_get dq72_32 (i := 20) rfl
theorem dL_1170 : decode code 1170 = .ok (.invokevirtual 132, 3) := dOk_get dq72_32 (i := 21) rfl
theorem dL_1173 : decode code 1173 = .ok (.pop, 1) := dOk_get dq72_32 (i := 22) rfl
theorem dL_1174 : decode code 1174 = .ok (.aload_n 2, 1) := dOk_get dq72_32 (i := 23) rfl
theorem dL_1175 : decode code 1175 = .ok (.aload_n 0, 1) := dOk_get dq72_32 (i := 24) rfl
theorem dq72_33 : dOk code [(1176, .iload_n 3, 1), (1177, .iconst 1, 1), (1178, .iadd, 1), (1179, .iaload, 1), (1180, .aload_n 0, 1), (1181, .iload_n 3, 1), (1182, .iconst 2, 1), (1183, .iadd, 1), (1184, .iaload, 1), (1185, .aload_n 0, 1), (1186, .iload_n 3, 1), (1187, .iconst 3, 1), (1188, .iadd, 1), (1189, .iaload, 1), (1190, .invokevirtual 135, 3), (1193, .pop, 1), (1194, .goto 230, 3), (1197, .aload_n 1, 1), (1198, .aload_n 0, 1), (1199, .iload_n 3, 1), (1200, .iconst 1, 1), (1201, .iadd, 1), (1202, .iaload, 1), (1203, .aload_n 0, 1), (1204, .iload_n 3, 1)] = true := by decide +kernel
theorem dL_1176 : decode code 1176 = .ok (.iload_n 3, 1) := dOk_get dq72_33 (i := 0) rfl
theorem dL_1177 : decode code 1177 = .ok (.iconst 1, 1) := dOk_get dq72_33 (i := 1) rfl
theorem dL_1178 : decode code 1178 = .ok (.iadd, 1) := dOk_get dq72_33 (i := 2) rfl
theorem dL_1179 : decode code 1179 = .ok (.iaload, 1) := dOk_get dq72_33 (i := 3) rfl
theorem dL_1180 : decode code 1180 = .ok (.aload_n 0, 1) := dOk_get dq72_33 (i := 4) rfl
theorem dL_1181 : decode code 1181 = .ok (.iload_n 3, 1) := dOk_get dq72_33 (i := 5) rfl
theorem dL_1182 : decode code 1182 = .ok (.iconst 2, 1) := dOk_get dq72_33 (i := 6) rfl
theorem dL_1183 : decode code 1183 = .ok (.iadd, 1) := dOk_get dq72_33 (i := 7) rfl
theorem dL_1184 : decode code 1184 = .ok (.iaload, 1) := dOk_get dq72_33 (i := 8) rfl
theorem dL_1185 : decode code 1185 = .ok (.aload_n 0, 1) := dOk_get dq72_33 (i := 9) rfl
theorem dL_1186 : decode code 1186 = .ok (.iload_n 3, 1) := dOk_get dq72_33 (i := 10) rfl
theorem dL_1187 : decode code 1187 = .ok (.iconst 3, 1) := dOk_get dq72_33 (i := 11) rfl
theorem dL_1188 : decode code 1188 = .ok (.iadd, 1) := dOk_get dq72_33 (i := 12) rfl
theorem dL_1189 : decode code 1189 = .ok (.iaload, 1) := dOk_get dq72_33 (i := 13) rfl
theorem dL_1190 : decode code 1190 = .ok (.invokevirtual 135, 3) := dOk_get dq72_33 (i := 14) rfl
theorem dL_1193 : decode code 1193 = .ok (.pop, 1) := dOk_get dq72_33 (i := 15) rfl
theorem dL_1194 : decode code 1194 = .ok (.goto 230, 3) := dOk_get dq72_33 (i := 16) rfl
theorem dL_1197 : decode code 1197 = .ok (.aload_n 1, 1) := dOk_get dq72_33 (i := 17) rfl
theorem dL_1198 : decode code 1198 = .ok (.aload_n 0, 1) := dOk_get dq72_33 (i := 18) rfl
theorem dL_1199 : decode code 1199 = .ok (.iload_n 3, 1) := dOk_get dq72_33 (i := 19) rfl
theorem dL_1200 : decode code 1200 = .ok (.iconst 1, 1) := dOk_get dq72_33 (i := 20) rfl
theorem dL_1201 : decode code 1201 = .ok (.iadd, 1) := dOk_get dq72_33 (i := 21) rfl
theorem dL_1202 : decode code 1202 = .ok (.iaload, 1) := dOk_get dq72_33 (i := 22) rfl
theorem dL_1203 : decode code 1203 = .ok (.aload_n 0, 1) := dOk_get dq72_33 (i := 23) rfl
theorem dL_1204 : decode code 1204 = .ok (.iload_n 3, 1) := dOk_get dq72_33 (i := 24) rfl
theorem dq72_34 : dOk code [(1205, .iconst 2, 1), (1206, .iadd, 1), (1207, .iaload, 1), (1208, .aload_n 0, 1), (1209, .iload_n 3, 1), (1210, .iconst 3, 1), (1211, .iadd, 1), (1212, .iaload, 1), (1213, .aload_n 0, 1), (1214, .iload_n 3, 1), (1215, .iconst 4, 1), (1216, .iadd, 1), (1217, .iaload, 1), (1218, .aload_n 0, 1), (1219, .iload_n 3, 1), (1220, .iconst 5, 1), (1221, .iadd, 1), (1222, .iaload, 1), (1223, .invokevirtual 136, 3), (1226, .pop, 1), (1227, .aload_n 2, 1), (1228, .aload_n 0, 1), (1229, .iload_n 3, 1), (1230, .iconst 1, 1), (1231, .iadd, 1)] = true := by decide +kernel
theorem dL_1205 : decode code 1205 = .ok (.iconst 2, 1) := dOk_get dq72_34 (i := 0) rfl
theorem dL_1206 : decode code 1206 = .ok (.iadd, 1) := dOk_get dq72_34 (i := 1) rfl
theorem dL_1207 : decode code 1207 = .ok (.iaload, 1) := dOk_get dq72_34 (i := 2) rfl
theorem dL_1208 : decode code 1208 = .ok (.aload_n 0, 1) := dOk_get dq72_34 (i := 3) rfl
theorem dL_1209 : decode code 1209 = .ok (.iload_n 3, 1) := dOk_get dq72_34 (i := 4) rfl
theorem dL_1210 : decode code 1210 = .ok (.iconst 3, 1) := dOk_get dq72_34 (i := 5) rfl
theorem dL_1211 : decode code 1211 = .ok (.iadd, 1) := dOk_get dq72_34 (i := 6) rfl
theorem dL_1212 : decode code 1212 = .ok (.iaload, 1) := dOk_get dq72_34 (i := 7) rfl
theorem dL_1213 : decode code 1213 = .ok (.aload_n 0, 1) := dOk_get dq72_34 (i := 8) rfl
theorem dL_1214 : decode code 1214 = .ok (.iload_n 3, 1) := dOk_get dq72_34 (i := 9) rfl
theorem dL_1215 : decode code 1215 = .ok (.iconst 4, 1) := dOk_get dq72_34 (i := 10) rfl
theorem dL_1216 : decode code 1216 = .ok (.iadd, 1) := dOk_get dq72_34 (i := 11) rfl
theorem dL_1217 : decode code 1217 = .ok (.iaload, 1) := dOk_get dq72_34 (i := 12) rfl
theorem dL_1218 : decode code 1218 = .ok (.aload_n 0, 1) := dOk_get dq72_34 (i := 13) rfl
theorem dL_1219 : decode code 1219 = .ok (.iload_n 3, 1) := dOk_get dq72_34 (i := 14) rfl
theorem dL_1220 : decode code 1220 = .ok (.iconst 5, 1) := dOk_get dq72_34 (i := 15) rfl
theorem dL_1221 : decode code 1221 = .ok (.iadd, 1) := dOk_get dq72_34 (i := 16) rfl
theorem dL_1222 : decode code 1222 = .ok (.iaload, 1) := dOk_get dq72_34 (i := 17) rfl
theorem dL_1223 : decode code 1223 = .ok (.invokevirtual 136, 3) := dOk_get dq72_34 (i := 18) rfl
theorem dL_1226 : decode code 1226 = .ok (.pop, 1) := dOk_get dq72_34 (i := 19) rfl
theorem dL_1227 : decode code 1227 = .ok (.aload_n 2, 1) := dOk_get dq72_34 (i := 20) rfl
theorem dL_1228 : decode code 1228 = .ok (.aload_n 0, 1) := dOk_get dq72_34 (i := 21) rfl
theorem dL_1229 : decode code 1229 = .ok (.iload_n 3, 1) := dOk_get dq72_34 (i := 22) rfl
theorem dL_1230 : decode code 1230 = .ok (.iconst 1, 1) := dOk_get dq72_34 (i := 23) rfl
theorem dL_1231 : decode code 1231 = .ok (.iadd, 1) := dOk_get dq72_34 (i := 24) rfl
theorem dq72_35 : dOk code [(1232, .iaload, 1), (1233, .aload_n 0, 1), (1234, .iload_n 3, 1), (1235, .iconst 2, 1), (1236, .iadd, 1), (1237, .iaload, 1), (1238, .aload_n 0, 1), (1239, .iload_n 3, 1), (1240, .iconst 3, 1), (1241, .iadd, 1), (1242, .iaload, 1), (1243, .aload_n 0, 1), (1244, .iload_n 3, 1), (1245, .iconst 4, 1), (1246, .iadd, 1), (1247, .iaload, 1), (1248, .aload_n 0, 1), (1249, .iload_n 3, 1), (1250, .iconst 5, 1), (1251, .iadd, 1), (1252, .iaload, 1), (1253, .invokevirtual 140, 3), (1256, .pop, 1), (1257, .goto 167, 3), (1260, .aload_n 1, 1)] = true := by decide +kernel
theorem dL_1232 : decode code 1232 = .ok (.iaload, 1) := dOk_get dq72_35 (i := 0) rfl
theorem dL_1233 : decode code 1233 = .ok (.aload_n 0, 1) := dOk_get dq72_35 (i := 1) rfl
theorem dL_1234 : decode code 1234 = .ok (.iload_n 3, 1) := dOk_get dq72_35 (i := 2) rfl
theorem dL_1235 : decode code 1235 = .ok (.iconst 2, 1) := dOk_get dq72_35 (i := 3) rfl
theorem dL_1236 : decode code 1236 = .ok (.iadd, 1) := dOk_get dq72_35 (i := 4) rfl
theorem dL_1237 : decode code 1237 = .ok (.iaload, 1) := dOk_get dq72_35 (i := 5) rfl
theorem dL_1238 : decode code 1238 = .ok (.aload_n 0, 1) := dOk_get dq72_35 (i := 6) rfl
theorem dL_1239 : decode code 1239 = .ok (.iload_n 3, 1) := dOk_get dq72_35 (i := 7) rfl
theorem dL_1240 : decode code 1240 = .ok (.iconst 3, 1) := dOk_get dq72_35 (i := 8) rfl
theorem dL_1241 : decode code 1241 = .ok (.iadd, 1) := dOk_get dq72_35 (i := 9) rfl
theorem dL_1242 : decode code 1242 = .ok (.iaload, 1) := dOk_get dq72_35 (i := 10) rfl
theorem dL_1243 : decode code 1243 = .ok (.aload_n 0, 1) := dOk_get dq72_35 (i := 11) rfl
theorem dL_1244 : decode code 1244 = .ok (.iload_n 3, 1) := dOk_get dq72_35 (i := 12) rfl
theorem dL_1245 : decode code 1245 = .ok (.iconst 4, 1) := dOk_get dq72_35 (i := 13) rfl
theorem dL_1246 : decode code 1246 = .ok (.iadd, 1) := dOk_get dq72_35 (i := 14) rfl
theorem dL_1247 : decode code 1247 = .ok (.iaload, 1) := dOk_get dq72_35 (i := 15) rfl
theorem dL_1248 : decode code 1248 = .ok (.aload_n 0, 1) := dOk_get dq72_35 (i := 16) rfl
theorem dL_1249 : decode code 1249 = .ok (.iload_n 3, 1) := dOk_get dq72_35 (i := 17) rfl
theorem dL_1250 : decode code 1250 = .ok (.iconst 5, 1) := dOk_get dq72_35 (i := 18) rfl
theorem dL_1251 : decode code 1251 = .ok (.iadd, 1) := dOk_get dq72_35 (i := 19) rfl
theorem dL_1252 : decode code 1252 = .ok (.iaload, 1) := dOk_get dq72_35 (i := 20) rfl
theorem dL_1253 : decode code 1253 = .ok (.invokevirtual 140, 3) := dOk_get dq72_35 (i := 21) rfl
theorem dL_1256 : decode code 1256 = .ok (.pop, 1) := dOk_get dq72_35 (i := 22) rfl
theorem dL_1257 : decode code 1257 = .ok (.goto 167, 3) := dOk_get dq72_35 (i := 23) rfl
theorem dL_1260 : decode code 1260 = .ok (.aload_n 1, 1) := dOk_get dq72_35 (i := 24) rfl
theorem dq72_36 : dOk code [(1261, .aload_n 0, 1), (1262, .iload_n 3, 1), (1263, .iconst 1, 1), (1264, .iadd, 1), (1265, .iaload, 1), (1266, .invokevirtual 141, 3), (1269, .pop, 1), (1270, .aload_n 2, 1), (1271, .aload_n 0, 1), (1272, .iload_n 3, 1), (1273, .iconst 1, 1), (1274, .iadd, 1), (1275, .iaload, 1), (1276, .invokevirtual 144, 3), (1279, .pop, 1), (1280, .goto 144, 3), (1283, .aload_n 1, 1), (1284, .aload_n 0, 1), (1285, .iload_n 3, 1), (1286, .iconst 1, 1), (1287, .iadd, 1), (1288, .iaload, 1), (1289, .aload_n 0, 1), (1290, .iload_n 3, 1), (1291, .iconst 2, 1)] = true := by decide +kernel
theorem dL_1261 : decode code 1261 = .ok (.aload_n 0, 1) := dOk_get dq72_36 (i := 0) rfl
theorem dL_1262 : decode code 1262 = .ok (.iload_n 3, 1) := dOk_get dq72_36 (i := 1) rfl
theorem dL_1263 : decode code 1263 = .ok (.iconst 1, 1) := dOk_get dq72_36 (i := 2) rfl
theorem dL_1264 : decode code 1264 = .ok (.iadd, 1) := dOk_get dq72_36 (i := 3) rfl
theorem dL_1265 : decode code 1265 = .ok (.iaload, 1) := dOk_get dq72_36 (i := 4) rfl
theorem dL_1266 : decode code 1266 = .ok (.invokevirtual 141, 3) := dOk_get dq72_36 (i := 5) rfl
theorem dL_1269 : decode code 1269 = .ok (.pop, 1) := dOk_get dq72_36 (i := 6) rfl
theorem dL_1270 : decode code 1270 = .ok (.aload_n 2, 1) := dOk_get dq72_36 (i := 7) rfl
theorem dL_1271 : decode code 1271 = .ok (.aload_n 0, 1) := dOk_get dq72_36 (i := 8) rfl
theorem dL_1272 : decode code 1272 = .ok (.iload_n 3, 1) := dOk_get dq72_36 (i := 9) rfl
theorem dL_1273 : decode code 1273 = .ok (.iconst 1, 1) := dOk_get dq72_36 (i := 10) rfl
theorem dL_1274 : decode code 1274 = .ok (.iadd, 1) := dOk_get dq72_36 (i := 11) rfl
theorem dL_1275 : decode code 1275 = .ok (.iaload, 1) := dOk_get dq72_36 (i := 12) rfl
theorem dL_1276 : decode code 1276 = .ok (.invokevirtual 144, 3) := dOk_get dq72_36 (i := 13) rfl
theorem dL_1279 : decode code 1279 = .ok (.pop, 1) := dOk_get dq72_36 (i := 14) rfl
theorem dL_1280 : decode code 1280 = .ok (.goto 144, 3) := dOk_get dq72_36 (i := 15) rfl
theorem dL_1283 : decode code 1283 = .ok (.aload_n 1, 1) := dOk_get dq72_36 (i := 16) rfl
theorem dL_1284 : decode code 1284 = .ok (.aload_n 0, 1) := dOk_get dq72_36 (i := 17) rfl
theorem dL_1285 : decode code 1285 = .ok (.iload_n 3, 1) := dOk_get dq72_36 (i := 18) rfl
theorem dL_1286 : decode code 1286 = .ok (.iconst 1, 1) := dOk_get dq72_36 (i := 19) rfl
theorem dL_1287 : decode code 1287 = .ok (.iadd, 1) := dOk_get dq72_36 (i := 20) rfl
theorem dL_1288 : decode code 1288 = .ok (.iaload, 1) := dOk_get dq72_36 (i := 21) rfl
theorem dL_1289 : decode code 1289 = .ok (.aload_n 0, 1) := dOk_get dq72_36 (i := 22) rfl
theorem dL_1290 : decode code 1290 = .ok (.iload_n 3, 1) := dOk_get dq72_36 (i := 23) rfl
theorem dL_1291 : decode code 1291 = .ok (.iconst 2, 1) := dOk_get dq72_36 (i := 24) rfl
theorem dq72_37 : dOk code [(1292, .iadd, 1), (1293, .iaload, 1), (1294, .invokevirtual 145, 3), (1297, .pop, 1), (1298, .aload_n 2, 1), (1299, .aload_n 0, 1), (1300, .iload_n 3, 1), (1301, .iconst 1, 1), (1302, .iadd, 1), (1303, .iaload, 1), (1304, .aload_n 0, 1), (1305, .iload_n 3, 1), (1306, .iconst 2, 1), (1307, .iadd, 1), (1308, .iaload, 1), (1309, .invokevirtual 148, 3), (1312, .pop, 1), (1313, .goto 111, 3), (1316, .aload_n 1, 1), (1317, .invokevirtual 149, 3), (1320, .pop, 1), (1321, .aload_n 2, 1), (1322, .invokevirtual 152, 3), (1325, .pop, 1), (1326, .goto 98, 3)] = true := by decide +kernel
theorem dL_1292 : decode code 1292 = .ok (.iadd, 1) := dOk_get dq72_37 (i := 0) rfl
theorem dL_1293 : decode code 1293 = .ok (.iaload, 1) := dOk_get dq72_37 (i := 1) rfl
theorem dL_1294 : decode code 1294 = .ok (.invokevirtual 145, 3) := dOk_get dq72_37 (i := 2) rfl
theorem dL_1297 : decode code 1297 = .ok (.pop, 1) := dOk_get dq72_37 (i := 3) rfl
theorem dL_1298 : decode code 1298 = .ok (.aload_n 2, 1) := dOk_get dq72_37 (i := 4) rfl
theorem dL_1299 : decode code 1299 = .ok (.aload_n 0, 1) := dOk_get dq72_37 (i := 5) rfl
theorem dL_1300 : decode code 1300 = .ok (.iload_n 3, 1) := dOk_get dq72_37 (i := 6) rfl
theorem dL_1301 : decode code 1301 = .ok (.iconst 1, 1) := dOk_get dq72_37 (i := 7) rfl
theorem dL_1302 : decode code 1302 = .ok (.iadd, 1) := dOk_get dq72_37 (i := 8) rfl
theorem dL_1303 : decode code 1303 = .ok (.iaload, 1) := dOk_get dq72_37 (i := 9) rfl
theorem dL_1304 : decode code 1304 = .ok (.aload_n 0, 1) := dOk_get dq72_37 (i := 10) rfl
theorem dL_1305 : decode code 1305 = .ok (.iload_n 3, 1) := dOk_get dq72_37 (i := 11) rfl
theorem dL_1306 : decode code 1306 = .ok (.iconst 2, 1) := dOk_get dq72_37 (i := 12) rfl
theorem dL_1307 : decode code 1307 = .ok (.iadd, 1) := dOk_get dq72_37 (i := 13) rfl
theorem dL_1308 : decode code 1308 = .ok (.iaload, 1) := dOk_get dq72_37 (i := 14) rfl
theorem dL_1309 : decode code 1309 = .ok (.invokevirtual 148, 3) := dOk_get dq72_37 (i := 15) rfl
theorem dL_1312 : decode code 1312 = .ok (.pop, 1) := dOk_get dq72_37 (i := 16) rfl
theorem dL_1313 : decode code 1313 = .ok (.goto 111, 3) := dOk_get dq72_37 (i := 17) rfl
theorem dL_1316 : decode code 1316 = .ok (.aload_n 1, 1) := dOk_get dq72_37 (i := 18) rfl
theorem dL_1317 : decode code 1317 = .ok (.invokevirtual 149, 3) := dOk_get dq72_37 (i := 19) rfl
theorem dL_1320 : decode code 1320 = .ok (.pop, 1) := dOk_get dq72_37 (i := 20) rfl
theorem dL_1321 : decode code 1321 = .ok (.aload_n 2, 1) := dOk_get dq72_37 (i := 21) rfl
theorem dL_1322 : decode code 1322 = .ok (.invokevirtual 152, 3) := dOk_get dq72_37 (i := 22) rfl
theorem dL_1325 : decode code 1325 = .ok (.pop, 1) := dOk_get dq72_37 (i := 23) rfl
theorem dL_1326 : decode code 1326 = .ok (.goto 98, 3) := dOk_get dq72_37 (i := 24) rfl
theorem dq72_38 : dOk code [(1329, .aload_n 1, 1), (1330, .invokevirtual 153, 3), (1333, .pop, 1), (1334, .aload_n 2, 1), (1335, .invokevirtual 156, 3), (1338, .pop, 1), (1339, .goto 85, 3), (1342, .aload_n 1, 1), (1343, .aload_n 0, 1), (1344, .iload_n 3, 1), (1345, .iconst 1, 1), (1346, .iadd, 1), (1347, .iaload, 1), (1348, .invokevirtual 157, 3), (1351, .pop, 1), (1352, .aload_n 2, 1), (1353, .aload_n 0, 1), (1354, .iload_n 3, 1), (1355, .iconst 1, 1), (1356, .iadd, 1), (1357, .iaload, 1), (1358, .invokevirtual 160, 3), (1361, .pop, 1), (1362, .goto 62, 3), (1365, .aload_n 1, 1)] = true := by decide +kernel
theorem dL_1329 : decode code 1329 = .ok (.aload_n 1, 1) := dOk_get dq72_38 (i := 0) rfl
theorem dL_1330 : decode code 1330 = .ok (.invokevirtual 153, 3) := dOk_get dq72_38 (i := 1) rfl
theorem dL_1333 : decode code 1333 = .ok (.pop, 1) := dOk_get dq72_38 (i := 2) rfl
theorem dL_1334 : decode code 1334 = .ok (.aload_n 2, 1) := dOk_get dq72_38 (i := 3) rfl
theorem dL_1335 : decode code 1335 = .ok (.invokevirtual 156, 3) := dOk_get dq72_38 (i := 4) rfl
theorem dL_1338 : decode code 1338 = .ok (.pop, 1) := dOk_get dq72_38 (i := 5) rfl
theorem dL_1339 : decode code 1339 = .ok (.goto 85, 3) := dOk_get dq72_38 (i := 6) rfl
theorem dL_1342 : decode code 1342 = .ok (.aload_n 1, 1) := dOk_get dq72_38 (i := 7) rfl
theorem dL_1343 : decode code 1343 = .ok (.aload_n 0, 1) := dOk_get dq72_38 (i := 8) rfl
theorem dL_1344 : decode code 1344 = .ok (.iload_n 3, 1) := dOk_get dq72_38 (i := 9) rfl
theorem dL_1345 : decode code 1345 = .ok (.iconst 1, 1) := dOk_get dq72_38 (i := 10) rfl
theorem dL_1346 : decode code 1346 = .ok (.iadd, 1) := dOk_get dq72_38 (i := 11) rfl
theorem dL_1347 : decode code 1347 = .ok (.iaload, 1) := dOk_get dq72_38 (i := 12) rfl
theorem dL_1348 : decode code 1348 = .ok (.invokevirtual 157, 3) := dOk_get dq72_38 (i := 13) rfl
theorem dL_1351 : decode code 1351 = .ok (.pop, 1) := dOk_get dq72_38 (i := 14) rfl
theorem dL_1352 : decode code 1352 = .ok (.aload_n 2, 1) := dOk_get dq72_38 (i := 15) rfl
theorem dL_1353 : decode code 1353 = .ok (.aload_n 0, 1) := dOk_get dq72_38 (i := 16) rfl
theorem dL_1354 : decode code 1354 = .ok (.iload_n 3, 1) := dOk_get dq72_38 (i := 17) rfl
theorem dL_1355 : decode code 1355 = .ok (.iconst 1, 1) := dOk_get dq72_38 (i := 18) rfl
theorem dL_1356 : decode code 1356 = .ok (.iadd, 1) := dOk_get dq72_38 (i := 19) rfl
theorem dL_1357 : decode code 1357 = .ok (.iaload, 1) := dOk_get dq72_38 (i := 20) rfl
theorem dL_1358 : decode code 1358 = .ok (.invokevirtual 160, 3) := dOk_get dq72_38 (i := 21) rfl
theorem dL_1361 : decode code 1361 = .ok (.pop, 1) := dOk_get dq72_38 (i := 22) rfl
theorem dL_1362 : decode code 1362 = .ok (.goto 62, 3) := dOk_get dq72_38 (i := 23) rfl
theorem dL_1365 : decode code 1365 = .ok (.aload_n 1, 1) := dOk_get dq72_38 (i := 24) rfl
theorem dq72_39 : dOk code [(1366, .invokevirtual 161, 3), (1369, .pop, 1), (1370, .aload_n 2, 1), (1371, .invokevirtual 164, 3), (1374, .pop, 1), (1375, .goto 49, 3), (1378, .aload_n 1, 1), (1379, .aload_n 0, 1), (1380, .iload_n 3, 1), (1381, .iconst 1, 1), (1382, .iadd, 1), (1383, .iaload, 1), (1384, .invokevirtual 165, 3), (1387, .pop, 1), (1388, .aload_n 2, 1), (1389, .aload_n 0, 1), (1390, .iload_n 3, 1), (1391, .iconst 1, 1), (1392, .iadd, 1), (1393, .iaload, 1), (1394, .invokevirtual 168, 3), (1397, .pop, 1), (1398, .goto 26, 3), (1401, .aload_n 1, 1), (1402, .aload_n 0, 1)] = true := by decide +kernel
theorem dL_1366 : decode code 1366 = .ok (.invokevirtual 161, 3) := dOk_get dq72_39 (i := 0) rfl
theorem dL_1369 : decode code 1369 = .ok (.pop, 1) := dOk_get dq72_39 (i := 1) rfl
theorem dL_1370 : decode code 1370 = .ok (.aload_n 2, 1) := dOk_get dq72_39 (i := 2) rfl
theorem dL_1371 : decode code 1371 = .ok (.invokevirtual 164, 3) := dOk_get dq72_39 (i := 3) rfl
theorem dL_1374 : decode code 1374 = .ok (.pop, 1) := dOk_get dq72_39 (i := 4) rfl
theorem dL_1375 : decode code 1375 = .ok (.goto 49, 3) := dOk_get dq72_39 (i := 5) rfl
theorem dL_1378 : decode code 1378 = .ok (.aload_n 1, 1) := dOk_get dq72_39 (i := 6) rfl
theorem dL_1379 : decode code 1379 = .ok (.aload_n 0, 1) := dOk_get dq72_39 (i := 7) rfl
theorem dL_1380 : decode code 1380 = .ok (.iload_n 3, 1) := dOk_get dq72_39 (i := 8) rfl
theorem dL_1381 : decode code 1381 = .ok (.iconst 1, 1) := dOk_get dq72_39 (i := 9) rfl
theorem dL_1382 : decode code 1382 = .ok (.iadd, 1) := dOk_get dq72_39 (i := 10) rfl
theorem dL_1383 : decode code 1383 = .ok (.iaload, 1) := dOk_get dq72_39 (i := 11) rfl
theorem dL_1384 : decode code 1384 = .ok (.invokevirtual 165, 3) := dOk_get dq72_39 (i := 12) rfl
theorem dL_1387 : decode code 1387 = .ok (.pop, 1) := dOk_get dq72_39 (i := 13) rfl
theorem dL_1388 : decode code 1388 = .ok (.aload_n 2, 1) := dOk_get dq72_39 (i := 14) rfl
theorem dL_1389 : decode code 1389 = .ok (.aload_n 0, 1) := dOk_get dq72_39 (i := 15) rfl
theorem dL_1390 : decode code 1390 = .ok (.iload_n 3, 1) := dOk_get dq72_39 (i := 16) rfl
theorem dL_1391 : decode code 1391 = .ok (.iconst 1, 1) := dOk_get dq72_39 (i := 17) rfl
theorem dL_1392 : decode code 1392 = .ok (.iadd, 1) := dOk_get dq72_39 (i := 18) rfl
theorem dL_1393 : decode code 1393 = .ok (.iaload, 1) := dOk_get dq72_39 (i := 19) rfl
theorem dL_1394 : decode code 1394 = .ok (.invokevirtual 168, 3) := dOk_get dq72_39 (i := 20) rfl
theorem dL_1397 : decode code 1397 = .ok (.pop, 1) := dOk_get dq72_39 (i := 21) rfl
theorem dL_1398 : decode code 1398 = .ok (.goto 26, 3) := dOk_get dq72_39 (i := 22) rfl
theorem dL_1401 : decode code 1401 = .ok (.aload_n 1, 1) := dOk_get dq72_39 (i := 23) rfl
theorem dL_1402 : decode code 1402 = .ok (.aload_n 0, 1) := dOk_get dq72_39 (i := 24) rfl
theorem dq72_40 : dOk code [(1403, .iload_n 3, 1), (1404, .iconst 1, 1), (1405, .iadd, 1), (1406, .iaload, 1), (1407, .invokevirtual 169, 3), (1410, .pop, 1), (1411, .aload_n 2, 1), (1412, .aload_n 0, 1), (1413, .iload_n 3, 1), (1414, .iconst 1, 1), (1415, .iadd, 1), (1416, .iaload, 1), (1417, .invokevirtual 172, 3), (1420, .pop, 1), (1421, .goto 3, 3), (1424, .iinc 3 6, 3), (1427, .goto (-1409), 3), (1430, .iconst 1, 1), (1431, .ireturn, 1)] = true := by decide +kernel
theorem dL_1403 : decode code 1403 = .ok (.iload_n 3, 1) := dOk_get dq72_40 (i := 0) rfl
theorem dL_1404 : decode code 1404 = .ok (.iconst 1, 1) := dOk_get dq72_40 (i := 1) rfl
theorem dL_1405 : decode code 1405 = .ok (.iadd, 1) := dOk_get dq72_40 (i := 2) rfl
theorem dL_1406 : decode code 1406 = .ok (.iaload, 1) := dOk_get dq72_40 (i := 3) rfl
theorem dL_1407 : decode code 1407 = .ok (.invokevirtual 169, 3) := dOk_get dq72_40 (i := 4) rfl
theorem dL_1410 : decode code 1410 = .ok (.pop, 1) := dOk_get dq72_40 (i := 5) rfl
theorem dL_1411 : decode code 1411 = .ok (.aload_n 2, 1) := dOk_get dq72_40 (i := 6) rfl
theorem dL_1412 : decode code 1412 = .ok (.aload_n 0, 1) := dOk_get dq72_40 (i := 7) rfl
theorem dL_1413 : decode code 1413 = .ok (.iload_n 3, 1) := dOk_get dq72_40 (i := 8) rfl
theorem dL_1414 : decode code 1414 = .ok (.iconst 1, 1) := dOk_get dq72_40 (i := 9) rfl
theorem dL_1415 : decode code 1415 = .ok (.iadd, 1) := dOk_get dq72_40 (i := 10) rfl
theorem dL_1416 : decode code 1416 = .ok (.iaload, 1) := dOk_get dq72_40 (i := 11) rfl
theorem dL_1417 : decode code 1417 = .ok (.invokevirtual 172, 3) := dOk_get dq72_40 (i := 12) rfl
theorem dL_1420 : decode code 1420 = .ok (.pop, 1) := dOk_get dq72_40 (i := 13) rfl
theorem dL_1421 : decode code 1421 = .ok (.goto 3, 3) := dOk_get dq72_40 (i := 14) rfl
theorem dL_1424 : decode code 1424 = .ok (.iinc 3 6, 3) := dOk_get dq72_40 (i := 15) rfl
theorem dL_1427 : decode code 1427 = .ok (.goto (-1409), 3) := dOk_get dq72_40 (i := 16) rfl
theorem dL_1430 : decode code 1430 = .ok (.iconst 1, 1) := dOk_get dq72_40 (i := 17) rfl
theorem dL_1431 : decode code 1431 = .ok (.ireturn, 1) := dOk_get dq72_40 (i := 18) rfl
