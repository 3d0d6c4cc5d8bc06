theorem d_328_115 : decode (mC 328) 115 = .ok (.getfield 387, 3) := by decide +kernel
theorem d_328_118 : decode (mC 328) 118 = .ok (.ireturn, 1) := by decide +kernel
theorem d_328_119 : decode (mC 328) 119 = .ok (.aload_n 0, 1) := by decide +kernel
theorem d_328_120 : decode (mC 328) 120 = .ok (.getfield 390, 3) := by decide +kernel
theorem d_328_123 : decode (mC 328) 123 = .ok (.ireturn, 1) := by decide +kernel
theorem d_328_124 : decode (mC 328) 124 = .ok (.aload_n 0, 1) := by decide +kernel
theorem d_328_125 : decode (mC 328) 125 = .ok (.getfield 393, 3) := by decide +kernel
theorem d_328_128 : decode (mC 328) 128 = .ok (.ireturn, 1) := by decide +kernel
theorem d_328_129 : decode (mC 328) 129 = .ok (.aload_n 0, 1) := by decide +kernel
theorem d_328_130 : decode (mC 328) 130 = .ok (.getfield 485, 3) := by decide +kernel
theorem d_328_133 : decode (mC 328) 133 = .ok (.ireturn, 1) := by decide +kernel
theorem d_328_134 : decode (mC 328) 134 = .ok (.aload_n 0, 1) := by decide +kernel
theorem d_328_135 : decode (mC 328) 135 = .ok (.getfield 112, 3) := by decide +kernel
theorem d_328_138 : decode (mC 328) 138 = .ok (.ireturn, 1) := by decide +kernel
theorem d_328_139 : decode (mC 328) 139 = .ok (.aload_n 0, 1) := by decide +kernel
theorem d_328_140 : decode (mC 328) 140 = .ok (.getfield 384, 3) := by decide +kernel
theorem fk_CordLoftModel_384 : FK 0 "CordLoftModel" 384 12 21 := ⟨⟨_, rfl, by decide, List.mem_of_getElem? (i := 1312) (by decide +kernel)⟩, rfl, by decide⟩
theorem d_328_143 : decode (mC 328) 143 = .ok (.ireturn, 1) := by decide +kernel
theorem d_328_144 : decode (mC 328) 144 = .ok (.aload_n 0, 1) := by decide +kernel
theorem d_328_145 : decode (mC 328) 145 = .ok (.getfield 396, 3) := by decide +kernel
theorem d_328_148 : decode (mC 328) 148 = .ok (.ireturn, 1) := by decide +kernel
theorem d_328_149 : decode (mC 328) 149 = .ok (.aload_n 0, 1) := by decide +kernel
theorem d_328_150 : decode (mC 328) 150 = .ok (.getfield 375, 3) := by decide +kernel
theorem d_328_153 : decode (mC 328) 153 = .ok (.ireturn, 1) := by decide +kernel
theorem d_328_154 : decode (mC 328) 154 = .ok (.aload_n 0, 1) := by decide +kernel
theorem d_328_155 : decode (mC 328) 155 = .ok (.getfield 378, 3) := by decide +kernel
theorem d_328_158 : decode (mC 328) 158 = .ok (.ireturn, 1) := by decide +kernel
theorem d_328_159 : decode (mC 328) 159 = .ok (.iconst (-1), 1) := by decide +kernel
theorem d_328_160 : decode (mC 328) 160 = .ok (.ireturn, 1) := by decide +kernel
theorem ml_328 : mL 328 = 2 := by decide +kernel
theorem d_329_1358 : decode (mC 329) 1358 = .ok (.invokevirtual 210, 3) := by decide +kernel
theorem mo_315 : MOK 315 := ⟨List.mem_of_getElem? (i := 1976) (by decide +kernel), by decide +kernel, ⟨by decide +kernel, by decide +kernel⟩, List.mem_of_getElem? (i := 100) (by decide +kernel), by decide +kernel⟩
theorem m0_315 : M0K 315 := ⟨by decide +kernel, by decide +kernel⟩
theorem vk_329_210 : VK 329 210 315 2 12 := ⟨⟨List.mem_of_getElem? (i := 1973) (by decide +kernel), by decide +kernel⟩, List.mem_of_getElem? (i := 1974) (by decide +kernel), mo_315, m0_315, _, rfl, List.mem_of_getElem? (i := 1975) (by decide +kernel), by decide⟩
theorem d_329_1361 : decode (mC 329) 1361 = .ok (.if_icmp .eq 232, 3) := by decide +kernel
theorem d_329_1593 : decode (mC 329) 1593 = .ok (.iinc 3 6, 3) := by decide +kernel
theorem ic_6 : Int32.ofInt 6 = 6 := by decide +kernel
theorem ml_329 : mL 329 = 4 := by decide +kernel
theorem d_329_1596 : decode (mC 329) 1596 = .ok (.goto (-1578), 3) := by decide +kernel
theorem d_329_1364 : decode (mC 329) 1364 = .ok (.iconst 0, 1) := by decide +kernel
theorem d_329_1365 : decode (mC 329) 1365 = .ok (.ireturn, 1) := by decide +kernel
theorem mr_329 : mR 329 = some .boolean := by decide +kernel
theorem d_329_1336 : decode (mC 329) 1336 = .ok (.invokevirtual 206, 3) := by decide +kernel
theorem mo_180 : MOK 180 := ⟨List.mem_of_getElem? (i := 1208) (by decide +kernel), by decide +kernel, ⟨by decide +kernel, by decide +kernel⟩, List.mem_of_getElem? (i := 88) (by decide +kernel), by decide +kernel⟩
theorem m0_180 : M0K 180 := ⟨by decide +kernel, by decide +kernel⟩
theorem vk_329_206 : VK 329 206 180 2 11 := ⟨⟨List.mem_of_getElem? (i := 1205) (by decide +kernel), by decide +kernel⟩, List.mem_of_getElem? (i := 1206) (by decide +kernel), mo_180, m0_180, _, rfl, List.mem_of_getElem? (i := 1207) (by decide +kernel), by decide⟩
theorem d_329_1339 : decode (mC 329) 1339 = .ok (.aload_n 2, 1) := by decide +kernel
theorem d_329_1340 : decode (mC 329) 1340 = .ok (.aload_n 0, 1) := by decide +kernel
theorem d_329_1341 : decode (mC 329) 1341 = .ok (.iload_n 3, 1) := by decide +kernel
theorem d_329_1342 : decode (mC 329) 1342 = .ok (.iconst 1, 1) := by decide +kernel
theorem d_329_1343 : decode (mC 329) 1343 = .ok (.iadd, 1) := by decide +kernel
theorem d_329_1344 : decode (mC 329) 1344 = .ok (.iaload, 1) := by decide +kernel
theorem d_329_1345 : decode (mC 329) 1345 = .ok (.aload_n 0, 1) := by decide +kernel
theorem d_329_1346 : decode (mC 329) 1346 = .ok (.iload_n 3, 1) := by decide +kernel
theorem d_329_1347 : decode (mC 329) 1347 = .ok (.iconst 2, 1) := by decide +kernel
theorem d_329_1348 : decode (mC 329) 1348 = .ok (.iadd, 1) := by decide +kernel
theorem d_329_1349 : decode (mC 329) 1349 = .ok (.iaload, 1) := by decide +kernel
theorem d_329_1350 : decode (mC 329) 1350 = .ok (.ifCond .eq 7, 3) := by decide +kernel
theorem d_329_1357 : decode (mC 329) 1357 = .ok (.iconst 0, 1) := by decide +kernel
theorem d_329_1353 : decode (mC 329) 1353 = .ok (.iconst 1, 1) := by decide +kernel
theorem d_329_1354 : decode (mC 329) 1354 = .ok (.goto 4, 3) := by decide +kernel
theorem d_329_18 : decode (mC 329) 18 = .ok (.iload_n 3, 1) := by decide +kernel
theorem d_329_19 : decode (mC 329) 19 = .ok (.aload_n 0, 1) := by decide +kernel
theorem d_329_20 : decode (mC 329) 20 = .ok (.arraylength, 1) := by decide +kernel
theorem d_329_21 : decode (mC 329) 21 = .ok (.bipush 6, 2) := by decide +kernel
theorem d_329_23 : decode (mC 329) 23 = .ok (.isub, 1) := by decide +kernel
theorem d_329_24 : decode (mC 329) 24 = .ok (.if_icmp .gt 1575, 3) := by decide +kernel
theorem d_329_27 : decode (mC 329) 27 = .ok (.aload_n 0, 1) := by decide +kernel
theorem d_329_28 : decode (mC 329) 28 = .ok (.iload_n 3, 1) := by decide +kernel
theorem d_329_29 : decode (mC 329) 29 = .ok (.iaload, 1) := by decide +kernel
theorem d_329_30 : decode (mC 329) 30 = .ok (.bipush 63, 2) := by decide +kernel
theorem d_329_32 : decode (mC 329) 32 = .ok (.iand, 1) := by decide +kernel
theorem d_329_33 : decode (mC 329) 33 = .ok (.tableswitch 1560 0 56 #[243, 306, 329, 342, 365, 398, 431, 444, 467, 490, 513, 526, 539, 552, 585, 608, 641, 674, 697, 720, 733, 746, 769, 792, 825, 848, 871, 894, 917, 940, 963, 986, 999, 1022, 1045, 1068, 1081, 1104, 1117, 1130, 1153, 1166, 1179, 1192, 1205, 1228, 1261, 1284, 1333, 1356, 1379, 1402, 1425, 1458, 1491, 1514, 1537], 243) := by decide +kernel
theorem d_329_276 : decode (mC 329) 276 = .ok (.aload_n 1, 1) := by decide +kernel
theorem d_329_277 : decode (mC 329) 277 = .ok (.aload_n 0, 1) := by decide +kernel
theorem d_329_278 : decode (mC 329) 278 = .ok (.iload_n 3, 1) := by decide +kernel
theorem d_329_279 : decode (mC 329) 279 = .ok (.iconst 1, 1) := by decide +kernel
theorem d_329_280 : decode (mC 329) 280 = .ok (.iadd, 1) := by decide +kernel
theorem d_329_281 : decode (mC 329) 281 = .ok (.iaload, 1) := by decide +kernel
theorem d_329_282 : decode (mC 329) 282 = .ok (.aload_n 0, 1) := by decide +kernel
theorem d_329_283 : decode (mC 329) 283 = .ok (.iload_n 3, 1) := by decide +kernel
theorem d_329_284 : decode (mC 329) 284 = .ok (.iconst 2, 1) := by decide +kernel
theorem d_329_285 : decode (mC 329) 285 = .ok (.iadd, 1) := by decide +kernel
theorem d_329_286 : decode (mC 329) 286 = .ok (.iaload, 1) := by decide +kernel
theorem d_329_287 : decode (mC 329) 287 = .ok (.aload_n 0, 1) := by decide +kernel
theorem d_329_288 : decode (mC 329) 288 = .ok (.iload_n 3, 1) := by decide +kernel
theorem d_329_289 : decode (mC 329) 289 = .ok (.iconst 3, 1) := by decide +kernel
theorem d_329_290 : decode (mC 329) 290 = .ok (.iadd, 1) := by decide +kernel
theorem d_329_291 : decode (mC 329) 291 = .ok (.iaload, 1) := by decide +kernel
theorem d_329_292 : decode (mC 329) 292 = .ok (.aload_n 0, 1) := by decide +kernel
theorem d_329_293 : decode (mC 329) 293 = .ok (.iload_n 3, 1) := by decide +kernel
theorem d_329_294 : decode (mC 329) 294 = .ok (.iconst 4, 1) := by decide +kernel
theorem d_329_295 : decode (mC 329) 295 = .ok (.iadd, 1) := by decide +kernel
theorem d_329_296 : decode (mC 329) 296 = .ok (.iaload, 1) := by decide +kernel
theorem d_329_297 : decode (mC 329) 297 = .ok (.aload_n 0, 1) := by decide +kernel
theorem d_329_298 : decode (mC 329) 298 = .ok (.iload_n 3, 1) := by decide +kernel
theorem d_329_299 : decode (mC 329) 299 = .ok (.iconst 5, 1) := by decide +kernel
theorem d_329_300 : decode (mC 329) 300 = .ok (.iadd, 1) := by decide +kernel
theorem d_329_301 : decode (mC 329) 301 = .ok (.iaload, 1) := by decide +kernel
theorem d_329_302 : decode (mC 329) 302 = .ok (.invokevirtual 13, 3) := by decide +kernel
theorem mo_13 : MOK 13 := ⟨List.mem_of_getElem? (i := 532) (by decide +kernel), by decide +kernel, ⟨by decide +kernel, by decide +kernel⟩, List.mem_of_getElem? (i := 88) (by decide +kernel), by decide +kernel⟩
theorem m0_13 : M0K 13 := ⟨by decide +kernel, by decide +kernel⟩
theorem vk_329_13 : VK 329 13 13 5 11 := ⟨⟨List.mem_of_getElem? (i := 529) (by decide +kernel), by decide +kernel⟩, List.mem_of_getElem? (i := 530) (by decide +kernel), mo_13, m0_13, _, rfl, List.mem_of_getElem? (i := 531) (by decide +kernel), by decide⟩
theorem d_329_305 : decode (mC 329) 305 = .ok (.aload_n 2, 1) := by decide +kernel
theorem d_329_306 : decode (mC 329) 306 = .ok (.aload_n 0, 1) := by decide +kernel
theorem d_329_307 : decode (mC 329) 307 = .ok (.iload_n 3, 1) := by decide +kernel
theorem d_329_308 : decode (mC 329) 308 = .ok (.iconst 1, 1) := by decide +kernel
theorem d_329_309 : decode (mC 329) 309 = .ok (.iadd, 1) := by decide +kernel
theorem d_329_310 : decode (mC 329) 310 = .ok (.iaload, 1) := by decide +kernel
theorem d_329_311 : decode (mC 329) 311 = .ok (.aload_n 0, 1) := by decide +kernel
theorem d_329_312 : decode (mC 329) 312 = .ok (.iload_n 3, 1) := by decide +kernel
theorem d_329_313 : decode (mC 329) 313 = .ok (.iconst 2, 1) := by decide +kernel
theorem d_329_314 : decode (mC 329) 314 = .ok (.iadd, 1) := by decide +kernel
theorem d_329_315 : decode (mC 329) 315 = .ok (.iaload, 1) := by decide +kernel
theorem d_329_316 : decode (mC 329) 316 = .ok (.aload_n 0, 1) := by decide +kernel
theorem d_329_317 : decode (mC 329) 317 = .ok (.iload_n 3, 1) := by decide +kernel
theorem d_329_318 : decode (mC 329) 318 = .ok (.iconst 3, 1) := by decide +kernel
theorem d_329_319 : decode (mC 329) 319 = .ok (.iadd, 1) := by decide +kernel
theorem d_329_320 : decode (mC 329) 320 = .ok (.iaload, 1) := by decide +kernel
theorem d_329_321 : decode (mC 329) 321 = .ok (.aload_n 0, 1) := by decide +kernel
theorem d_329_322 : decode (mC 329) 322 = .ok (.iload_n 3, 1) := by decide +kernel
theorem d_329_323 : decode (mC 329) 323 = .ok (.iconst 4, 1) := by decide +kernel
theorem d_329_324 : decode (mC 329) 324 = .ok (.iadd, 1) := by decide +kernel
theorem d_329_325 : decode (mC 329) 325 = .ok (.iaload, 1) := by decide +kernel
theorem d_329_326 : decode (mC 329) 326 = .ok (.aload_n 0, 1) := by decide +kernel
theorem d_329_327 : decode (mC 329) 327 = .ok (.iload_n 3, 1) := by decide +kernel
theorem d_329_328 : decode (mC 329) 328 = .ok (.iconst 5, 1) := by decide +kernel
theorem d_329_329 : decode (mC 329) 329 = .ok (.iadd, 1) := by decide +kernel
theorem d_329_330 : decode (mC 329) 330 = .ok (.iaload, 1) := by decide +kernel
theorem d_329_331 : decode (mC 329) 331 = .ok (.invokevirtual 17, 3) := by decide +kernel
theorem mo_200 : MOK 200 := ⟨List.mem_of_getElem? (i := 1508) (by decide +kernel), by decide +kernel, ⟨by decide +kernel, by decide +kernel⟩, List.mem_of_getElem? (i := 100) (by decide +kernel), by decide +kernel⟩
theorem m0_200 : M0K 200 := ⟨by decide +kernel, by decide +kernel⟩
theorem vk_329_17 : VK 329 17 200 5 12 := ⟨⟨List.mem_of_getElem? (i := 1505) (by decide +kernel), by decide +kernel⟩, List.mem_of_getElem? (i := 1506) (by decide +kernel), mo_200, m0_200, _, rfl, List.mem_of_getElem? (i := 1507) (by decide +kernel), by decide⟩
theorem d_329_334 : decode (mC 329) 334 = .ok (.if_icmp .eq 1259, 3) := by decide +kernel
theorem d_329_337 : decode (mC 329) 337 = .ok (.iconst 0, 1) := by decide +kernel
theorem d_329_338 : decode (mC 329) 338 = .ok (.ireturn, 1) := by decide +kernel
theorem d_329_339 : decode (mC 329) 339 = .ok (.aload_n 1, 1) := by decide +kernel
theorem d_329_340 : decode (mC 329) 340 = .ok (.aload_n 0, 1) := by decide +kernel
theorem d_329_341 : decode (mC 329) 341 = .ok (.iload_n 3, 1) := by decide +kernel
theorem d_329_342 : decode (mC 329) 342 = .ok (.iconst 1, 1) := by decide +kernel
theorem d_329_343 : decode (mC 329) 343 = .ok (.iadd, 1) := by decide +kernel
theorem d_329_344 : decode (mC 329) 344 = .ok (.iaload, 1) := by decide +kernel
theorem d_329_345 : decode (mC 329) 345 = .ok (.invokevirtual 18, 3) := by decide +kernel
theorem mo_15 : MOK 15 := ⟨List.mem_of_getElem? (i := 540) (by decide +kernel), by decide +kernel, ⟨by decide +kernel, by decide +kernel⟩, List.mem_of_getElem? (i := 88) (by decide +kernel), by decide +kernel⟩
theorem m0_15 : M0K 15 := ⟨by decide +kernel, by decide +kernel⟩
theorem vk_329_18 : VK 329 18 15 1 11 := ⟨⟨List.mem_of_getElem? (i := 537) (by decide +kernel), by decide +kernel⟩, List.mem_of_getElem? (i := 538) (by decide +kernel), mo_15, m0_15, _, rfl, List.mem_of_getElem? (i := 539) (by decide +kernel), by decide⟩
theorem d_329_348 : decode (mC 329) 348 = .ok (.aload_n 2, 1) := by decide +kernel
theorem d_329_349 : decode (mC 329) 349 = .ok (.aload_n 0, 1) := by decide +kernel
theorem d_329_350 : decode (mC 329) 350 = .ok (.iload_n 3, 1) := by decide +kernel
theorem d_329_351 : decode (mC 329) 351 = .ok (.iconst 1, 1) := by decide +kernel
theorem d_329_352 : decode (mC 329) 352 = .ok (.iadd, 1) := by decide +kernel
theorem d_329_353 : decode (mC 329) 353 = .ok (.iaload, 1) := by decide +kernel
theorem d_329_354 : decode (mC 329) 354 = .ok (.invokevirtual 22, 3) := by decide +kernel
theorem mo_202 : MOK 202 := ⟨List.mem_of_getElem? (i := 1516) (by decide +kernel), by decide +kernel, ⟨by decide +kernel, by decide +kernel⟩, List.mem_of_getElem? (i := 100) (by decide +kernel), by decide +kernel⟩
theorem m0_202 : M0K 202 := ⟨by decide +kernel, by decide +kernel⟩
theorem vk_329_22 : VK 329 22 202 1 12 := ⟨⟨List.mem_of_getElem? (i := 1513) (by decide +kernel), by decide +kernel⟩, List.mem_of_getElem? (i := 1514) (by decide +kernel), mo_202, m0_202, _, rfl, List.mem_of_getElem? (i := 1515) (by decide +kernel), by decide⟩
theorem d_329_357 : decode (mC 329) 357 = .ok (.if_icmp .eq 1236, 3) := by decide +kernel
theorem d_329_360 : decode (mC 329) 360 = .ok (.iconst 0, 1) := by decide +kernel
theorem d_329_361 : decode (mC 329) 361 = .ok (.ireturn, 1) := by decide +kernel
theorem d_329_362 : decode (mC 329) 362 = .ok (.aload_n 1, 1) := by decide +kernel
theorem d_329_363 : decode (mC 329) 363 = .ok (.invokevirtual 23, 3) := by decide +kernel
theorem mo_16 : MOK 16 := ⟨List.mem_of_getElem? (i := 544) (by decide +kernel), by decide +kernel, ⟨by decide +kernel, by decide +kernel⟩, List.mem_of_getElem? (i := 88) (by decide +kernel), by decide +kernel⟩
theorem m0_16 : M0K 16 := ⟨by decide +kernel, by decide +kernel⟩
theorem vk_329_23 : VK 329 23 16 0 11 := ⟨⟨List.mem_of_getElem? (i := 541) (by decide +kernel), by decide +kernel⟩, List.mem_of_getElem? (i := 542) (by decide +kernel), mo_16, m0_16, _, rfl, List.mem_of_getElem? (i := 543) (by decide +kernel), by decide⟩
theorem d_329_366 : decode (mC 329) 366 = .ok (.aload_n 2, 1) := by decide +kernel
theorem d_329_367 : decode (mC 329) 367 = .ok (.invokevirtual 27, 3) := by decide +kernel
theorem mo_203 : MOK 203 := ⟨List.mem_of_getElem? (i := 1520) (by decide +kernel), by decide +kernel, ⟨by decide +kernel, by decide +kernel⟩, List.mem_of_getElem? (i := 100) (by decide +kernel), by decide +kernel⟩
theorem m0_203 : M0K 203 := ⟨by decide +kernel, by decide +kernel⟩
theorem vk_329_27 : VK 329 27 203 0 12 := ⟨⟨List.mem_of_getElem? (i := 1517) (by decide +kernel), by decide +kernel⟩, List.mem_of_getElem? (i := 1518) (by decide +kernel), mo_203, m0_203, _, rfl, List.mem_of_getElem? (i := 1519) (by decide +kernel), by decide⟩
theorem d_329_370 : decode (mC 329) 370 = .ok (.if_icmp .eq 1223, 3) := by decide +kernel
theorem d_329_373 : decode (mC 329) 373 = .ok (.iconst 0, 1) := by decide +kernel
theorem d_329_374 : decode (mC 329) 374 = .ok (.ireturn, 1) := by decide +kernel
theorem d_329_375 : decode (mC 329) 375 = .ok (.aload_n 1, 1) := by decide +kernel
theorem d_329_376 : decode (mC 329) 376 = .ok (.aload_n 0, 1) := by decide +kernel
theorem d_329_377 : decode (mC 329) 377 = .ok (.iload_n 3, 1) := by decide +kernel
theorem d_329_378 : decode (mC 329) 378 = .ok (.iconst 1, 1) := by decide +kernel
theorem d_329_379 : decode (mC 329) 379 = .ok (.iadd, 1) := by decide +kernel
theorem d_329_380 : decode (mC 329) 380 = .ok (.iaload, 1) := by decide +kernel
theorem d_329_381 : decode (mC 329) 381 = .ok (.invokevirtual 28, 3) := by decide +kernel
theorem mo_83 : MOK 83 := ⟨List.mem_of_getElem? (i := 807) (by decide +kernel), by decide +kernel, ⟨by decide +kernel, by decide +kernel⟩, List.mem_of_getElem? (i := 88) (by decide +kernel), by decide +kernel⟩
theorem m0_83 : M0K 83 := ⟨by decide +kernel, by decide +kernel⟩
theorem vk_329_28 : VK 329 28 83 1 11 := ⟨⟨List.mem_of_getElem? (i := 804) (by decide +kernel), by decide +kernel⟩, List.mem_of_getElem? (i := 805) (by decide +kernel), mo_83, m0_83, _, rfl, List.mem_of_getElem? (i := 806) (by decide +kernel), by decide⟩
theorem d_329_384 : decode (mC 329) 384 = .ok (.aload_n 2, 1) := by decide +kernel
theorem d_329_385 : decode (mC 329) 385 = .ok (.aload_n 0, 1) := by decide +kernel
theorem d_329_386 : decode (mC 329) 386 = .ok (.iload_n 3, 1) := by decide +kernel
theorem d_329_387 : decode (mC 329) 387 = .ok (.iconst 1, 1) := by decide +kernel
theorem d_329_388 : decode (mC 329) 388 = .ok (.iadd, 1) := by decide +kernel
theorem d_329_389 : decode (mC 329) 389 = .ok (.iaload, 1) := by decide +kernel
theorem d_329_390 : decode (mC 329) 390 = .ok (.invokevirtual 31, 3) := by decide +kernel
theorem mo_240 : MOK 240 := ⟨List.mem_of_getElem? (i := 1681) (by decide +kernel), by decide +kernel, ⟨by decide +kernel, by decide +kernel⟩, List.mem_of_getElem? (i := 100) (by decide +kernel), by decide +kernel⟩
theorem m0_240 : M0K 240 := ⟨by decide +kernel, by decide +kernel⟩
theorem vk_329_31 : VK 329 31 240 1 12 := ⟨⟨List.mem_of_getElem? (i := 1678) (by decide +kernel), by decide +kernel⟩, List.mem_of_getElem? (i := 1679) (by decide +kernel), mo_240, m0_240, _, rfl, List.mem_of_getElem? (i := 1680) (by decide +kernel), by decide⟩
theorem d_329_393 : decode (mC 329) 393 = .ok (.if_icmp .eq 1200, 3) := by decide +kernel
theorem d_329_396 : decode (mC 329) 396 = .ok (.iconst 0, 1) := by decide +kernel
theorem d_329_397 : decode (mC 329) 397 = .ok (.ireturn, 1) := by decide +kernel
theorem d_329_398 : decode (mC 329) 398 = .ok (.aload_n 1, 1) := by decide +kernel
theorem d_329_399 : decode (mC 329) 399 = .ok (.aload_n 0, 1) := by decide +kernel
theorem d_329_400 : decode (mC 329) 400 = .ok (.iload_n 3, 1) := by decide +kernel
theorem d_329_401 : decode (mC 329) 401 = .ok (.iconst 1, 1) := by decide +kernel
theorem d_329_402 : decode (mC 329) 402 = .ok (.iadd, 1) := by decide +kernel
theorem d_329_403 : decode (mC 329) 403 = .ok (.iaload, 1) := by decide +kernel
theorem d_329_404 : decode (mC 329) 404 = .ok (.aload_n 0, 1) := by decide +kernel
theorem d_329_405 : decode (mC 329) 405 = .ok (.iload_n 3, 1) := by decide +kernel
theorem d_329_406 : decode (mC 329) 406 = .ok (.iconst 2, 1) := by decide +kernel
theorem d_329_407 : decode (mC 329) 407 = .ok (.iadd, 1) := by decide +kernel
theorem d_329_408 : decode (mC 329) 408 = .ok (.iaload, 1) := by decide +kernel
theorem d_329_409 : decode (mC 329) 409 = .ok (.invokevirtual 32, 3) := by decide +kernel
theorem mo_85 : MOK 85 := ⟨List.mem_of_getElem? (i := 814) (by decide +kernel), by decide +kernel, ⟨by decide +kernel, by decide +kernel⟩, List.mem_of_getElem? (i := 88) (by decide +kernel), by decide +kernel⟩
theorem m0_85 : M0K 85 := ⟨by decide +kernel, by decide +kernel⟩
theorem vk_329_32 : VK 329 32 85 2 11 := ⟨⟨List.mem_of_getElem? (i := 811) (by decide +kernel), by decide +kernel⟩, List.mem_of_getElem? (i := 812) (by decide +kernel), mo_85, m0_85, _, rfl, List.mem_of_getElem? (i := 813) (by decide +kernel), by decide⟩
theorem d_329_412 : decode (mC 329) 412 = .ok (.aload_n 2, 1) := by decide +kernel
theorem d_329_413 : decode (mC 329) 413 = .ok (.aload_n 0, 1) := by decide +kernel
theorem d_329_414 : decode (mC 329) 414 = .ok (.iload_n 3, 1) := by decide +kernel
theorem d_329_415 : decode (mC 329) 415 = .ok (.iconst 1, 1) := by decide +kernel
theorem d_329_416 : decode (mC 329) 416 = .ok (.iadd, 1) := by decide +kernel
theorem d_329_417 : decode (mC 329) 417 = .ok (.iaload, 1) := by decide +kernel
theorem d_329_418 : decode (mC 329) 418 = .ok (.aload_n 0, 1) := by decide +kernel
theorem d_329_419 : decode (mC 329) 419 = .ok (.iload_n 3, 1) := by decide +kernel
theorem d_329_420 : decode (mC 329) 420 = .ok (.iconst 2, 1) := by decide +kernel
theorem d_329_421 : decode (mC 329) 421 = .ok (.iadd, 1) := by decide +kernel
theorem d_329_422 : decode (mC 329) 422 = .ok (.iaload, 1) := by decide +kernel
theorem d_329_423 : decode (mC 329) 423 = .ok (.invokevirtual 36, 3) := by decide +kernel
theorem mo_241 : MOK 241 := ⟨List.mem_of_getElem? (i := 1685) (by decide +kernel), by decide +kernel, ⟨by decide +kernel, by decide +kernel⟩, List.mem_of_getElem? (i := 100) (by decide +kernel), by decide +kernel⟩
theorem m0_241 : M0K 241 := ⟨by decide +kernel, by decide +kernel⟩
theorem vk_329_36 : VK 329 36 241 2 12 := ⟨⟨List.mem_of_getElem? (i := 1682) (by decide +kernel), by decide +kernel⟩, List.mem_of_getElem? (i := 1683) (by decide +kernel), mo_241, m0_241, _, rfl, List.mem_of_getElem? (i := 1684) (by decide +kernel), by decide⟩
theorem d_329_426 : decode (mC 329) 426 = .ok (.if_icmp .eq 1167, 3) := by decide +kernel
theorem d_329_429 : decode (mC 329) 429 = .ok (.iconst 0, 1) := by decide +kernel
theorem d_329_430 : decode (mC 329) 430 = .ok (.ireturn, 1) := by decide +kernel
theorem d_329_431 : decode (mC 329) 431 = .ok (.aload_n 1, 1) := by decide +kernel
theorem d_329_432 : decode (mC 329) 432 = .ok (.aload_n 0, 1) := by decide +kernel
theorem d_329_433 : decode (mC 329) 433 = .ok (.iload_n 3, 1) := by decide +kernel
theorem d_329_434 : decode (mC 329) 434 = .ok (.iconst 1, 1) := by decide +kernel
theorem d_329_435 : decode (mC 329) 435 = .ok (.iadd, 1) := by decide +kernel
theorem d_329_436 : decode (mC 329) 436 = .ok (.iaload, 1) := by decide +kernel
theorem d_329_437 : decode (mC 329) 437 = .ok (.aload_n 0, 1) := by decide +kernel
theorem d_329_438 : decode (mC 329) 438 = .ok (.iload_n 3, 1) := by decide +kernel
theorem d_329_439 : decode (mC 329) 439 = .ok (.iconst 2, 1) := by decide +kernel
theorem d_329_440 : decode (mC 329) 440 = .ok (.iadd, 1) := by decide +kernel
theorem d_329_441 : decode (mC 329) 441 = .ok (.iaload, 1) := by decide +kernel
theorem d_329_442 : decode (mC 329) 442 = .ok (.invokevirtual 37, 3) := by decide +kernel
theorem mo_87 : MOK 87 := ⟨List.mem_of_getElem? (i := 822) (by decide +kernel), by decide +kernel, ⟨by decide +kernel, by decide +kernel⟩, List.mem_of_getElem? (i := 88) (by decide +kernel), by decide +kernel⟩
theorem m0_87 : M0K 87 := ⟨by decide +kernel, by decide +kernel⟩
theorem vk_329_37 : VK 329 37 87 2 11 := ⟨⟨List.mem_of_getElem? (i := 819) (by decide +kernel), by decide +kernel⟩, List.mem_of_getElem? (i := 820) (by decide +kernel), mo_87, m0_87, _, rfl, List.mem_of_getElem? (i := 821) (by decide +kernel), by decide⟩
theorem d_329_445 : decode (mC 329) 445 = .ok (.aload_n 2, 1) := by decide +kernel
theorem d_329_446 : decode (mC 329) 446 = .ok (.aload_n 0, 1) := by decide +kernel
theorem d_329_447 : decode (mC 329) 447 = .ok (.iload_n 3, 1) := by decide +kernel
theorem d_329_448 : decode (mC 329) 448 = .ok (.iconst 1, 1) := by decide +kernel
theorem d_329_449 : decode (mC 329) 449 = .ok (.iadd, 1) := by decide +kernel
theorem d_329_450 : decode (mC 329) 450 = .ok (.iaload, 1) := by decide +kernel
theorem d_329_451 : decode (mC 329) 451 = .ok (.aload_n 0, 1) := by decide +kernel
theorem d_329_452 : decode (mC 329) 452 = .ok (.iload_n 3, 1) := by decide +kernel
theorem d_329_453 : decode (mC 329) 453 = .ok (.iconst 2, 1) := by decide +kernel
theorem d_329_454 : decode (mC 329) 454 = .ok (.iadd, 1) := by decide +kernel
theorem d_329_455 : decode (mC 329) 455 = .ok (.iaload, 1) := by decide +kernel
theorem d_329_456 : decode (mC 329) 456 = .ok (.invokevirtual 40, 3) := by decide +kernel
theorem mo_245 : MOK 245 := ⟨List.mem_of_getElem? (i := 1700) (by decide +kernel), by decide +kernel, ⟨by decide +kernel, by decide +kernel⟩, List.mem_of_getElem? (i := 100) (by decide +kernel), by decide +kernel⟩
theorem m0_245 : M0K 245 := ⟨by decide +kernel, by decide +kernel⟩
theorem vk_329_40 : VK 329 40 245 2 12 := ⟨⟨List.mem_of_getElem? (i := 1697) (by decide +kernel), by decide +kernel⟩, List.mem_of_getElem? (i := 1698) (by decide +kernel), mo_245, m0_245, _, rfl, List.mem_of_getElem? (i := 1699) (by decide +kernel), by decide⟩
theorem d_329_459 : decode (mC 329) 459 = .ok (.if_icmp .eq 1134, 3) := by decide +kernel
theorem d_329_462 : decode (mC 329) 462 = .ok (.iconst 0, 1) := by decide +kernel
theorem d_329_463 : decode (mC 329) 463 = .ok (.ireturn, 1) := by decide +kernel
theorem d_329_464 : decode (mC 329) 464 = .ok (.aload_n 1, 1) := by decide +kernel
theorem d_329_465 : decode (mC 329) 465 = .ok (.invokevirtual 41, 3) := by decide +kernel
theorem mo_89 : MOK 89 := ⟨List.mem_of_getElem? (i := 830) (by decide +kernel), by decide +kernel, ⟨by decide +kernel, by decide +kernel⟩, List.mem_of_getElem? (i := 88) (by decide +kernel), by decide +kernel⟩
theorem m0_89 : M0K 89 := ⟨by decide +kernel, by decide +kernel⟩
theorem vk_329_41 : VK 329 41 89 0 11 := ⟨⟨List.mem_of_getElem? (i := 827) (by decide +kernel), by decide +kernel⟩, List.mem_of_getElem? (i := 828) (by decide +kernel), mo_89, m0_89, _, rfl, List.mem_of_getElem? (i := 829) (by decide +kernel), by decide⟩
theorem d_329_468 : decode (mC 329) 468 = .ok (.aload_n 2, 1) := by decide +kernel
theorem d_329_469 : decode (mC 329) 469 = .ok (.invokevirtual 44, 3) := by decide +kernel
theorem mo_247 : MOK 247 := ⟨List.mem_of_getElem? (i := 1708) (by decide +kernel), by decide +kernel, ⟨by decide +kernel, by decide +kernel⟩, List.mem_of_getElem? (i := 100) (by decide +kernel), by decide +kernel⟩
theorem m0_247 : M0K 247 := ⟨by decide +kernel, by decide +kernel⟩
theorem vk_329_44 : VK 329 44 247 0 12 := ⟨⟨List.mem_of_getElem? (i := 1705) (by decide +kernel), by decide +kernel⟩, List.mem_of_getElem? (i := 1706) (by decide +kernel), mo_247, m0_247, _, rfl, List.mem_of_getElem? (i := 1707) (by decide +kernel), by decide⟩
theorem d_329_472 : decode (mC 329) 472 = .ok (.if_icmp .eq 1121, 3) := by decide +kernel
theorem d_329_475 : decode (mC 329) 475 = .ok (.iconst 0, 1) := by decide +kernel
theorem d_329_476 : decode (mC 329) 476 = .ok (.ireturn, 1) := by decide +kernel
theorem d_329_477 : decode (mC 329) 477 = .ok (.aload_n 1, 1) := by decide +kernel
theorem d_329_478 : decode (mC 329) 478 = .ok (.aload_n 0, 1) := by decide +kernel
theorem d_329_479 : decode (mC 329) 479 = .ok (.iload_n 3, 1) := by decide +kernel
theorem d_329_480 : decode (mC 329) 480 = .ok (.iconst 1, 1) := by decide +kernel
theorem d_329_481 : decode (mC 329) 481 = .ok (.iadd, 1) := by decide +kernel
theorem d_329_482 : decode (mC 329) 482 = .ok (.iaload, 1) := by decide +kernel
theorem d_329_483 : decode (mC 329) 483 = .ok (.invokevirtual 45, 3) := by decide +kernel
theorem mo_90 : MOK 90 := ⟨List.mem_of_getElem? (i := 834) (by decide +kernel), by decide +kernel, ⟨by decide +kernel, by decide +kernel⟩, List.mem_of_getElem? (i := 88) (by decide +kernel), by decide +kernel⟩
theorem m0_90 : M0K 90 := ⟨by decide +kernel, by decide +kernel⟩
theorem vk_329_45 : VK 329 45 90 1 11 := ⟨⟨List.mem_of_getElem? (i := 831) (by decide +kernel), by decide +kernel⟩, List.mem_of_getElem? (i := 832) (by decide +kernel), mo_90, m0_90, _, rfl, List.mem_of_getElem? (i := 833) (by decide +kernel), by decide⟩
theorem d_329_486 : decode (mC 329) 486 = .ok (.aload_n 2, 1) := by decide +kernel
theorem d_329_487 : decode (mC 329) 487 = .ok (.aload_n 0, 1) := by decide +kernel
theorem d_329_488 : decode (mC 329) 488 = .ok (.iload_n 3, 1) := by decide +kernel
theorem d_329_489 : decode (mC 329) 489 = .ok (.iconst 1, 1) := by decide +kernel
theorem d_329_490 : decode (mC 329) 490 = .ok (.iadd, 1) := by decide +kernel
theorem d_329_491 : decode (mC 329) 491 = .ok (.iaload, 1) := by decide +kernel
theorem d_329_492 : decode (mC 329) 492 = .ok (.invokevirtual 48, 3) := by decide +kernel
theorem mo_248 : MOK 248 := ⟨List.mem_of_getElem? (i := 1712) (by decide +kernel), by decide +kernel, ⟨by decide +kernel, by decide +kernel⟩, List.mem_of_getElem? (i := 100) (by decide +kernel), by decide +kernel⟩
theorem m0_248 : M0K 248 := ⟨by decide +kernel, by decide +kernel⟩
theorem vk_329_48 : VK 329 48 248 1 12 := ⟨⟨List.mem_of_getElem? (i := 1709) (by decide +kernel), by decide +kernel⟩, List.mem_of_getElem? (i := 1710) (by decide +kernel), mo_248, m0_248, _, rfl, List.mem_of_getElem? (i := 1711) (by decide +kernel), by decide⟩
theorem d_329_495 : decode (mC 329) 495 = .ok (.if_icmp .eq 1098, 3) := by decide +kernel
theorem d_329_498 : decode (mC 329) 498 = .ok (.iconst 0, 1) := by decide +kernel
theorem d_329_499 : decode (mC 329) 499 = .ok (.ireturn, 1) := by decide +kernel
theorem d_329_500 : decode (mC 329) 500 = .ok (.aload_n 1, 1) := by decide +kernel
theorem d_329_501 : decode (mC 329) 501 = .ok (.aload_n 0, 1) := by decide +kernel
theorem d_329_502 : decode (mC 329) 502 = .ok (.iload_n 3, 1) := by decide +kernel
theorem d_329_503 : decode (mC 329) 503 = .ok (.iconst 1, 1) := by decide +kernel
theorem d_329_504 : decode (mC 329) 504 = .ok (.iadd, 1) := by decide +kernel
theorem d_329_505 : decode (mC 329) 505 = .ok (.iaload, 1) := by decide +kernel
theorem d_329_506 : decode (mC 329) 506 = .ok (.invokevirtual 49, 3) := by decide +kernel
theorem mo_96 : MOK 96 := ⟨List.mem_of_getElem? (i := 860) (by decide +kernel), by decide +kernel, ⟨by decide +kernel, by decide +kernel⟩, List.mem_of_getElem? (i := 88) (by decide +kernel), by decide +kernel⟩
theorem m0_96 : M0K 96 := ⟨by decide +kernel, by decide +kernel⟩
theorem vk_329_49 : VK 329 49 96 1 11 := ⟨⟨List.mem_of_getElem? (i := 857) (by decide +kernel), by decide +kernel⟩, List.mem_of_getElem? (i := 858) (by decide +kernel), mo_96, m0_96, _, rfl, List.mem_of_getElem? (i := 859) (by decide +kernel), by decide⟩
theorem d_329_509 : decode (mC 329) 509 = .ok (.aload_n 2, 1) := by decide +kernel
theorem d_329_510 : decode (mC 329) 510 = .ok (.aload_n 0, 1) := by decide +kernel
theorem d_329_511 : decode (mC 329) 511 = .ok (.iload_n 3, 1) := by decide +kernel
theorem d_329_512 : decode (mC 329) 512 = .ok (.iconst 1, 1) := by decide +kernel
theorem d_329_513 : decode (mC 329) 513 = .ok (.iadd, 1) := by decide +kernel
theorem d_329_514 : decode (mC 329) 514 = .ok (.iaload, 1) := by decide +kernel
theorem d_329_515 : decode (mC 329) 515 = .ok (.invokevirtual 52, 3) := by decide +kernel
theorem mo_252 : MOK 252 := ⟨List.mem_of_getElem? (i := 1727) (by decide +kernel), by decide +kernel, ⟨by decide +kernel, by decide +kernel⟩, List.mem_of_getElem? (i := 100) (by decide +kernel), by decide +kernel⟩
theorem m0_252 : M0K 252 := ⟨by decide +kernel, by decide +kernel⟩
theorem vk_329_52 : VK 329 52 252 1 12 := ⟨⟨List.mem_of_getElem? (i := 1724) (by decide +kernel), by decide +kernel⟩, List.mem_of_getElem? (i := 1725) (by decide +kernel), mo_252, m0_252, _, rfl, List.mem_of_getElem? (i := 1726) (by decide +kernel), by decide⟩
theorem d_329_518 : decode (mC 329) 518 = .ok (.if_icmp .eq 1075, 3) := by decide +kernel
theorem d_329_521 : decode (mC 329) 521 = .ok (.iconst 0, 1) := by decide +kernel
theorem d_329_522 : decode (mC 329) 522 = .ok (.ireturn, 1) := by decide +kernel
theorem d_329_523 : decode (mC 329) 523 = .ok (.aload_n 1, 1) := by decide +kernel
theorem d_329_524 : decode (mC 329) 524 = .ok (.aload_n 0, 1) := by decide +kernel
theorem d_329_525 : decode (mC 329) 525 = .ok (.iload_n 3, 1) := by decide +kernel
theorem d_329_526 : decode (mC 329) 526 = .ok (.iconst 1, 1) := by decide +kernel
theorem d_329_527 : decode (mC 329) 527 = .ok (.iadd, 1) := by decide +kernel
theorem d_329_528 : decode (mC 329) 528 = .ok (.iaload, 1) := by decide +kernel
theorem d_329_529 : decode (mC 329) 529 = .ok (.invokevirtual 53, 3) := by decide +kernel
theorem mo_97 : MOK 97 := ⟨List.mem_of_getElem? (i := 864) (by decide +kernel), by decide +kernel, ⟨by decide +kernel, by decide +kernel⟩, List.mem_of_getElem? (i := 88) (by decide +kernel), by decide +kernel⟩
theorem m0_97 : M0K 97 := ⟨by decide +kernel, by decide +kernel⟩
theorem vk_329_53 : VK 329 53 97 1 11 := ⟨⟨List.mem_of_getElem? (i := 861) (by decide +kernel), by decide +kernel⟩, List.mem_of_getElem? (i := 862) (by decide +kernel), mo_97, m0_97, _, rfl, List.mem_of_getElem? (i := 863) (by decide +kernel), by decide⟩
theorem d_329_532 : decode (mC 329) 532 = .ok (.aload_n 2, 1) := by decide +kernel
theorem d_329_533 : decode (mC 329) 533 = .ok (.aload_n 0, 1) := by decide +kernel
theorem d_329_534 : decode (mC 329) 534 = .ok (.iload_n 3, 1) := by decide +kernel
theorem d_329_535 : decode (mC 329) 535 = .ok (.iconst 1, 1) := by decide +kernel
theorem d_329_536 : decode (mC 329) 536 = .ok (.iadd, 1) := by decide +kernel
theorem d_329_537 : decode (mC 329) 537 = .ok (.iaload, 1) := by decide +kernel
theorem d_329_538 : decode (mC 329) 538 = .ok (.invokevirtual 56, 3) := by decide +kernel
theorem mo_254 : MOK 254 := ⟨List.mem_of_getElem? (i := 1735) (by decide +kernel), by decide +kernel, ⟨by decide +kernel, by decide +kernel⟩, List.mem_of_getElem? (i := 100) (by decide +kernel), by decide +kernel⟩
theorem m0_254 : M0K 254 := ⟨by decide +kernel, by decide +kernel⟩
theorem vk_329_56 : VK 329 56 254 1 12 := ⟨⟨List.mem_of_getElem? (i := 1732) (by decide +kernel), by decide +kernel⟩, List.mem_of_getElem? (i := 1733) (by decide +kernel), mo_254, m0_254, _, rfl, List.mem_of_getElem? (i := 1734) (by decide +kernel), by decide⟩
theorem d_329_541 : decode (mC 329) 541 = .ok (.if_icmp .eq 1052, 3) := by decide +kernel
theorem d_329_544 : decode (mC 329) 544 = .ok (.iconst 0, 1) := by decide +kernel
theorem d_329_545 : decode (mC 329) 545 = .ok (.ireturn, 1) := by decide +kernel
theorem d_329_546 : decode (mC 329) 546 = .ok (.aload_n 1, 1) := by decide +kernel
theorem d_329_547 : decode (mC 329) 547 = .ok (.invokevirtual 57, 3) := by decide +kernel
theorem mo_99 : MOK 99 := ⟨List.mem_of_getElem? (i := 872) (by decide +kernel), by decide +kernel, ⟨by decide +kernel, by decide +kernel⟩, List.mem_of_getElem? (i := 88) (by decide +kernel), by decide +kernel⟩
theorem m0_99 : M0K 99 := ⟨by decide +kernel, by decide +kernel⟩
theorem vk_329_57 : VK 329 57 99 0 11 := ⟨⟨List.mem_of_getElem? (i := 869) (by decide +kernel), by decide +kernel⟩, List.mem_of_getElem? (i := 870) (by decide +kernel), mo_99, m0_99, _, rfl, List.mem_of_getElem? (i := 871) (by decide +kernel), by decide⟩
theorem d_329_550 : decode (mC 329) 550 = .ok (.aload_n 2, 1) := by decide +kernel
theorem d_329_551 : decode (mC 329) 551 = .ok (.invokevirtual 60, 3) := by decide +kernel
theorem mo_255 : MOK 255 := ⟨List.mem_of_getElem? (i := 1739) (by decide +kernel), by decide +kernel, ⟨by decide +kernel, by decide +kernel⟩, List.mem_of_getElem? (i := 100) (by decide +kernel), by decide +kernel⟩
theorem m0_255 : M0K 255 := ⟨by decide +kernel, by decide +kernel⟩
theorem vk_329_60 : VK 329 60 255 0 12 := ⟨⟨List.mem_of_getElem? (i := 1736) (by decide +kernel), by decide +kernel⟩, List.mem_of_getElem? (i := 1737) (by decide +kernel), mo_255, m0_255, _, rfl, List.mem_of_getElem? (i := 1738) (by decide +kernel), by decide⟩
theorem d_329_554 : decode (mC 329) 554 = .ok (.if_icmp .eq 1039, 3) := by decide +kernel
theorem d_329_557 : decode (mC 329) 557 = .ok (.iconst 0, 1) := by decide +kernel
theorem d_329_558 : decode (mC 329) 558 = .ok (.ireturn, 1) := by decide +kernel
theorem d_329_559 : decode (mC 329) 559 = .ok (.aload_n 1, 1) := by decide +kernel
theorem d_329_560 : decode (mC 329) 560 = .ok (.invokevirtual 61, 3) := by decide +kernel
theorem mo_108 : MOK 108 := ⟨List.mem_of_getElem? (i := 908) (by decide +kernel), by decide +kernel, ⟨by decide +kernel, by decide +kernel⟩, List.mem_of_getElem? (i := 88) (by decide +kernel), by decide +kernel⟩
theorem m0_108 : M0K 108 := ⟨by decide +kernel, by decide +kernel⟩
theorem vk_329_61 : VK 329 61 108 0 11 := ⟨⟨List.mem_of_getElem? (i := 905) (by decide +kernel), by decide +kernel⟩, List.mem_of_getElem? (i := 906) (by decide +kernel), mo_108, m0_108, _, rfl, List.mem_of_getElem? (i := 907) (by decide +kernel), by decide⟩
theorem d_329_563 : decode (mC 329) 563 = .ok (.aload_n 2, 1) := by decide +kernel
theorem d_329_564 : decode (mC 329) 564 = .ok (.invokevirtual 65, 3) := by decide +kernel
theorem mo_261 : MOK 261 := ⟨List.mem_of_getElem? (i := 1761) (by decide +kernel), by decide +kernel, ⟨by decide +kernel, by decide +kernel⟩, List.mem_of_getElem? (i := 100) (by decide +kernel), by decide +kernel⟩
theorem m0_261 : M0K 261 := ⟨by decide +kernel, by decide +kernel⟩
theorem vk_329_65 : VK 329 65 261 0 12 := ⟨⟨List.mem_of_getElem? (i := 1758) (by decide +kernel), by decide +kernel⟩, List.mem_of_getElem? (i := 1759) (by decide +kernel), mo_261, m0_261, _, rfl, List.mem_of_getElem? (i := 1760) (by decide +kernel), by decide⟩
theorem d_329_567 : decode (mC 329) 567 = .ok (.if_icmp .eq 1026, 3) := by decide +kernel
theorem d_329_570 : decode (mC 329) 570 = .ok (.iconst 0, 1) := by decide +kernel
theorem d_329_571 : decode (mC 329) 571 = .ok (.ireturn, 1) := by decide +kernel
theorem d_329_572 : decode (mC 329) 572 = .ok (.aload_n 1, 1) := by decide +kernel
theorem d_329_573 : decode (mC 329) 573 = .ok (.invokevirtual 66, 3) := by decide +kernel
theorem mo_110 : MOK 110 := ⟨List.mem_of_getElem? (i := 916) (by decide +kernel), by decide +kernel, ⟨by decide +kernel, by decide +kernel⟩, List.mem_of_getElem? (i := 88) (by decide +kernel), by decide +kernel⟩
theorem m0_110 : M0K 110 := ⟨by decide +kernel, by decide +kernel⟩
theorem vk_329_66 : VK 329 66 110 0 11 := ⟨⟨List.mem_of_getElem? (i := 913) (by decide +kernel), by decide +kernel⟩, List.mem_of_getElem? (i := 914) (by decide +kernel), mo_110, m0_110, _, rfl, List.mem_of_getElem? (i := 915) (by decide +kernel), by decide⟩
theorem d_329_576 : decode (mC 329) 576 = .ok (.aload_n 2, 1) := by decide +kernel
theorem d_329_577 : decode (mC 329) 577 = .ok (.invokevirtual 69, 3) := by decide +kernel
theorem mo_263 : MOK 263 := ⟨List.mem_of_getElem? (i := 1769) (by decide +kernel), by decide +kernel, ⟨by decide +kernel, by decide +kernel⟩, List.mem_of_getElem? (i := 100) (by decide +kernel), by decide +kernel⟩
theorem m0_263 : M0K 263 := ⟨by decide +kernel, by decide +kernel⟩
theorem vk_329_69 : VK 329 69 263 0 12 := ⟨⟨List.mem_of_getElem? (i := 1766) (by decide +kernel), by decide +kernel⟩, List.mem_of_getElem? (i := 1767) (by decide +kernel), mo_263, m0_263, _, rfl, List.mem_of_getElem? (i := 1768) (by decide +kernel), by decide⟩
theorem d_329_580 : decode (mC 329) 580 = .ok (.if_icmp .eq 1013, 3) := by decide +kernel
theorem d_329_583 : decode (mC 329) 583 = .ok (.iconst 0, 1) := by decide +kernel
theorem d_329_584 : decode (mC 329) 584 = .ok (.ireturn, 1) := by decide +kernel
theorem d_329_585 : decode (mC 329) 585 = .ok (.aload_n 1, 1) := by decide +kernel
theorem d_329_586 : decode (mC 329) 586 = .ok (.aload_n 0, 1) := by decide +kernel
theorem d_329_587 : decode (mC 329) 587 = .ok (.iload_n 3, 1) := by decide +kernel
theorem d_329_588 : decode (mC 329) 588 = .ok (.iconst 1, 1) := by decide +kernel
theorem d_329_589 : decode (mC 329) 589 = .ok (.iadd, 1) := by decide +kernel
theorem d_329_590 : decode (mC 329) 590 = .ok (.iaload, 1) := by decide +kernel
theorem d_329_591 : decode (mC 329) 591 = .ok (.aload_n 0, 1) := by decide +kernel
theorem d_329_592 : decode (mC 329) 592 = .ok (.iload_n 3, 1) := by decide +kernel
theorem d_329_593 : decode (mC 329) 593 = .ok (.iconst 2, 1) := by decide +kernel
theorem d_329_594 : decode (mC 329) 594 = .ok (.iadd, 1) := by decide +kernel
theorem d_329_595 : decode (mC 329) 595 = .ok (.iaload, 1) := by decide +kernel
theorem d_329_596 : decode (mC 329) 596 = .ok (.invokevirtual 70, 3) := by decide +kernel
theorem mo_112 : MOK 112 := ⟨List.mem_of_getElem? (i := 924) (by decide +kernel), by decide +kernel, ⟨by decide +kernel, by decide +kernel⟩, List.mem_of_getElem? (i := 88) (by decide +kernel), by decide +kernel⟩
theorem m0_112 : M0K 112 := ⟨by decide +kernel, by decide +kernel⟩
theorem vk_329_70 : VK 329 70 112 2 11 := ⟨⟨List.mem_of_getElem? (i := 921) (by decide +kernel), by decide +kernel⟩, List.mem_of_getElem? (i := 922) (by decide +kernel), mo_112, m0_112, _, rfl, List.mem_of_getElem? (i := 923) (by decide +kernel), by decide⟩
theorem d_329_599 : decode (mC 329) 599 = .ok (.aload_n 2, 1) := by decide +kernel
theorem d_329_600 : decode (mC 329) 600 = .ok (.aload_n 0, 1) := by decide +kernel
theorem d_329_601 : decode (mC 329) 601 = .ok (.iload_n 3, 1) := by decide +kernel
theorem d_329_602 : decode (mC 329) 602 = .ok (.iconst 1, 1) := by decide +kernel
theorem d_329_603 : decode (mC 329) 603 = .ok (.iadd, 1) := by decide +kernel
theorem d_329_604 : decode (mC 329) 604 = .ok (.iaload, 1) := by decide +kernel
theorem d_329_605 : decode (mC 329) 605 = .ok (.aload_n 0, 1) := by decide +kernel
theorem d_329_606 : decode (mC 329) 606 = .ok (.iload_n 3, 1) := by decide +kernel
theorem d_329_607 : decode (mC 329) 607 = .ok (.iconst 2, 1) := by decide +kernel
theorem d_329_608 : decode (mC 329) 608 = .ok (.iadd, 1) := by decide +kernel
theorem d_329_609 : decode (mC 329) 609 = .ok (.iaload, 1) := by decide +kernel
theorem d_329_610 : decode (mC 329) 610 = .ok (.invokevirtual 73, 3) := by decide +kernel
theorem mo_264 : MOK 264 := ⟨List.mem_of_getElem? (i := 1773) (by decide +kernel), by decide +kernel, ⟨by decide +kernel, by decide +kernel⟩, List.mem_of_getElem? (i := 100) (by decide +kernel), by decide +kernel⟩
theorem m0_264 : M0K 264 := ⟨by decide +kernel, by decide +kernel⟩
theorem vk_329_73 : VK 329 73 264 2 12 := ⟨⟨List.mem_of_getElem? (i := 1770) (by decide +kernel), by decide +kernel⟩, List.mem_of_getElem? (i := 1771) (by decide +kernel), mo_264, m0_264, _, rfl, List.mem_of_getElem? (i := 1772) (by decide +kernel), by decide⟩
theorem d_329_613 : decode (mC 329) 613 = .ok (.if_icmp .eq 980, 3) := by decide +kernel
theorem d_329_616 : decode (mC 329) 616 = .ok (.iconst 0, 1) := by decide +kernel
theorem d_329_617 : decode (mC 329) 617 = .ok (.ireturn, 1) := by decide +kernel
theorem d_329_618 : decode (mC 329) 618 = .ok (.aload_n 1, 1) := by decide +kernel
theorem d_329_619 : decode (mC 329) 619 = .ok (.aload_n 0, 1) := by decide +kernel
theorem d_329_620 : decode (mC 329) 620 = .ok (.iload_n 3, 1) := by decide +kernel
theorem d_329_621 : decode (mC 329) 621 = .ok (.iconst 1, 1) := by decide +kernel
theorem d_329_622 : decode (mC 329) 622 = .ok (.iadd, 1) := by decide +kernel
theorem d_329_623 : decode (mC 329) 623 = .ok (.iaload, 1) := by decide +kernel
theorem d_329_624 : decode (mC 329) 624 = .ok (.invokevirtual 74, 3) := by decide +kernel
theorem mo_113 : MOK 113 := ⟨List.mem_of_getElem? (i := 929) (by decide +kernel), by decide +kernel, ⟨by decide +kernel, by decide +kernel⟩, List.mem_of_getElem? (i := 88) (by decide +kernel), by decide +kernel⟩
theorem m0_113 : M0K 113 := ⟨by decide +kernel, by decide +kernel⟩
theorem vk_329_74 : VK 329 74 113 1 11 := ⟨⟨List.mem_of_getElem? (i := 926) (by decide +kernel), by decide +kernel⟩, List.mem_of_getElem? (i := 927) (by decide +kernel), mo_113, m0_113, _, rfl, List.mem_of_getElem? (i := 928) (by decide +kernel), by decide⟩
theorem d_329_627 : decode (mC 329) 627 = .ok (.aload_n 2, 1) := by decide +kernel
theorem d_329_628 : decode (mC 329) 628 = .ok (.aload_n 0, 1) := by decide +kernel
theorem d_329_629 : decode (mC 329) 629 = .ok (.iload_n 3, 1) := by decide +kernel
theorem d_329_630 : decode (mC 329) 630 = .ok (.iconst 1, 1) := by decide +kernel
theorem d_329_631 : decode (mC 329) 631 = .ok (.iadd, 1) := by decide +kernel
theorem d_329_632 : decode (mC 329) 632 = .ok (.iaload, 1) := by decide +kernel
theorem d_329_633 : decode (mC 329) 633 = .ok (.invokevirtual 77, 3) := by decide +kernel
theorem mo_265 : MOK 265 := ⟨List.mem_of_getElem? (i := 1777) (by decide +kernel), by decide +kernel, ⟨by decide +kernel, by decide +kernel⟩, List.mem_of_getElem? (i := 100) (by decide +kernel), by decide +kernel⟩
theorem m0_265 : M0K 265 := ⟨by decide +kernel, by decide +kernel⟩
theorem vk_329_77 : VK 329 77 265 1 12 := ⟨⟨List.mem_of_getElem? (i := 1774) (by decide +kernel), by decide +kernel⟩, List.mem_of_getElem? (i := 1775) (by decide +kernel), mo_265, m0_265, _, rfl, List.mem_of_getElem? (i := 1776) (by decide +kernel), by decide⟩
theorem d_329_636 : decode (mC 329) 636 = .ok (.if_icmp .eq 957, 3) := by decide +kernel
theorem d_329_639 : decode (mC 329) 639 = .ok (.iconst 0, 1) := by decide +kernel
theorem d_329_640 : decode (mC 329) 640 = .ok (.ireturn, 1) := by decide +kernel
theorem d_329_641 : decode (mC 329) 641 = .ok (.aload_n 1, 1) := by decide +kernel
theorem d_329_642 : decode (mC 329) 642 = .ok (.aload_n 0, 1) := by decide +kernel
theorem d_329_643 : decode (mC 329) 643 = .ok (.iload_n 3, 1) := by decide +kernel
theorem d_329_644 : decode (mC 329) 644 = .ok (.iconst 1, 1) := by decide +kernel
theorem d_329_645 : decode (mC 329) 645 = .ok (.iadd, 1) := by decide +kernel
theorem d_329_646 : decode (mC 329) 646 = .ok (.iaload, 1) := by decide +kernel
theorem d_329_647 : decode (mC 329) 647 = .ok (.aload_n 0, 1) := by decide +kernel
theorem d_329_648 : decode (mC 329) 648 = .ok (.iload_n 3, 1) := by decide +kernel
theorem d_329_649 : decode (mC 329) 649 = .ok (.iconst 2, 1) := by decide +kernel
theorem d_329_650 : decode (mC 329) 650 = .ok (.iadd, 1) := by decide +kernel
theorem d_329_651 : decode (mC 329) 651 = .ok (.iaload, 1) := by decide +kernel
theorem d_329_652 : decode (mC 329) 652 = .ok (.invokevirtual 78, 3) := by decide +kernel
theorem mo_118 : MOK 118 := ⟨List.mem_of_getElem? (i := 949) (by decide +kernel), by decide +kernel, ⟨by decide +kernel, by decide +kernel⟩, List.mem_of_getElem? (i := 88) (by decide +kernel), by decide +kernel⟩
theorem m0_118 : M0K 118 := ⟨by decide +kernel, by decide +kernel⟩
theorem vk_329_78 : VK 329 78 118 2 11 := ⟨⟨List.mem_of_getElem? (i := 946) (by decide +kernel), by decide +kernel⟩, List.mem_of_getElem? (i := 947) (by decide +kernel), mo_118, m0_118, _, rfl, List.mem_of_getElem? (i := 948) (by decide +kernel), by decide⟩
theorem d_329_655 : decode (mC 329) 655 = .ok (.aload_n 2, 1) := by decide +kernel
theorem d_329_656 : decode (mC 329) 656 = .ok (.aload_n 0, 1) := by decide +kernel
theorem d_329_657 : decode (mC 329) 657 = .ok (.iload_n 3, 1) := by decide +kernel
theorem d_329_658 : decode (mC 329) 658 = .ok (.iconst 1, 1) := by decide +kernel
theorem d_329_659 : decode (mC 329) 659 = .ok (.iadd, 1) := by decide +kernel
theorem d_329_660 : decode (mC 329) 660 = .ok (.iaload, 1) := by decide +kernel
theorem d_329_661 : decode (mC 329) 661 = .ok (.aload_n 0, 1) := by decide +kernel
theorem d_329_662 : decode (mC 329) 662 = .ok (.iload_n 3, 1) := by decide +kernel
theorem d_329_663 : decode (mC 329) 663 = .ok (.iconst 2, 1) := by decide +kernel
theorem d_329_664 : decode (mC 329) 664 = .ok (.iadd, 1) := by decide +kernel
theorem d_329_665 : decode (mC 329) 665 = .ok (.iaload, 1) := by decide +kernel
theorem d_329_666 : decode (mC 329) 666 = .ok (.invokevirtual 81, 3) := by decide +kernel
theorem mo_272 : MOK 272 := ⟨List.mem_of_getElem? (i := 1804) (by decide +kernel), by decide +kernel, ⟨by decide +kernel, by decide +kernel⟩, List.mem_of_getElem? (i := 100) (by decide +kernel), by decide +kernel⟩
theorem m0_272 : M0K 272 := ⟨by decide +kernel, by decide +kernel⟩
theorem vk_329_81 : VK 329 81 272 2 12 := ⟨⟨List.mem_of_getElem? (i := 1801) (by decide +kernel), by decide +kernel⟩, List.mem_of_getElem? (i := 1802) (by decide +kernel), mo_272, m0_272, _, rfl, List.mem_of_getElem? (i := 1803) (by decide +kernel), by decide⟩
theorem d_329_669 : decode (mC 329) 669 = .ok (.if_icmp .eq 924, 3) := by decide +kernel
theorem d_329_672 : decode (mC 329) 672 = .ok (.iconst 0, 1) := by decide +kernel
theorem d_329_673 : decode (mC 329) 673 = .ok (.ireturn, 1) := by decide +kernel
theorem d_329_674 : decode (mC 329) 674 = .ok (.aload_n 1, 1) := by decide +kernel
theorem d_329_675 : decode (mC 329) 675 = .ok (.aload_n 0, 1) := by decide +kernel
theorem d_329_676 : decode (mC 329) 676 = .ok (.iload_n 3, 1) := by decide +kernel
theorem d_329_677 : decode (mC 329) 677 = .ok (.iconst 1, 1) := by decide +kernel
theorem d_329_678 : decode (mC 329) 678 = .ok (.iadd, 1) := by decide +kernel
theorem d_329_679 : decode (mC 329) 679 = .ok (.iaload, 1) := by decide +kernel
theorem d_329_680 : decode (mC 329) 680 = .ok (.aload_n 0, 1) := by decide +kernel
theorem d_329_681 : decode (mC 329) 681 = .ok (.iload_n 3, 1) := by decide +kernel
theorem d_329_682 : decode (mC 329) 682 = .ok (.iconst 2, 1) := by decide +kernel
theorem d_329_683 : decode (mC 329) 683 = .ok (.iadd, 1) := by decide +kernel
theorem d_329_684 : decode (mC 329) 684 = .ok (.iaload, 1) := by decide +kernel
theorem d_329_685 : decode (mC 329) 685 = .ok (.invokevirtual 82, 3) := by decide +kernel
theorem mo_122 : MOK 122 := ⟨List.mem_of_getElem? (i := 966) (by decide +kernel), by decide +kernel, ⟨by decide +kernel, by decide +kernel⟩, List.mem_of_getElem? (i := 88) (by decide +kernel), by decide +kernel⟩
theorem m0_122 : M0K 122 := ⟨by decide +kernel, by decide +kernel⟩
theorem vk_329_82 : VK 329 82 122 2 11 := ⟨⟨List.mem_of_getElem? (i := 963) (by decide +kernel), by decide +kernel⟩, List.mem_of_getElem? (i := 964) (by decide +kernel), mo_122, m0_122, _, rfl, List.mem_of_getElem? (i := 965) (by decide +kernel), by decide⟩
theorem d_329_688 : decode (mC 329) 688 = .ok (.aload_n 2, 1) := by decide +kernel
theorem d_329_689 : decode (mC 329) 689 = .ok (.aload_n 0, 1) := by decide +kernel
theorem d_329_690 : decode (mC 329) 690 = .ok (.iload_n 3, 1) := by decide +kernel
theorem d_329_691 : decode (mC 329) 691 = .ok (.iconst 1, 1) := by decide +kernel
theorem d_329_692 : decode (mC 329) 692 = .ok (.iadd, 1) := by decide +kernel
theorem d_329_693 : decode (mC 329) 693 = .ok (.iaload, 1) := by decide +kernel
theorem d_329_694 : decode (mC 329) 694 = .ok (.aload_n 0, 1) := by decide +kernel
theorem d_329_695 : decode (mC 329) 695 = .ok (.iload_n 3, 1) := by decide +kernel
theorem d_329_696 : decode (mC 329) 696 = .ok (.iconst 2, 1) := by decide +kernel
theorem d_329_697 : decode (mC 329) 697 = .ok (.iadd, 1) := by decide +kernel
theorem d_329_698 : decode (mC 329) 698 = .ok (.iaload, 1) := by decide +kernel
theorem d_329_699 : decode (mC 329) 699 = .ok (.invokevirtual 85, 3) := by decide +kernel
theorem mo_274 : MOK 274 := ⟨List.mem_of_getElem? (i := 1812) (by decide +kernel), by decide +kernel, ⟨by decide +kernel, by decide +kernel⟩, List.mem_of_getElem? (i := 100) (by decide +kernel), by decide +kernel⟩
theorem m0_274 : M0K 274 := ⟨by decide +kernel, by decide +kernel⟩
theorem vk_329_85 : VK 329 85 274 2 12 := ⟨⟨List.mem_of_getElem? (i := 1809) (by decide +kernel), by decide +kernel⟩, List.mem_of_getElem? (i := 1810) (by decide +kernel), mo_274, m0_274, _, rfl, List.mem_of_getElem? (i := 1811) (by decide +kernel), by decide⟩
theorem d_329_702 : decode (mC 329) 702 = .ok (.if_icmp .eq 891, 3) := by decide +kernel
theorem d_329_705 : decode (mC 329) 705 = .ok (.iconst 0, 1) := by decide +kernel
theorem d_329_706 : decode (mC 329) 706 = .ok (.ireturn, 1) := by decide +kernel
theorem d_329_707 : decode (mC 329) 707 = .ok (.aload_n 1, 1) := by decide +kernel
theorem d_329_708 : decode (mC 329) 708 = .ok (.aload_n 0, 1) := by decide +kernel
theorem d_329_709 : decode (mC 329) 709 = .ok (.iload_n 3, 1) := by decide +kernel
theorem d_329_710 : decode (mC 329) 710 = .ok (.iconst 1, 1) := by decide +kernel
theorem d_329_711 : decode (mC 329) 711 = .ok (.iadd, 1) := by decide +kernel
theorem d_329_712 : decode (mC 329) 712 = .ok (.iaload, 1) := by decide +kernel
theorem d_329_713 : decode (mC 329) 713 = .ok (.invokevirtual 86, 3) := by decide +kernel
theorem mo_125 : MOK 125 := ⟨List.mem_of_getElem? (i := 979) (by decide +kernel), by decide +kernel, ⟨by decide +kernel, by decide +kernel⟩, List.mem_of_getElem? (i := 88) (by decide +kernel), by decide +kernel⟩
theorem m0_125 : M0K 125 := ⟨by decide +kernel, by decide +kernel⟩
theorem vk_329_86 : VK 329 86 125 1 11 := ⟨⟨List.mem_of_getElem? (i := 976) (by decide +kernel), by decide +kernel⟩, List.mem_of_getElem? (i := 977) (by decide +kernel), mo_125, m0_125, _, rfl, List.mem_of_getElem? (i := 978) (by decide +kernel), by decide⟩
theorem d_329_716 : decode (mC 329) 716 = .ok (.aload_n 2, 1) := by decide +kernel
theorem d_329_717 : decode (mC 329) 717 = .ok (.aload_n 0, 1) := by decide +kernel
theorem d_329_718 : decode (mC 329) 718 = .ok (.iload_n 3, 1) := by decide +kernel
theorem d_329_719 : decode (mC 329) 719 = .ok (.iconst 1, 1) := by decide +kernel
theorem d_329_720 : decode (mC 329) 720 = .ok (.iadd, 1) := by decide +kernel
theorem d_329_721 : decode (mC 329) 721 = .ok (.iaload, 1) := by decide +kernel
theorem d_329_722 : decode (mC 329) 722 = .ok (.invokevirtual 89, 3) := by decide +kernel
theorem mo_271 : MOK 271 := ⟨List.mem_of_getElem? (i := 1800) (by decide +kernel), by decide +kernel, ⟨by decide +kernel, by decide +kernel⟩, List.mem_of_getElem? (i := 100) (by decide +kernel), by decide +kernel⟩
theorem m0_271 : M0K 271 := ⟨by decide +kernel, by decide +kernel⟩
theorem vk_329_89 : VK 329 89 271 1 12 := ⟨⟨List.mem_of_getElem? (i := 1797) (by decide +kernel), by decide +kernel⟩, List.mem_of_getElem? (i := 1798) (by decide +kernel), mo_271, m0_271, _, rfl, List.mem_of_getElem? (i := 1799) (by decide +kernel), by decide⟩
theorem d_329_725 : decode (mC 329) 725 = .ok (.if_icmp .eq 868, 3) := by decide +kernel
theorem d_329_728 : decode (mC 329) 728 = .ok (.iconst 0, 1) := by decide +kernel
theorem d_329_729 : decode (mC 329) 729 = .ok (.ireturn, 1) := by decide +kernel
theorem d_329_730 : decode (mC 329) 730 = .ok (.aload_n 1, 1) := by decide +kernel
theorem d_329_731 : decode (mC 329) 731 = .ok (.aload_n 0, 1) := by decide +kernel
theorem d_329_732 : decode (mC 329) 732 = .ok (.iload_n 3, 1) := by decide +kernel
theorem d_329_733 : decode (mC 329) 733 = .ok (.iconst 1, 1) := by decide +kernel
theorem d_329_734 : decode (mC 329) 734 = .ok (.iadd, 1) := by decide +kernel
theorem d_329_735 : decode (mC 329) 735 = .ok (.iaload, 1) := by decide +kernel
theorem d_329_736 : decode (mC 329) 736 = .ok (.invokevirtual 90, 3) := by decide +kernel
theorem mo_126 : MOK 126 := ⟨List.mem_of_getElem? (i := 983) (by decide +kernel), by decide +kernel, ⟨by decide +kernel, by decide +kernel⟩, List.mem_of_getElem? (i := 88) (by decide +kernel), by decide +kernel⟩
theorem m0_126 : M0K 126 := ⟨by decide +kernel, by decide +kernel⟩
theorem vk_329_90 : VK 329 90 126 1 11 := ⟨⟨List.mem_of_getElem? (i := 980) (by decide +kernel), by decide +kernel⟩, List.mem_of_getElem? (i := 981) (by decide +kernel), mo_126, m0_126, _, rfl, List.mem_of_getElem? (i := 982) (by decide +kernel), by decide⟩
theorem d_329_739 : decode (mC 329) 739 = .ok (.aload_n 2, 1) := by decide +kernel
theorem d_329_740 : decode (mC 329) 740 = .ok (.aload_n 0, 1) := by decide +kernel
theorem d_329_741 : decode (mC 329) 741 = .ok (.iload_n 3, 1) := by decide +kernel
theorem d_329_742 : decode (mC 329) 742 = .ok (.iconst 1, 1) := by decide +kernel
theorem d_329_743 : decode (mC 329) 743 = .ok (.iadd, 1) := by decide +kernel
theorem d_329_744 : decode (mC 329) 744 = .ok (.iaload, 1) := by decide +kernel
theorem d_329_745 : decode (mC 329) 745 = .ok (.invokevirtual 93, 3) := by decide +kernel
theorem mo_277 : MOK 277 := ⟨List.mem_of_getElem? (i := 1824) (by decide +kernel), by decide +kernel, ⟨by decide +kernel, by decide +kernel⟩, List.mem_of_getElem? (i := 100) (by decide +kernel), by decide +kernel⟩
theorem m0_277 : M0K 277 := ⟨by decide +kernel, by decide +kernel⟩
theorem vk_329_93 : VK 329 93 277 1 12 := ⟨⟨List.mem_of_getElem? (i := 1821) (by decide +kernel), by decide +kernel⟩, List.mem_of_getElem? (i := 1822) (by decide +kernel), mo_277, m0_277, _, rfl, List.mem_of_getElem? (i := 1823) (by decide +kernel), by decide⟩
theorem d_329_748 : decode (mC 329) 748 = .ok (.if_icmp .eq 845, 3) := by decide +kernel
theorem d_329_751 : decode (mC 329) 751 = .ok (.iconst 0, 1) := by decide +kernel
theorem d_329_752 : decode (mC 329) 752 = .ok (.ireturn, 1) := by decide +kernel
theorem d_329_753 : decode (mC 329) 753 = .ok (.aload_n 1, 1) := by decide +kernel
theorem d_329_754 : decode (mC 329) 754 = .ok (.invokevirtual 94, 3) := by decide +kernel
theorem mo_128 : MOK 128 := ⟨List.mem_of_getElem? (i := 991) (by decide +kernel), by decide +kernel, ⟨by decide +kernel, by decide +kernel⟩, List.mem_of_getElem? (i := 88) (by decide +kernel), by decide +kernel⟩
theorem m0_128 : M0K 128 := ⟨by decide +kernel, by decide +kernel⟩
theorem vk_329_94 : VK 329 94 128 0 11 := ⟨⟨List.mem_of_getElem? (i := 988) (by decide +kernel), by decide +kernel⟩, List.mem_of_getElem? (i := 989) (by decide +kernel), mo_128, m0_128, _, rfl, List.mem_of_getElem? (i := 990) (by decide +kernel), by decide⟩
theorem d_329_757 : decode (mC 329) 757 = .ok (.aload_n 2, 1) := by decide +kernel
theorem d_329_758 : decode (mC 329) 758 = .ok (.invokevirtual 97, 3) := by decide +kernel
theorem vk_329_97 : VK 329 97 278 0 12 := ⟨⟨List.mem_of_getElem? (i := 1825) (by decide +kernel), by decide +kernel⟩, List.mem_of_getElem? (i := 1826) (by decide +kernel), mo_278, m0_278, _, rfl, List.mem_of_getElem? (i := 1827) (by decide +kernel), by decide⟩
theorem d_329_761 : decode (mC 329) 761 = .ok (.if_icmp .eq 832, 3) := by decide +kernel
theorem d_329_764 : decode (mC 329) 764 = .ok (.iconst 0, 1) := by decide +kernel
theorem d_329_765 : decode (mC 329) 765 = .ok (.ireturn, 1) := by decide +kernel
theorem d_329_766 : decode (mC 329) 766 = .ok (.aload_n 1, 1) := by decide +kernel
theorem d_329_767 : decode (mC 329) 767 = .ok (.invokevirtual 98, 3) := by decide +kernel
theorem mo_133 : MOK 133 := ⟨List.mem_of_getElem? (i := 1012) (by decide +kernel), by decide +kernel, ⟨by decide +kernel, by decide +kernel⟩, List.mem_of_getElem? (i := 88) (by decide +kernel), by decide +kernel⟩
theorem m0_133 : M0K 133 := ⟨by decide +kernel, by decide +kernel⟩
theorem vk_329_98 : VK 329 98 133 0 11 := ⟨⟨List.mem_of_getElem? (i := 1009) (by decide +kernel), by decide +kernel⟩, List.mem_of_getElem? (i := 1010) (by decide +kernel), mo_133, m0_133, _, rfl, List.mem_of_getElem? (i := 1011) (by decide +kernel), by decide⟩
theorem d_329_770 : decode (mC 329) 770 = .ok (.aload_n 2, 1) := by decide +kernel
theorem d_329_771 : decode (mC 329) 771 = .ok (.invokevirtual 101, 3) := by decide +kernel
theorem mo_280 : MOK 280 := ⟨List.mem_of_getElem? (i := 1836) (by decide +kernel), by decide +kernel, ⟨by decide +kernel, by decide +kernel⟩, List.mem_of_getElem? (i := 100) (by decide +kernel), by decide +kernel⟩
theorem m0_280 : M0K 280 := ⟨by decide +kernel, by decide +kernel⟩
theorem vk_329_101 : VK 329 101 280 0 12 := ⟨⟨List.mem_of_getElem? (i := 1833) (by decide +kernel), by decide +kernel⟩, List.mem_of_getElem? (i := 1834) (by decide +kernel), mo_280, m0_280, _, rfl, List.mem_of_getElem? (i := 1835) (by decide +kernel), by decide⟩
theorem d_329_774 : decode (mC 329) 774 = .ok (.if_icmp .eq 819, 3) := by decide +kernel
theorem d_329_777 : decode (mC 329) 777 = .ok (.iconst 0, 1) := by decide +kernel
theorem d_329_778 : decode (mC 329) 778 = .ok (.ireturn, 1) := by decide +kernel
theorem d_329_779 : decode (mC 329) 779 = .ok (.aload_n 1, 1) := by decide +kernel
theorem d_329_780 : decode (mC 329) 780 = .ok (.aload_n 0, 1) := by decide +kernel
theorem d_329_781 : decode (mC 329) 781 = .ok (.iload_n 3, 1) := by decide +kernel
theorem d_329_782 : decode (mC 329) 782 = .ok (.iconst 1, 1) := by decide +kernel
theorem d_329_783 : decode (mC 329) 783 = .ok (.iadd, 1) := by decide +kernel
theorem d_329_784 : decode (mC 329) 784 = .ok (.iaload, 1) := by decide +kernel
theorem d_329_785 : decode (mC 329) 785 = .ok (.invokevirtual 102, 3) := by decide +kernel
theorem mo_134 : MOK 134 := ⟨List.mem_of_getElem? (i := 1016) (by decide +kernel), by decide +kernel, ⟨by decide +kernel, by decide +kernel⟩, List.mem_of_getElem? (i := 88) (by decide +kernel), by decide +kernel⟩
theorem m0_134 : M0K 134 := ⟨by decide +kernel, by decide +kernel⟩
theorem vk_329_102 : VK 329 102 134 1 11 := ⟨⟨List.mem_of_getElem? (i := 1013) (by decide +kernel), by decide +kernel⟩, List.mem_of_getElem? (i := 1014) (by decide +kernel), mo_134, m0_134, _, rfl, List.mem_of_getElem? (i := 1015) (by decide +kernel), by decide⟩
theorem d_329_788 : decode (mC 329) 788 = .ok (.aload_n 2, 1) := by decide +kernel
theorem d_329_789 : decode (mC 329) 789 = .ok (.aload_n 0, 1) := by decide +kernel
theorem d_329_790 : decode (mC 329) 790 = .ok (.iload_n 3, 1) := by decide +kernel
theorem d_329_791 : decode (mC 329) 791 = .ok (.iconst 1, 1) := by decide +kernel
theorem d_329_792 : decode (mC 329) 792 = .ok (.iadd, 1) := by decide +kernel
theorem d_329_793 : decode (mC 329) 793 = .ok (.iaload, 1) := by decide +kernel
theorem d_329_794 : decode (mC 329) 794 = .ok (.invokevirtual 105, 3) := by decide +kernel
theorem mo_283 : MOK 283 := ⟨List.mem_of_getElem? (i := 1849) (by decide +kernel), by decide +kernel, ⟨by decide +kernel, by decide +kernel⟩, List.mem_of_getElem? (i := 100) (by decide +kernel), by decide +kernel⟩
theorem m0_283 : M0K 283 := ⟨by decide +kernel, by decide +kernel⟩
theorem vk_329_105 : VK 329 105 283 1 12 := ⟨⟨List.mem_of_getElem? (i := 1846) (by decide +kernel), by decide +kernel⟩, List.mem_of_getElem? (i := 1847) (by decide +kernel), mo_283, m0_283, _, rfl, List.mem_of_getElem? (i := 1848) (by decide +kernel), by decide⟩
theorem d_329_797 : decode (mC 329) 797 = .ok (.if_icmp .eq 796, 3) := by decide +kernel
theorem d_329_800 : decode (mC 329) 800 = .ok (.iconst 0, 1) := by decide +kernel
theorem d_329_801 : decode (mC 329) 801 = .ok (.ireturn, 1) := by decide +kernel
theorem d_329_802 : decode (mC 329) 802 = .ok (.aload_n 1, 1) := by decide +kernel
theorem d_329_803 : decode (mC 329) 803 = .ok (.aload_n 0, 1) := by decide +kernel
theorem d_329_804 : decode (mC 329) 804 = .ok (.iload_n 3, 1) := by decide +kernel
theorem d_329_805 : decode (mC 329) 805 = .ok (.iconst 1, 1) := by decide +kernel
theorem d_329_806 : decode (mC 329) 806 = .ok (.iadd, 1) := by decide +kernel
theorem d_329_807 : decode (mC 329) 807 = .ok (.iaload, 1) := by decide +kernel
theorem d_329_808 : decode (mC 329) 808 = .ok (.invokevirtual 106, 3) := by decide +kernel
theorem mo_136 : MOK 136 := ⟨List.mem_of_getElem? (i := 1024) (by decide +kernel), by decide +kernel, ⟨by decide +kernel, by decide +kernel⟩, List.mem_of_getElem? (i := 88) (by decide +kernel), by decide +kernel⟩
theorem m0_136 : M0K 136 := ⟨by decide +kernel, by decide +kernel⟩
theorem vk_329_106 : VK 329 106 136 1 11 := ⟨⟨List.mem_of_getElem? (i := 1021) (by decide +kernel), by decide +kernel⟩, List.mem_of_getElem? (i := 1022) (by decide +kernel), mo_136, m0_136, _, rfl, List.mem_of_getElem? (i := 1023) (by decide +kernel), by decide⟩
theorem d_329_811 : decode (mC 329) 811 = .ok (.aload_n 2, 1) := by decide +kernel
theorem d_329_812 : decode (mC 329) 812 = .ok (.aload_n 0, 1) := by decide +kernel
theorem d_329_813 : decode (mC 329) 813 = .ok (.iload_n 3, 1) := by decide +kernel
theorem d_329_814 : decode (mC 329) 814 = .ok (.iconst 1, 1) := by decide +kernel
theorem d_329_815 : decode (mC 329) 815 = .ok (.iadd, 1) := by decide +kernel
theorem d_329_816 : decode (mC 329) 816 = .ok (.iaload, 1) := by decide +kernel
theorem d_329_817 : decode (mC 329) 817 = .ok (.invokevirtual 109, 3) := by decide +kernel
theorem mo_284 : MOK 284 := ⟨List.mem_of_getElem? (i := 1853) (by decide +kernel), by decide +kernel, ⟨by decide +kernel, by decide +kernel⟩, List.mem_of_getElem? (i := 100) (by decide +kernel), by decide +kernel⟩
theorem m0_284 : M0K 284 := ⟨by decide +kernel, by decide +kernel⟩
theorem vk_329_109 : VK 329 109 284 1 12 := ⟨⟨List.mem_of_getElem? (i := 1850) (by decide +kernel), by decide +kernel⟩, List.mem_of_getElem? (i := 1851) (by decide +kernel), mo_284, m0_284, _, rfl, List.mem_of_getElem? (i := 1852) (by decide +kernel), by decide⟩
theorem d_329_820 : decode (mC 329) 820 = .ok (.if_icmp .eq 773, 3) := by decide +kernel
theorem d_329_823 : decode (mC 329) 823 = .ok (.iconst 0, 1) := by decide +kernel
theorem d_329_824 : decode (mC 329) 824 = .ok (.ireturn, 1) := by decide +kernel
theorem d_329_825 : decode (mC 329) 825 = .ok (.aload_n 1, 1) := by decide +kernel
theorem d_329_826 : decode (mC 329) 826 = .ok (.aload_n 0, 1) := by decide +kernel
theorem d_329_827 : decode (mC 329) 827 = .ok (.iload_n 3, 1) := by decide +kernel
theorem d_329_828 : decode (mC 329) 828 = .ok (.iconst 1, 1) := by decide +kernel
theorem d_329_829 : decode (mC 329) 829 = .ok (.iadd, 1) := by decide +kernel
theorem d_329_830 : decode (mC 329) 830 = .ok (.iaload, 1) := by decide +kernel
theorem d_329_831 : decode (mC 329) 831 = .ok (.aload_n 0, 1) := by decide +kernel
theorem d_329_832 : decode (mC 329) 832 = .ok (.iload_n 3, 1) := by decide +kernel
theorem d_329_833 : decode (mC 329) 833 = .ok (.iconst 2, 1) := by decide +kernel
theorem d_329_834 : decode (mC 329) 834 = .ok (.iadd, 1) := by decide +kernel
theorem d_329_835 : decode (mC 329) 835 = .ok (.iaload, 1) := by decide +kernel
theorem d_329_836 : decode (mC 329) 836 = .ok (.invokevirtual 110, 3) := by decide +kernel
theorem mo_139 : MOK 139 := ⟨List.mem_of_getElem? (i := 1037) (by decide +kernel), by decide +kernel, ⟨by decide +kernel, by decide +kernel⟩, List.mem_of_getElem? (i := 88) (by decide +kernel), by decide +kernel⟩
theorem m0_139 : M0K 139 := ⟨by decide +kernel, by decide +kernel⟩
theorem vk_329_110 : VK 329 110 139 2 11 := ⟨⟨List.mem_of_getElem? (i := 1034) (by decide +kernel), by decide +kernel⟩, List.mem_of_getElem? (i := 1035) (by decide +kernel), mo_139, m0_139, _, rfl, List.mem_of_getElem? (i := 1036) (by decide +kernel), by decide⟩
theorem d_329_839 : decode (mC 329) 839 = .ok (.aload_n 2, 1) := by decide +kernel
theorem d_329_840 : decode (mC 329) 840 = .ok (.aload_n 0, 1) := by decide +kernel
theorem d_329_841 : decode (mC 329) 841 = .ok (.iload_n 3, 1) := by decide +kernel
theorem d_329_842 : decode (mC 329) 842 = .ok (.iconst 1, 1) := by decide +kernel
theorem d_329_843 : decode (mC 329) 843 = .ok (.iadd, 1) := by decide +kernel
theorem d_329_844 : decode (mC 329) 844 = .ok (.iaload, 1) := by decide +kernel
theorem d_329_845 : decode (mC 329) 845 = .ok (.aload_n 0, 1) := by decide +kernel
theorem d_329_846 : decode (mC 329) 846 = .ok (.iload_n 3, 1) := by decide +kernel
theorem d_329_847 : decode (mC 329) 847 = .ok (.iconst 2, 1) := by decide +kernel
theorem d_329_848 : decode (mC 329) 848 = .ok (.iadd, 1) := by decide +kernel
theorem d_329_849 : decode (mC 329) 849 = .ok (.iaload, 1) := by decide +kernel
theorem d_329_850 : decode (mC 329) 850 = .ok (.invokevirtual 113, 3) := by decide +kernel
theorem mo_286 : MOK 286 := ⟨List.mem_of_getElem? (i := 1861) (by decide +kernel), by decide +kernel, ⟨by decide +kernel, by decide +kernel⟩, List.mem_of_getElem? (i := 100) (by decide +kernel), by decide +kernel⟩
theorem m0_286 : M0K 286 := ⟨by decide +kernel, by decide +kernel⟩
theorem vk_329_113 : VK 329 113 286 2 12 := ⟨⟨List.mem_of_getElem? (i := 1858) (by decide +kernel), by decide +kernel⟩, List.mem_of_getElem? (i := 1859) (by decide +kernel), mo_286, m0_286, _, rfl, List.mem_of_getElem? (i := 1860) (by decide +kernel), by decide⟩
theorem d_329_853 : decode (mC 329) 853 = .ok (.if_icmp .eq 740, 3) := by decide +kernel
theorem d_329_856 : decode (mC 329) 856 = .ok (.iconst 0, 1) := by decide +kernel
theorem d_329_857 : decode (mC 329) 857 = .ok (.ireturn, 1) := by decide +kernel
theorem d_329_858 : decode (mC 329) 858 = .ok (.aload_n 1, 1) := by decide +kernel
theorem d_329_859 : decode (mC 329) 859 = .ok (.aload_n 0, 1) := by decide +kernel
theorem d_329_860 : decode (mC 329) 860 = .ok (.iload_n 3, 1) := by decide +kernel
theorem d_329_861 : decode (mC 329) 861 = .ok (.iconst 1, 1) := by decide +kernel
theorem d_329_862 : decode (mC 329) 862 = .ok (.iadd, 1) := by decide +kernel
theorem d_329_863 : decode (mC 329) 863 = .ok (.iaload, 1) := by decide +kernel
theorem d_329_864 : decode (mC 329) 864 = .ok (.invokevirtual 114, 3) := by decide +kernel
theorem mo_141 : MOK 141 := ⟨List.mem_of_getElem? (i := 1045) (by decide +kernel), by decide +kernel, ⟨by decide +kernel, by decide +kernel⟩, List.mem_of_getElem? (i := 88) (by decide +kernel), by decide +kernel⟩
theorem m0_141 : M0K 141 := ⟨by decide +kernel, by decide +kernel⟩
theorem vk_329_114 : VK 329 114 141 1 11 := ⟨⟨List.mem_of_getElem? (i := 1042) (by decide +kernel), by decide +kernel⟩, List.mem_of_getElem? (i := 1043) (by decide +kernel), mo_141, m0_141, _, rfl, List.mem_of_getElem? (i := 1044) (by decide +kernel), by decide⟩
theorem d_329_867 : decode (mC 329) 867 = .ok (.aload_n 2, 1) := by decide +kernel
theorem d_329_868 : decode (mC 329) 868 = .ok (.aload_n 0, 1) := by decide +kernel
theorem d_329_869 : decode (mC 329) 869 = .ok (.iload_n 3, 1) := by decide +kernel
theorem d_329_870 : decode (mC 329) 870 = .ok (.iconst 1, 1) := by decide +kernel
theorem d_329_871 : decode (mC 329) 871 = .ok (.iadd, 1) := by decide +kernel
theorem d_329_872 : decode (mC 329) 872 = .ok (.iaload, 1) := by decide +kernel
theorem d_329_873 : decode (mC 329) 873 = .ok (.invokevirtual 117, 3) := by decide +kernel
theorem mo_287 : MOK 287 := ⟨List.mem_of_getElem? (i := 1865) (by decide +kernel), by decide +kernel, ⟨by decide +kernel, by decide +kernel⟩, List.mem_of_getElem? (i := 100) (by decide +kernel), by decide +kernel⟩
theorem m0_287 : M0K 287 := ⟨by decide +kernel, by decide +kernel⟩
theorem vk_329_117 : VK 329 117 287 1 12 := ⟨⟨List.mem_of_getElem? (i := 1862) (by decide +kernel), by decide +kernel⟩, List.mem_of_getElem? (i := 1863) (by decide +kernel), mo_287, m0_287, _, rfl, List.mem_of_getElem? (i := 1864) (by decide +kernel), by decide⟩
theorem d_329_876 : decode (mC 329) 876 = .ok (.if_icmp .eq 717, 3) := by decide +kernel
theorem d_329_879 : decode (mC 329) 879 = .ok (.iconst 0, 1) := by decide +kernel
theorem d_329_880 : decode (mC 329) 880 = .ok (.ireturn, 1) := by decide +kernel
theorem d_329_881 : decode (mC 329) 881 = .ok (.aload_n 1, 1) := by decide +kernel
theorem d_329_882 : decode (mC 329) 882 = .ok (.aload_n 0, 1) := by decide +kernel
theorem d_329_883 : decode (mC 329) 883 = .ok (.iload_n 3, 1) := by decide +kernel
theorem d_329_884 : decode (mC 329) 884 = .ok (.iconst 1, 1) := by decide +kernel
theorem d_329_885 : decode (mC 329) 885 = .ok (.iadd, 1) := by decide +kernel
theorem d_329_886 : decode (mC 329) 886 = .ok (.iaload, 1) := by decide +kernel
theorem d_329_887 : decode (mC 329) 887 = .ok (.invokevirtual 118, 3) := by decide +kernel
theorem mo_143 : MOK 143 := ⟨List.mem_of_getElem? (i := 1053) (by decide +kernel), by decide +kernel, ⟨by decide +kernel, by decide +kernel⟩, List.mem_of_getElem? (i := 88) (by decide +kernel), by decide +kernel⟩
theorem m0_143 : M0K 143 := ⟨by decide +kernel, by decide +kernel⟩
theorem vk_329_118 : VK 329 118 143 1 11 := ⟨⟨List.mem_of_getElem? (i := 1050) (by decide +kernel), by decide +kernel⟩, List.mem_of_getElem? (i := 1051) (by decide +kernel), mo_143, m0_143, _, rfl, List.mem_of_getElem? (i := 1052) (by decide +kernel), by decide⟩
theorem d_329_890 : decode (mC 329) 890 = .ok (.aload_n 2, 1) := by decide +kernel
theorem d_329_891 : decode (mC 329) 891 = .ok (.aload_n 0, 1) := by decide +kernel
theorem d_329_892 : decode (mC 329) 892 = .ok (.iload_n 3, 1) := by decide +kernel
theorem d_329_893 : decode (mC 329) 893 = .ok (.iconst 1, 1) := by decide +kernel
theorem d_329_894 : decode (mC 329) 894 = .ok (.iadd, 1) := by decide +kernel
theorem d_329_895 : decode (mC 329) 895 = .ok (.iaload, 1) := by decide +kernel
theorem d_329_896 : decode (mC 329) 896 = .ok (.invokevirtual 121, 3) := by decide +kernel
theorem mo_288 : MOK 288 := ⟨List.mem_of_getElem? (i := 1869) (by decide +kernel), by decide +kernel, ⟨by decide +kernel, by decide +kernel⟩, List.mem_of_getElem? (i := 100) (by decide +kernel), by decide +kernel⟩
theorem m0_288 : M0K 288 := ⟨by decide +kernel, by decide +kernel⟩
theorem vk_329_121 : VK 329 121 288 1 12 := ⟨⟨List.mem_of_getElem? (i := 1866) (by decide +kernel), by decide +kernel⟩, List.mem_of_getElem? (i := 1867) (by decide +kernel), mo_288, m0_288, _, rfl, List.mem_of_getElem? (i := 1868) (by decide +kernel), by decide⟩
theorem d_329_899 : decode (mC 329) 899 = .ok (.if_icmp .eq 694, 3) := by decide +kernel
theorem d_329_902 : decode (mC 329) 902 = .ok (.iconst 0, 1) := by decide +kernel
theorem d_329_903 : decode (mC 329) 903 = .ok (.ireturn, 1) := by decide +kernel
theorem d_329_904 : decode (mC 329) 904 = .ok (.aload_n 1, 1) := by decide +kernel
theorem d_329_905 : decode (mC 329) 905 = .ok (.aload_n 0, 1) := by decide +kernel
theorem d_329_906 : decode (mC 329) 906 = .ok (.iload_n 3, 1) := by decide +kernel
theorem d_329_907 : decode (mC 329) 907 = .ok (.iconst 1, 1) := by decide +kernel
theorem d_329_908 : decode (mC 329) 908 = .ok (.iadd, 1) := by decide +kernel
theorem d_329_909 : decode (mC 329) 909 = .ok (.iaload, 1) := by decide +kernel
theorem d_329_910 : decode (mC 329) 910 = .ok (.invokevirtual 122, 3) := by decide +kernel
theorem mo_145 : MOK 145 := ⟨List.mem_of_getElem? (i := 1062) (by decide +kernel), by decide +kernel, ⟨by decide +kernel, by decide +kernel⟩, List.mem_of_getElem? (i := 88) (by decide +kernel), by decide +kernel⟩
theorem m0_145 : M0K 145 := ⟨by decide +kernel, by decide +kernel⟩
theorem vk_329_122 : VK 329 122 145 1 11 := ⟨⟨List.mem_of_getElem? (i := 1059) (by decide +kernel), by decide +kernel⟩, List.mem_of_getElem? (i := 1060) (by decide +kernel), mo_145, m0_145, _, rfl, List.mem_of_getElem? (i := 1061) (by decide +kernel), by decide⟩
theorem d_329_913 : decode (mC 329) 913 = .ok (.aload_n 2, 1) := by decide +kernel
theorem d_329_914 : decode (mC 329) 914 = .ok (.aload_n 0, 1) := by decide +kernel
theorem d_329_915 : decode (mC 329) 915 = .ok (.iload_n 3, 1) := by decide +kernel
theorem d_329_916 : decode (mC 329) 916 = .ok (.iconst 1, 1) := by decide +kernel
theorem d_329_917 : decode (mC 329) 917 = .ok (.iadd, 1) := by decide +kernel
theorem d_329_918 : decode (mC 329) 918 = .ok (.iaload, 1) := by decide +kernel
theorem d_329_919 : decode (mC 329) 919 = .ok (.invokevirtual 125, 3) := by decide +kernel
theorem mo_289 : MOK 289 := ⟨List.mem_of_getElem? (i := 1873) (by decide +kernel), by decide +kernel, ⟨by decide +kernel, by decide +kernel⟩, List.mem_of_getElem? (i := 100) (by decide +kernel), by decide +kernel⟩
theorem m0_289 : M0K 289 := ⟨by decide +kernel, by decide +kernel⟩
theorem vk_329_125 : VK 329 125 289 1 12 := ⟨⟨List.mem_of_getElem? (i := 1870) (by decide +kernel), by decide +kernel⟩, List.mem_of_getElem? (i := 1871) (by decide +kernel), mo_289, m0_289, _, rfl, List.mem_of_getElem? (i := 1872) (by decide +kernel), by decide⟩
theorem d_329_922 : decode (mC 329) 922 = .ok (.if_icmp .eq 671, 3) := by decide +kernel
theorem d_329_925 : decode (mC 329) 925 = .ok (.iconst 0, 1) := by decide +kernel
theorem d_329_926 : decode (mC 329) 926 = .ok (.ireturn, 1) := by decide +kernel
theorem d_329_927 : decode (mC 329) 927 = .ok (.aload_n 1, 1) := by decide +kernel
theorem d_329_928 : decode (mC 329) 928 = .ok (.aload_n 0, 1) := by decide +kernel
theorem d_329_929 : decode (mC 329) 929 = .ok (.iload_n 3, 1) := by decide +kernel
theorem d_329_930 : decode (mC 329) 930 = .ok (.iconst 1, 1) := by decide +kernel
theorem d_329_931 : decode (mC 329) 931 = .ok (.iadd, 1) := by decide +kernel
theorem d_329_932 : decode (mC 329) 932 = .ok (.iaload, 1) := by decide +kernel
theorem d_329_933 : decode (mC 329) 933 = .ok (.invokevirtual 126, 3) := by decide +kernel
theorem mo_149 : MOK 149 := ⟨List.mem_of_getElem? (i := 1080) (by decide +kernel), by decide +kernel, ⟨by decide +kernel, by decide +kernel⟩, List.mem_of_getElem? (i := 88) (by decide +kernel), by decide +kernel⟩
theorem m0_149 : M0K 149 := ⟨by decide +kernel, by decide +kernel⟩
theorem vk_329_126 : VK 329 126 149 1 11 := ⟨⟨List.mem_of_getElem? (i := 1077) (by decide +kernel), by decide +kernel⟩, List.mem_of_getElem? (i := 1078) (by decide +kernel), mo_149, m0_149, _, rfl, List.mem_of_getElem? (i := 1079) (by decide +kernel), by decide⟩
theorem d_329_936 : decode (mC 329) 936 = .ok (.aload_n 2, 1) := by decide +kernel
theorem d_329_937 : decode (mC 329) 937 = .ok (.aload_n 0, 1) := by decide +kernel
theorem d_329_938 : decode (mC 329) 938 = .ok (.iload_n 3, 1) := by decide +kernel
theorem d_329_939 : decode (mC 329) 939 = .ok (.iconst 1, 1) := by decide +kernel
theorem d_329_940 : decode (mC 329) 940 = .ok (.iadd, 1) := by decide +kernel
theorem d_329_941 : decode (mC 329) 941 = .ok (.iaload, 1) := by decide +kernel
theorem d_329_942 : decode (mC 329) 942 = .ok (.invokevirtual 129, 3) := by decide +kernel
theorem mo_291 : MOK 291 := ⟨List.mem_of_getElem? (i := 1882) (by decide +kernel), by decide +kernel, ⟨by decide +kernel, by decide +kernel⟩, List.mem_of_getElem? (i := 100) (by decide +kernel), by decide +kernel⟩
theorem m0_291 : M0K 291 := ⟨by decide +kernel, by decide +kernel⟩
theorem vk_329_129 : VK 329 129 291 1 12 := ⟨⟨List.mem_of_getElem? (i := 1879) (by decide +kernel), by decide +kernel⟩, List.mem_of_getElem? (i := 1880) (by decide +kernel), mo_291, m0_291, _, rfl, List.mem_of_getElem? (i := 1881) (by decide +kernel), by decide⟩
theorem d_329_945 : decode (mC 329) 945 = .ok (.if_icmp .eq 648, 3) := by decide +kernel
theorem d_329_948 : decode (mC 329) 948 = .ok (.iconst 0, 1) := by decide +kernel
theorem d_329_949 : decode (mC 329) 949 = .ok (.ireturn, 1) := by decide +kernel
theorem d_329_950 : decode (mC 329) 950 = .ok (.aload_n 1, 1) := by decide +kernel
theorem d_329_951 : decode (mC 329) 951 = .ok (.aload_n 0, 1) := by decide +kernel
theorem d_329_952 : decode (mC 329) 952 = .ok (.iload_n 3, 1) := by decide +kernel
theorem d_329_953 : decode (mC 329) 953 = .ok (.iconst 1, 1) := by decide +kernel
theorem d_329_954 : decode (mC 329) 954 = .ok (.iadd, 1) := by decide +kernel
theorem d_329_955 : decode (mC 329) 955 = .ok (.iaload, 1) := by decide +kernel
theorem d_329_956 : decode (mC 329) 956 = .ok (.invokevirtual 130, 3) := by decide +kernel
theorem mo_150 : MOK 150 := ⟨List.mem_of_getElem? (i := 1084) (by decide +kernel), by decide +kernel, ⟨by decide +kernel, by decide +kernel⟩, List.mem_of_getElem? (i := 88) (by decide +kernel), by decide +kernel⟩
theorem m0_150 : M0K 150 := ⟨by decide +kernel, by decide +kernel⟩
theorem vk_329_130 : VK 329 130 150 1 11 := ⟨⟨List.mem_of_getElem? (i := 1081) (by decide +kernel), by decide +kernel⟩, List.mem_of_getElem? (i := 1082) (by decide +kernel), mo_150, m0_150, _, rfl, List.mem_of_getElem? (i := 1083) (by decide +kernel), by decide⟩
theorem d_329_959 : decode (mC 329) 959 = .ok (.aload_n 2, 1) := by decide +kernel
theorem d_329_960 : decode (mC 329) 960 = .ok (.aload_n 0, 1) := by decide +kernel
theorem d_329_961 : decode (mC 329) 961 = .ok (.iload_n 3, 1) := by decide +kernel
theorem d_329_962 : decode (mC 329) 962 = .ok (.iconst 1, 1) := by decide +kernel
theorem d_329_963 : decode (mC 329) 963 = .ok (.iadd, 1) := by decide +kernel
theorem d_329_964 : decode (mC 329) 964 = .ok (.iaload, 1) := by decide +kernel
theorem d_329_965 : decode (mC 329) 965 = .ok (.invokevirtual 133, 3) := by decide +kernel
theorem mo_292 : MOK 292 := ⟨List.mem_of_getElem? (i := 1886) (by decide +kernel), by decide +kernel, ⟨by decide +kernel, by decide +kernel⟩, List.mem_of_getElem? (i := 100) (by decide +kernel), by decide +kernel⟩
theorem m0_292 : M0K 292 := ⟨by decide +kernel, by decide +kernel⟩
theorem vk_329_133 : VK 329 133 292 1 12 := ⟨⟨List.mem_of_getElem? (i := 1883) (by decide +kernel), by decide +kernel⟩, List.mem_of_getElem? (i := 1884) (by decide +kernel), mo_292, m0_292, _, rfl, List.mem_of_getElem? (i := 1885) (by decide +kernel), by decide⟩
theorem d_329_968 : decode (mC 329) 968 = .ok (.if_icmp .eq 625, 3) := by decide +kernel
theorem d_329_971 : decode (mC 329) 971 = .ok (.iconst 0, 1) := by decide +kernel
theorem d_329_972 : decode (mC 329) 972 = .ok (.ireturn, 1) := by decide +kernel
theorem d_329_973 : decode (mC 329) 973 = .ok (.aload_n 1, 1) := by decide +kernel
theorem d_329_974 : decode (mC 329) 974 = .ok (.aload_n 0, 1) := by decide +kernel
theorem d_329_975 : decode (mC 329) 975 = .ok (.iload_n 3, 1) := by decide +kernel
theorem d_329_976 : decode (mC 329) 976 = .ok (.iconst 1, 1) := by decide +kernel
theorem d_329_977 : decode (mC 329) 977 = .ok (.iadd, 1) := by decide +kernel
theorem d_329_978 : decode (mC 329) 978 = .ok (.iaload, 1) := by decide +kernel
theorem d_329_979 : decode (mC 329) 979 = .ok (.invokevirtual 134, 3) := by decide +kernel
theorem mo_153 : MOK 153 := ⟨List.mem_of_getElem? (i := 1096) (by decide +kernel), by decide +kernel, ⟨by decide +kernel, by decide +kernel⟩, List.mem_of_getElem? (i := 88) (by decide +kernel), by decide +kernel⟩
theorem m0_153 : M0K 153 := ⟨by decide +kernel, by decide +kernel⟩
theorem vk_329_134 : VK 329 134 153 1 11 := ⟨⟨List.mem_of_getElem? (i := 1093) (by decide +kernel), by decide +kernel⟩, List.mem_of_getElem? (i := 1094) (by decide +kernel), mo_153, m0_153, _, rfl, List.mem_of_getElem? (i := 1095) (by decide +kernel), by decide⟩
theorem d_329_982 : decode (mC 329) 982 = .ok (.aload_n 2, 1) := by decide +kernel
theorem d_329_983 : decode (mC 329) 983 = .ok (.aload_n 0, 1) := by decide +kernel
theorem d_329_984 : decode (mC 329) 984 = .ok (.iload_n 3, 1) := by decide +kernel
theorem d_329_985 : decode (mC 329) 985 = .ok (.iconst 1, 1) := by decide +kernel
theorem d_329_986 : decode (mC 329) 986 = .ok (.iadd, 1) := by decide +kernel
theorem d_329_987 : decode (mC 329) 987 = .ok (.iaload, 1) := by decide +kernel
theorem d_329_988 : decode (mC 329) 988 = .ok (.invokevirtual 137, 3) := by decide +kernel
theorem mo_294 : MOK 294 := ⟨List.mem_of_getElem? (i := 1894) (by decide +kernel), by decide +kernel, ⟨by decide +kernel, by decide +kernel⟩, List.mem_of_getElem? (i := 100) (by decide +kernel), by decide +kernel⟩
theorem m0_294 : M0K 294 := ⟨by decide +kernel, by decide +kernel⟩
theorem vk_329_137 : VK 329 137 294 1 12 := ⟨⟨List.mem_of_getElem? (i := 1891) (by decide +kernel), by decide +kernel⟩, List.mem_of_getElem? (i := 1892) (by decide +kernel), mo_294, m0_294, _, rfl, List.mem_of_getElem? (i := 1893) (by decide +kernel), by decide⟩
theorem d_329_991 : decode (mC 329) 991 = .ok (.if_icmp .eq 602, 3) := by decide +kernel
theorem d_329_994 : decode (mC 329) 994 = .ok (.iconst 0, 1) := by decide +kernel
theorem d_329_995 : decode (mC 329) 995 = .ok (.ireturn, 1) := by decide +kernel
theorem d_329_996 : decode (mC 329) 996 = .ok (.aload_n 1, 1) := by decide +kernel
theorem d_329_997 : decode (mC 329) 997 = .ok (.aload_n 0, 1) := by decide +kernel
theorem d_329_998 : decode (mC 329) 998 = .ok (.iload_n 3, 1) := by decide +kernel
theorem d_329_999 : decode (mC 329) 999 = .ok (.iconst 1, 1) := by decide +kernel
theorem d_329_1000 : decode (mC 329) 1000 = .ok (.iadd, 1) := by decide +kernel
theorem d_329_1001 : decode (mC 329) 1001 = .ok (.iaload, 1) := by decide +kernel
theorem d_329_1002 : decode (mC 329) 1002 = .ok (.invokevirtual 138, 3) := by decide +kernel
theorem mo_154 : MOK 154 := ⟨List.mem_of_getElem? (i := 1100) (by decide +kernel), by decide +kernel, ⟨by decide +kernel, by decide +kernel⟩, List.mem_of_getElem? (i := 88) (by decide +kernel), by decide +kernel⟩
theorem m0_154 : M0K 154 := ⟨by decide +kernel, by decide +kernel⟩
theorem vk_329_138 : VK 329 138 154 1 11 := ⟨⟨List.mem_of_getElem? (i := 1097) (by decide +kernel), by decide +kernel⟩, List.mem_of_getElem? (i := 1098) (by decide +kernel), mo_154, m0_154, _, rfl, List.mem_of_getElem? (i := 1099) (by decide +kernel), by decide⟩
theorem d_329_1005 : decode (mC 329) 1005 = .ok (.aload_n 2, 1) := by decide +kernel
theorem d_329_1006 : decode (mC 329) 1006 = .ok (.aload_n 0, 1) := by decide +kernel
theorem d_329_1007 : decode (mC 329) 1007 = .ok (.iload_n 3, 1) := by decide +kernel
theorem d_329_1008 : decode (mC 329) 1008 = .ok (.iconst 1, 1) := by decide +kernel
theorem d_329_1009 : decode (mC 329) 1009 = .ok (.iadd, 1) := by decide +kernel
theorem d_329_1010 : decode (mC 329) 1010 = .ok (.iaload, 1) := by decide +kernel
theorem d_329_1011 : decode (mC 329) 1011 = .ok (.invokevirtual 141, 3) := by decide +kernel
theorem mo_295 : MOK 295 := ⟨List.mem_of_getElem? (i := 1898) (by decide +kernel), by decide +kernel, ⟨by decide +kernel, by decide +kernel⟩, List.mem_of_getElem? (i := 100) (by decide +kernel), by decide +kernel⟩
theorem m0_295 : M0K 295 := ⟨by decide +kernel, by decide +kernel⟩
theorem vk_329_141 : VK 329 141 295 1 12 := ⟨⟨List.mem_of_getElem? (i := 1895) (by decide +kernel), by decide +kernel⟩, List.mem_of_getElem? (i := 1896) (by decide +kernel), mo_295, m0_295, _, rfl, List.mem_of_getElem? (i := 1897) (by decide +kernel), by decide⟩
theorem d_329_1014 : decode (mC 329) 1014 = .ok (.if_icmp .eq 579, 3) := by decide +kernel
theorem d_329_1017 : decode (mC 329) 1017 = .ok (.iconst 0, 1) := by decide +kernel
theorem d_329_1018 : decode (mC 329) 1018 = .ok (.ireturn, 1) := by decide +kernel
theorem d_329_1019 : decode (mC 329) 1019 = .ok (.aload_n 1, 1) := by decide +kernel
theorem d_329_1020 : decode (mC 329) 1020 = .ok (.invokevirtual 142, 3) := by decide +kernel
theorem mo_155 : MOK 155 := ⟨List.mem_of_getElem? (i := 1106) (by decide +kernel), by decide +kernel, ⟨by decide +kernel, by decide +kernel⟩, List.mem_of_getElem? (i := 88) (by decide +kernel), by decide +kernel⟩
theorem m0_155 : M0K 155 := ⟨by decide +kernel, by decide +kernel⟩
theorem vk_329_142 : VK 329 142 155 0 11 := ⟨⟨List.mem_of_getElem? (i := 1103) (by decide +kernel), by decide +kernel⟩, List.mem_of_getElem? (i := 1104) (by decide +kernel), mo_155, m0_155, _, rfl, List.mem_of_getElem? (i := 1105) (by decide +kernel), by decide⟩
theorem d_329_1023 : decode (mC 329) 1023 = .ok (.aload_n 2, 1) := by decide +kernel
theorem d_329_1024 : decode (mC 329) 1024 = .ok (.invokevirtual 145, 3) := by decide +kernel
theorem mo_296 : MOK 296 := ⟨List.mem_of_getElem? (i := 1902) (by decide +kernel), by decide +kernel, ⟨by decide +kernel, by decide +kernel⟩, List.mem_of_getElem? (i := 100) (by decide +kernel), by decide +kernel⟩
theorem m0_296 : M0K 296 := ⟨by decide +kernel, by decide +kernel⟩
theorem vk_329_145 : VK 329 145 296 0 12 := ⟨⟨List.mem_of_getElem? (i := 1899) (by decide +kernel), by decide +kernel⟩, List.mem_of_getElem? (i := 1900) (by decide +kernel), mo_296, m0_296, _, rfl, List.mem_of_getElem? (i := 1901) (by decide +kernel), by decide⟩
theorem d_329_1027 : decode (mC 329) 1027 = .ok (.if_icmp .eq 566, 3) := by decide +kernel
theorem d_329_1030 : decode (mC 329) 1030 = .ok (.iconst 0, 1) := by decide +kernel
theorem d_329_1031 : decode (mC 329) 1031 = .ok (.ireturn, 1) := by decide +kernel
theorem d_329_1032 : decode (mC 329) 1032 = .ok (.aload_n 1, 1) := by decide +kernel
theorem d_329_1033 : decode (mC 329) 1033 = .ok (.aload_n 0, 1) := by decide +kernel
theorem d_329_1034 : decode (mC 329) 1034 = .ok (.iload_n 3, 1) := by decide +kernel
theorem d_329_1035 : decode (mC 329) 1035 = .ok (.iconst 1, 1) := by decide +kernel
theorem d_329_1036 : decode (mC 329) 1036 = .ok (.iadd, 1) := by decide +kernel
theorem d_329_1037 : decode (mC 329) 1037 = .ok (.iaload, 1) := by decide +kernel
theorem d_329_1038 : decode (mC 329) 1038 = .ok (.invokevirtual 146, 3) := by decide +kernel
theorem mo_156 : MOK 156 := ⟨List.mem_of_getElem? (i := 1110) (by decide +kernel), by decide +kernel, ⟨by decide +kernel, by decide +kernel⟩, List.mem_of_getElem? (i := 88) (by decide +kernel), by decide +kernel⟩
theorem m0_156 : M0K 156 := ⟨by decide +kernel, by decide +kernel⟩
theorem vk_329_146 : VK 329 146 156 1 11 := ⟨⟨List.mem_of_getElem? (i := 1107) (by decide +kernel), by decide +kernel⟩, List.mem_of_getElem? (i := 1108) (by decide +kernel), mo_156, m0_156, _, rfl, List.mem_of_getElem? (i := 1109) (by decide +kernel), by decide⟩
theorem d_329_1041 : decode (mC 329) 1041 = .ok (.aload_n 2, 1) := by decide +kernel
theorem d_329_1042 : decode (mC 329) 1042 = .ok (.aload_n 0, 1) := by decide +kernel
theorem d_329_1043 : decode (mC 329) 1043 = .ok (.iload_n 3, 1) := by decide +kernel
theorem d_329_1044 : decode (mC 329) 1044 = .ok (.iconst 1, 1) := by decide +kernel
theorem d_329_1045 : decode (mC 329) 1045 = .ok (.iadd, 1) := by decide +kernel
theorem d_329_1046 : decode (mC 329) 1046 = .ok (.iaload, 1) := by decide +kernel
theorem d_329_1047 : decode (mC 329) 1047 = .ok (.invokevirtual 149, 3) := by decide +kernel
theorem mo_282 : MOK 282 := ⟨List.mem_of_getElem? (i := 1845) (by decide +kernel), by decide +kernel, ⟨by decide +kernel, by decide +kernel⟩, List.mem_of_getElem? (i := 100) (by decide +kernel), by decide +kernel⟩
theorem m0_282 : M0K 282 := ⟨by decide +kernel, by decide +kernel⟩
theorem vk_329_149 : VK 329 149 282 1 12 := ⟨⟨List.mem_of_getElem? (i := 1842) (by decide +kernel), by decide +kernel⟩, List.mem_of_getElem? (i := 1843) (by decide +kernel), mo_282, m0_282, _, rfl, List.mem_of_getElem? (i := 1844) (by decide +kernel), by decide⟩
theorem d_329_1050 : decode (mC 329) 1050 = .ok (.if_icmp .eq 543, 3) := by decide +kernel
theorem d_329_1053 : decode (mC 329) 1053 = .ok (.iconst 0, 1) := by decide +kernel
theorem d_329_1054 : decode (mC 329) 1054 = .ok (.ireturn, 1) := by decide +kernel
theorem d_329_1055 : decode (mC 329) 1055 = .ok (.aload_n 1, 1) := by decide +kernel
theorem d_329_1056 : decode (mC 329) 1056 = .ok (.aload_n 0, 1) := by decide +kernel
theorem d_329_1057 : decode (mC 329) 1057 = .ok (.iload_n 3, 1) := by decide +kernel
theorem d_329_1058 : decode (mC 329) 1058 = .ok (.iconst 1, 1) := by decide +kernel
theorem d_329_1059 : decode (mC 329) 1059 = .ok (.iadd, 1) := by decide +kernel
theorem d_329_1060 : decode (mC 329) 1060 = .ok (.iaload, 1) := by decide +kernel
theorem d_329_1061 : decode (mC 329) 1061 = .ok (.invokevirtual 150, 3) := by decide +kernel
theorem mo_157 : MOK 157 := ⟨List.mem_of_getElem? (i := 1114) (by decide +kernel), by decide +kernel, ⟨by decide +kernel, by decide +kernel⟩, List.mem_of_getElem? (i := 88) (by decide +kernel), by decide +kernel⟩
theorem m0_157 : M0K 157 := ⟨by decide +kernel, by decide +kernel⟩
theorem vk_329_150 : VK 329 150 157 1 11 := ⟨⟨List.mem_of_getElem? (i := 1111) (by decide +kernel), by decide +kernel⟩, List.mem_of_getElem? (i := 1112) (by decide +kernel), mo_157, m0_157, _, rfl, List.mem_of_getElem? (i := 1113) (by decide +kernel), by decide⟩
theorem d_329_1064 : decode (mC 329) 1064 = .ok (.aload_n 2, 1) := by decide +kernel
theorem d_329_1065 : decode (mC 329) 1065 = .ok (.aload_n 0, 1) := by decide +kernel
theorem d_329_1066 : decode (mC 329) 1066 = .ok (.iload_n 3, 1) := by decide +kernel
theorem d_329_1067 : decode (mC 329) 1067 = .ok (.iconst 1, 1) := by decide +kernel
theorem d_329_1068 : decode (mC 329) 1068 = .ok (.iadd, 1) := by decide +kernel
theorem d_329_1069 : decode (mC 329) 1069 = .ok (.iaload, 1) := by decide +kernel
theorem d_329_1070 : decode (mC 329) 1070 = .ok (.invokevirtual 153, 3) := by decide +kernel
theorem mo_297 : MOK 297 := ⟨List.mem_of_getElem? (i := 1906) (by decide +kernel), by decide +kernel, ⟨by decide +kernel, by decide +kernel⟩, List.mem_of_getElem? (i := 100) (by decide +kernel), by decide +kernel⟩
theorem m0_297 : M0K 297 := ⟨by decide +kernel, by decide +kernel⟩
theorem vk_329_153 : VK 329 153 297 1 12 := ⟨⟨List.mem_of_getElem? (i := 1903) (by decide +kernel), by decide +kernel⟩, List.mem_of_getElem? (i := 1904) (by decide +kernel), mo_297, m0_297, _, rfl, List.mem_of_getElem? (i := 1905) (by decide +kernel), by decide⟩
theorem d_329_1073 : decode (mC 329) 1073 = .ok (.if_icmp .eq 520, 3) := by decide +kernel
theorem d_329_1076 : decode (mC 329) 1076 = .ok (.iconst 0, 1) := by decide +kernel
theorem d_329_1077 : decode (mC 329) 1077 = .ok (.ireturn, 1) := by decide +kernel
theorem d_329_1078 : decode (mC 329) 1078 = .ok (.aload_n 1, 1) := by decide +kernel
theorem d_329_1079 : decode (mC 329) 1079 = .ok (.aload_n 0, 1) := by decide +kernel
theorem d_329_1080 : decode (mC 329) 1080 = .ok (.iload_n 3, 1) := by decide +kernel
theorem d_329_1081 : decode (mC 329) 1081 = .ok (.iconst 1, 1) := by decide +kernel
theorem d_329_1082 : decode (mC 329) 1082 = .ok (.iadd, 1) := by decide +kernel
theorem d_329_1083 : decode (mC 329) 1083 = .ok (.iaload, 1) := by decide +kernel
theorem d_329_1084 : decode (mC 329) 1084 = .ok (.invokevirtual 154, 3) := by decide +kernel
theorem mo_159 : MOK 159 := ⟨List.mem_of_getElem? (i := 1123) (by decide +kernel), by decide +kernel, ⟨by decide +kernel, by decide +kernel⟩, List.mem_of_getElem? (i := 88) (by decide +kernel), by decide +kernel⟩
theorem m0_159 : M0K 159 := ⟨by decide +kernel, by decide +kernel⟩
theorem vk_329_154 : VK 329 154 159 1 11 := ⟨⟨List.mem_of_getElem? (i := 1120) (by decide +kernel), by decide +kernel⟩, List.mem_of_getElem? (i := 1121) (by decide +kernel), mo_159, m0_159, _, rfl, List.mem_of_getElem? (i := 1122) (by decide +kernel), by decide⟩
theorem d_329_1087 : decode (mC 329) 1087 = .ok (.aload_n 2, 1) := by decide +kernel
theorem d_329_1088 : decode (mC 329) 1088 = .ok (.aload_n 0, 1) := by decide +kernel
theorem d_329_1089 : decode (mC 329) 1089 = .ok (.iload_n 3, 1) := by decide +kernel
theorem d_329_1090 : decode (mC 329) 1090 = .ok (.iconst 1, 1) := by decide +kernel
theorem d_329_1091 : decode (mC 329) 1091 = .ok (.iadd, 1) := by decide +kernel
theorem d_329_1092 : decode (mC 329) 1092 = .ok (.iaload, 1) := by decide +kernel
theorem d_329_1093 : decode (mC 329) 1093 = .ok (.invokevirtual 157, 3) := by decide +kernel
theorem mo_298 : MOK 298 := ⟨List.mem_of_getElem? (i := 1910) (by decide +kernel), by decide +kernel, ⟨by decide +kernel, by decide +kernel⟩, List.mem_of_getElem? (i := 100) (by decide +kernel), by decide +kernel⟩
theorem m0_298 : M0K 298 := ⟨by decide +kernel, by decide +kernel⟩
theorem vk_329_157 : VK 329 157 298 1 12 := ⟨⟨List.mem_of_getElem? (i := 1907) (by decide +kernel), by decide +kernel⟩, List.mem_of_getElem? (i := 1908) (by decide +kernel), mo_298, m0_298, _, rfl, List.mem_of_getElem? (i := 1909) (by decide +kernel), by decide⟩
theorem d_329_1096 : decode (mC 329) 1096 = .ok (.if_icmp .eq 497, 3) := by decide +kernel
theorem d_329_1099 : decode (mC 329) 1099 = .ok (.iconst 0, 1) := by decide +kernel
theorem d_329_1100 : decode (mC 329) 1100 = .ok (.ireturn, 1) := by decide +kernel
theorem d_329_1101 : decode (mC 329) 1101 = .ok (.aload_n 1, 1) := by decide +kernel
theorem d_329_1102 : decode (mC 329) 1102 = .ok (.invokevirtual 158, 3) := by decide +kernel
theorem mo_162 : MOK 162 := ⟨List.mem_of_getElem? (i := 1137) (by decide +kernel), by decide +kernel, ⟨by decide +kernel, by decide +kernel⟩, List.mem_of_getElem? (i := 88) (by decide +kernel), by decide +kernel⟩
theorem m0_162 : M0K 162 := ⟨by decide +kernel, by decide +kernel⟩
theorem vk_329_158 : VK 329 158 162 0 11 := ⟨⟨List.mem_of_getElem? (i := 1134) (by decide +kernel), by decide +kernel⟩, List.mem_of_getElem? (i := 1135) (by decide +kernel), mo_162, m0_162, _, rfl, List.mem_of_getElem? (i := 1136) (by decide +kernel), by decide⟩
theorem d_329_1105 : decode (mC 329) 1105 = .ok (.aload_n 2, 1) := by decide +kernel
theorem d_329_1106 : decode (mC 329) 1106 = .ok (.invokevirtual 161, 3) := by decide +kernel
theorem mo_301 : MOK 301 := ⟨List.mem_of_getElem? (i := 1922) (by decide +kernel), by decide +kernel, ⟨by decide +kernel, by decide +kernel⟩, List.mem_of_getElem? (i := 100) (by decide +kernel), by decide +kernel⟩
theorem m0_301 : M0K 301 := ⟨by decide +kernel, by decide +kernel⟩
theorem vk_329_161 : VK 329 161 301 0 12 := ⟨⟨List.mem_of_getElem? (i := 1919) (by decide +kernel), by decide +kernel⟩, List.mem_of_getElem? (i := 1920) (by decide +kernel), mo_301, m0_301, _, rfl, List.mem_of_getElem? (i := 1921) (by decide +kernel), by decide⟩
theorem d_329_1109 : decode (mC 329) 1109 = .ok (.if_icmp .eq 484, 3) := by decide +kernel
theorem d_329_1112 : decode (mC 329) 1112 = .ok (.iconst 0, 1) := by decide +kernel
theorem d_329_1113 : decode (mC 329) 1113 = .ok (.ireturn, 1) := by decide +kernel
theorem d_329_1114 : decode (mC 329) 1114 = .ok (.aload_n 1, 1) := by decide +kernel
theorem d_329_1115 : decode (mC 329) 1115 = .ok (.aload_n 0, 1) := by decide +kernel
theorem d_329_1116 : decode (mC 329) 1116 = .ok (.iload_n 3, 1) := by decide +kernel
theorem d_329_1117 : decode (mC 329) 1117 = .ok (.iconst 1, 1) := by decide +kernel
theorem d_329_1118 : decode (mC 329) 1118 = .ok (.iadd, 1) := by decide +kernel
theorem d_329_1119 : decode (mC 329) 1119 = .ok (.iaload, 1) := by decide +kernel
theorem d_329_1120 : decode (mC 329) 1120 = .ok (.invokevirtual 162, 3) := by decide +kernel
theorem mo_164 : MOK 164 := ⟨List.mem_of_getElem? (i := 1145) (by decide +kernel), by decide +kernel, ⟨by decide +kernel, by decide +kernel⟩, List.mem_of_getElem? (i := 88) (by decide +kernel), by decide +kernel⟩
theorem m0_164 : M0K 164 := ⟨by decide +kernel, by decide +kernel⟩
theorem vk_329_162 : VK 329 162 164 1 11 := ⟨⟨List.mem_of_getElem? (i := 1142) (by decide +kernel), by decide +kernel⟩, List.mem_of_getElem? (i := 1143) (by decide +kernel), mo_164, m0_164, _, rfl, List.mem_of_getElem? (i := 1144) (by decide +kernel), by decide⟩
theorem d_329_1123 : decode (mC 329) 1123 = .ok (.aload_n 2, 1) := by decide +kernel
theorem d_329_1124 : decode (mC 329) 1124 = .ok (.aload_n 0, 1) := by decide +kernel
theorem d_329_1125 : decode (mC 329) 1125 = .ok (.iload_n 3, 1) := by decide +kernel
theorem d_329_1126 : decode (mC 329) 1126 = .ok (.iconst 1, 1) := by decide +kernel
theorem d_329_1127 : decode (mC 329) 1127 = .ok (.iadd, 1) := by decide +kernel
theorem d_329_1128 : decode (mC 329) 1128 = .ok (.iaload, 1) := by decide +kernel
theorem d_329_1129 : decode (mC 329) 1129 = .ok (.invokevirtual 165, 3) := by decide +kernel
theorem mo_302 : MOK 302 := ⟨List.mem_of_getElem? (i := 1926) (by decide +kernel), by decide +kernel, ⟨by decide +kernel, by decide +kernel⟩, List.mem_of_getElem? (i := 100) (by decide +kernel), by decide +kernel⟩
theorem m0_302 : M0K 302 := ⟨by decide +kernel, by decide +kernel⟩
theorem vk_329_165 : VK 329 165 302 1 12 := ⟨⟨List.mem_of_getElem? (i := 1923) (by decide +kernel), by decide +kernel⟩, List.mem_of_getElem? (i := 1924) (by decide +kernel), mo_302, m0_302, _, rfl, List.mem_of_getElem? (i := 1925) (by decide +kernel), by decide⟩
theorem d_329_1132 : decode (mC 329) 1132 = .ok (.if_icmp .eq 461, 3) := by decide +kernel
theorem d_329_1135 : decode (mC 329) 1135 = .ok (.iconst 0, 1) := by decide +kernel
theorem d_329_1136 : decode (mC 329) 1136 = .ok (.ireturn, 1) := by decide +kernel
theorem d_329_1137 : decode (mC 329) 1137 = .ok (.aload_n 1, 1) := by decide +kernel
theorem d_329_1138 : decode (mC 329) 1138 = .ok (.invokevirtual 166, 3) := by decide +kernel
theorem mo_166 : MOK 166 := ⟨List.mem_of_getElem? (i := 1153) (by decide +kernel), by decide +kernel, ⟨by decide +kernel, by decide +kernel⟩, List.mem_of_getElem? (i := 88) (by decide +kernel), by decide +kernel⟩
theorem m0_166 : M0K 166 := ⟨by decide +kernel, by decide +kernel⟩
theorem vk_329_166 : VK 329 166 166 0 11 := ⟨⟨List.mem_of_getElem? (i := 1150) (by decide +kernel), by decide +kernel⟩, List.mem_of_getElem? (i := 1151) (by decide +kernel), mo_166, m0_166, _, rfl, List.mem_of_getElem? (i := 1152) (by decide +kernel), by decide⟩
theorem d_329_1141 : decode (mC 329) 1141 = .ok (.aload_n 2, 1) := by decide +kernel
theorem d_329_1142 : decode (mC 329) 1142 = .ok (.invokevirtual 169, 3) := by decide +kernel
theorem mo_308 : MOK 308 := ⟨List.mem_of_getElem? (i := 1950) (by decide +kernel), by decide +kernel, ⟨by decide +kernel, by decide +kernel⟩, List.mem_of_getElem? (i := 100) (by decide +kernel), by decide +kernel⟩
theorem m0_308 : M0K 308 := ⟨by decide +kernel, by decide +kernel⟩
theorem vk_329_169 : VK 329 169 308 0 12 := ⟨⟨List.mem_of_getElem? (i := 1947) (by decide +kernel), by decide +kernel⟩, List.mem_of_getElem? (i := 1948) (by decide +kernel), mo_308, m0_308, _, rfl, List.mem_of_getElem? (i := 1949) (by decide +kernel), by decide⟩
theorem d_329_1145 : decode (mC 329) 1145 = .ok (.if_icmp .eq 448, 3) := by decide +kernel
theorem d_329_1148 : decode (mC 329) 1148 = .ok (.iconst 0, 1) := by decide +kernel
theorem d_329_1149 : decode (mC 329) 1149 = .ok (.ireturn, 1) := by decide +kernel
theorem d_329_1150 : decode (mC 329) 1150 = .ok (.aload_n 1, 1) := by decide +kernel
theorem d_329_1151 : decode (mC 329) 1151 = .ok (.invokevirtual 170, 3) := by decide +kernel
theorem mo_168 : MOK 168 := ⟨List.mem_of_getElem? (i := 1161) (by decide +kernel), by decide +kernel, ⟨by decide +kernel, by decide +kernel⟩, List.mem_of_getElem? (i := 88) (by decide +kernel), by decide +kernel⟩
theorem m0_168 : M0K 168 := ⟨by decide +kernel, by decide +kernel⟩
theorem vk_329_170 : VK 329 170 168 0 11 := ⟨⟨List.mem_of_getElem? (i := 1158) (by decide +kernel), by decide +kernel⟩, List.mem_of_getElem? (i := 1159) (by decide +kernel), mo_168, m0_168, _, rfl, List.mem_of_getElem? (i := 1160) (by decide +kernel), by decide⟩
theorem d_329_1154 : decode (mC 329) 1154 = .ok (.aload_n 2, 1) := by decide +kernel
theorem d_329_1155 : decode (mC 329) 1155 = .ok (.invokevirtual 173, 3) := by decide +kernel
theorem mo_309 : MOK 309 := ⟨List.mem_of_getElem? (i := 1954) (by decide +kernel), by decide +kernel, ⟨by decide +kernel, by decide +kernel⟩, List.mem_of_getElem? (i := 100) (by decide +kernel), by decide +kernel⟩
theorem m0_309 : M0K 309 := ⟨by decide +kernel, by decide +kernel⟩
theorem vk_329_173 : VK 329 173 309 0 12 := ⟨⟨List.mem_of_getElem? (i := 1951) (by decide +kernel), by decide +kernel⟩, List.mem_of_getElem? (i := 1952) (by decide +kernel), mo_309, m0_309, _, rfl, List.mem_of_getElem? (i := 1953) (by decide +kernel), by decide⟩
theorem d_329_1158 : decode (mC 329) 1158 = .ok (.if_icmp .eq 435, 3) := by decide +kernel
theorem d_329_1161 : decode (mC 329) 1161 = .ok (.iconst 0, 1) := by decide +kernel
theorem d_329_1162 : decode (mC 329) 1162 = .ok (.ireturn, 1) := by decide +kernel
theorem d_329_1163 : decode (mC 329) 1163 = .ok (.aload_n 1, 1) := by decide +kernel
theorem d_329_1164 : decode (mC 329) 1164 = .ok (.aload_n 0, 1) := by decide +kernel
theorem d_329_1165 : decode (mC 329) 1165 = .ok (.iload_n 3, 1) := by decide +kernel
theorem d_329_1166 : decode (mC 329) 1166 = .ok (.iconst 1, 1) := by decide +kernel
theorem d_329_1167 : decode (mC 329) 1167 = .ok (.iadd, 1) := by decide +kernel
theorem d_329_1168 : decode (mC 329) 1168 = .ok (.iaload, 1) := by decide +kernel
theorem d_329_1169 : decode (mC 329) 1169 = .ok (.invokevirtual 174, 3) := by decide +kernel
theorem mo_169 : MOK 169 := ⟨List.mem_of_getElem? (i := 1165) (by decide +kernel), by decide +kernel, ⟨by decide +kernel, by decide +kernel⟩, List.mem_of_getElem? (i := 88) (by decide +kernel), by decide +kernel⟩
theorem m0_169 : M0K 169 := ⟨by decide +kernel, by decide +kernel⟩
theorem vk_329_174 : VK 329 174 169 1 11 := ⟨⟨List.mem_of_getElem? (i := 1162) (by decide +kernel), by decide +kernel⟩, List.mem_of_getElem? (i := 1163) (by decide +kernel), mo_169, m0_169, _, rfl, List.mem_of_getElem? (i := 1164) (by decide +kernel), by decide⟩
theorem d_329_1172 : decode (mC 329) 1172 = .ok (.aload_n 2, 1) := by decide +kernel
theorem d_329_1173 : decode (mC 329) 1173 = .ok (.aload_n 0, 1) := by decide +kernel
theorem d_329_1174 : decode (mC 329) 1174 = .ok (.iload_n 3, 1) := by decide +kernel
theorem d_329_1175 : decode (mC 329) 1175 = .ok (.iconst 1, 1) := by decide +kernel
theorem d_329_1176 : decode (mC 329) 1176 = .ok (.iadd, 1) := by decide +kernel
theorem d_329_1177 : decode (mC 329) 1177 = .ok (.iaload, 1) := by decide +kernel
theorem d_329_1178 : decode (mC 329) 1178 = .ok (.invokevirtual 177, 3) := by decide +kernel
theorem mo_303 : MOK 303 := ⟨List.mem_of_getElem? (i := 1930) (by decide +kernel), by decide +kernel, ⟨by decide +kernel, by decide +kernel⟩, List.mem_of_getElem? (i := 100) (by decide +kernel), by decide +kernel⟩
theorem m0_303 : M0K 303 := ⟨by decide +kernel, by decide +kernel⟩
theorem vk_329_177 : VK 329 177 303 1 12 := ⟨⟨List.mem_of_getElem? (i := 1927) (by decide +kernel), by decide +kernel⟩, List.mem_of_getElem? (i := 1928) (by decide +kernel), mo_303, m0_303, _, rfl, List.mem_of_getElem? (i := 1929) (by decide +kernel), by decide⟩
theorem d_329_1181 : decode (mC 329) 1181 = .ok (.if_icmp .eq 412, 3) := by decide +kernel
theorem d_329_1184 : decode (mC 329) 1184 = .ok (.iconst 0, 1) := by decide +kernel
theorem d_329_1185 : decode (mC 329) 1185 = .ok (.ireturn, 1) := by decide +kernel
theorem d_329_1186 : decode (mC 329) 1186 = .ok (.aload_n 1, 1) := by decide +kernel
theorem d_329_1187 : decode (mC 329) 1187 = .ok (.invokevirtual 178, 3) := by decide +kernel
theorem mo_171 : MOK 171 := ⟨List.mem_of_getElem? (i := 1173) (by decide +kernel), by decide +kernel, ⟨by decide +kernel, by decide +kernel⟩, List.mem_of_getElem? (i := 88) (by decide +kernel), by decide +kernel⟩
theorem m0_171 : M0K 171 := ⟨by decide +kernel, by decide +kernel⟩
theorem vk_329_178 : VK 329 178 171 0 11 := ⟨⟨List.mem_of_getElem? (i := 1170) (by decide +kernel), by decide +kernel⟩, List.mem_of_getElem? (i := 1171) (by decide +kernel), mo_171, m0_171, _, rfl, List.mem_of_getElem? (i := 1172) (by decide +kernel), by decide⟩
theorem d_329_1190 : decode (mC 329) 1190 = .ok (.aload_n 2, 1) := by decide +kernel
theorem d_329_1191 : decode (mC 329) 1191 = .ok (.invokevirtual 181, 3) := by decide +kernel
theorem mo_304 : MOK 304 := ⟨List.mem_of_getElem? (i := 1934) (by decide +kernel), by decide +kernel, ⟨by decide +kernel, by decide +kernel⟩, List.mem_of_getElem? (i := 100) (by decide +kernel), by decide +kernel⟩
theorem m0_304 : M0K 304 := ⟨by decide +kernel, by decide +kernel⟩
theorem vk_329_181 : VK 329 181 304 0 12 := ⟨⟨List.mem_of_getElem? (i := 1931) (by decide +kernel), by decide +kernel⟩, List.mem_of_getElem? (i := 1932) (by decide +kernel), mo_304, m0_304, _, rfl, List.mem_of_getElem? (i := 1933) (by decide +kernel), by decide⟩
theorem d_329_1194 : decode (mC 329) 1194 = .ok (.if_icmp .eq 399, 3) := by decide +kernel
theorem d_329_1197 : decode (mC 329) 1197 = .ok (.iconst 0, 1) := by decide +kernel
theorem d_329_1198 : decode (mC 329) 1198 = .ok (.ireturn, 1) := by decide +kernel
theorem d_329_1199 : decode (mC 329) 1199 = .ok (.aload_n 1, 1) := by decide +kernel
theorem d_329_1200 : decode (mC 329) 1200 = .ok (.invokevirtual 182, 3) := by decide +kernel
theorem mo_172 : MOK 172 := ⟨List.mem_of_getElem? (i := 1177) (by decide +kernel), by decide +kernel, ⟨by decide +kernel, by decide +kernel⟩, List.mem_of_getElem? (i := 88) (by decide +kernel), by decide +kernel⟩
theorem m0_172 : M0K 172 := ⟨by decide +kernel, by decide +kernel⟩
theorem vk_329_182 : VK 329 182 172 0 11 := ⟨⟨List.mem_of_getElem? (i := 1174) (by decide +kernel), by decide +kernel⟩, List.mem_of_getElem? (i := 1175) (by decide +kernel), mo_172, m0_172, _, rfl, List.mem_of_getElem? (i := 1176) (by decide +kernel), by decide⟩
theorem d_329_1203 : decode (mC 329) 1203 = .ok (.aload_n 2, 1) := by decide +kernel
theorem d_329_1204 : decode (mC 329) 1204 = .ok (.invokevirtual 185, 3) := by decide +kernel
theorem mo_305 : MOK 305 := ⟨List.mem_of_getElem? (i := 1938) (by decide +kernel), by decide +kernel, ⟨by decide +kernel, by decide +kernel⟩, List.mem_of_getElem? (i := 100) (by decide +kernel), by decide +kernel⟩
theorem m0_305 : M0K 305 := ⟨by decide +kernel, by decide +kernel⟩
theorem vk_329_185 : VK 329 185 305 0 12 := ⟨⟨List.mem_of_getElem? (i := 1935) (by decide +kernel), by decide +kernel⟩, List.mem_of_getElem? (i := 1936) (by decide +kernel), mo_305, m0_305, _, rfl, List.mem_of_getElem? (i := 1937) (by decide +kernel), by decide⟩
theorem d_329_1207 : decode (mC 329) 1207 = .ok (.if_icmp .eq 386, 3) := by decide +kernel
theorem d_329_1210 : decode (mC 329) 1210 = .ok (.iconst 0, 1) := by decide +kernel
theorem d_329_1211 : decode (mC 329) 1211 = .ok (.ireturn, 1) := by decide +kernel
theorem d_329_1212 : decode (mC 329) 1212 = .ok (.aload_n 1, 1) := by decide +kernel
theorem d_329_1213 : decode (mC 329) 1213 = .ok (.invokevirtual 186, 3) := by decide +kernel
theorem mo_173 : MOK 173 := ⟨List.mem_of_getElem? (i := 1181) (by decide +kernel), by decide +kernel, ⟨by decide +kernel, by decide +kernel⟩, List.mem_of_getElem? (i := 88) (by decide +kernel), by decide +kernel⟩
theorem m0_173 : M0K 173 := ⟨by decide +kernel, by decide +kernel⟩
theorem vk_329_186 : VK 329 186 173 0 11 := ⟨⟨List.mem_of_getElem? (i := 1178) (by decide +kernel), by decide +kernel⟩, List.mem_of_getElem? (i := 1179) (by decide +kernel), mo_173, m0_173, _, rfl, List.mem_of_getElem? (i := 1180) (by decide +kernel), by decide⟩
theorem d_329_1216 : decode (mC 329) 1216 = .ok (.aload_n 2, 1) := by decide +kernel
theorem d_329_1217 : decode (mC 329) 1217 = .ok (.invokevirtual 189, 3) := by decide +kernel
theorem mo_306 : MOK 306 := ⟨List.mem_of_getElem? (i := 1942) (by decide +kernel), by decide +kernel, ⟨by decide +kernel, by decide +kernel⟩, List.mem_of_getElem? (i := 100) (by decide +kernel), by decide +kernel⟩
theorem m0_306 : M0K 306 := ⟨by decide +kernel, by decide +kernel⟩
theorem vk_329_189 : VK 329 189 306 0 12 := ⟨⟨List.mem_of_getElem? (i := 1939) (by decide +kernel), by decide +kernel⟩, List.mem_of_getElem? (i := 1940) (by decide +kernel), mo_306, m0_306, _, rfl, List.mem_of_getElem? (i := 1941) (by decide +kernel), by decide⟩
theorem d_329_1220 : decode (mC 329) 1220 = .ok (.if_icmp .eq 373, 3) := by decide +kernel
theorem d_329_1223 : decode (mC 329) 1223 = .ok (.iconst 0, 1) := by decide +kernel
theorem d_329_1224 : decode (mC 329) 1224 = .ok (.ireturn, 1) := by decide +kernel
theorem d_329_1225 : decode (mC 329) 1225 = .ok (.aload_n 1, 1) := by decide +kernel
theorem d_329_1226 : decode (mC 329) 1226 = .ok (.invokevirtual 190, 3) := by decide +kernel
theorem mo_174 : MOK 174 := ⟨List.mem_of_getElem? (i := 1185) (by decide +kernel), by decide +kernel, ⟨by decide +kernel, by decide +kernel⟩, List.mem_of_getElem? (i := 88) (by decide +kernel), by decide +kernel⟩
theorem m0_174 : M0K 174 := ⟨by decide +kernel, by decide +kernel⟩
theorem vk_329_190 : VK 329 190 174 0 11 := ⟨⟨List.mem_of_getElem? (i := 1182) (by decide +kernel), by decide +kernel⟩, List.mem_of_getElem? (i := 1183) (by decide +kernel), mo_174, m0_174, _, rfl, List.mem_of_getElem? (i := 1184) (by decide +kernel), by decide⟩
theorem d_329_1229 : decode (mC 329) 1229 = .ok (.aload_n 2, 1) := by decide +kernel
theorem d_329_1230 : decode (mC 329) 1230 = .ok (.invokevirtual 193, 3) := by decide +kernel
theorem mo_307 : MOK 307 := ⟨List.mem_of_getElem? (i := 1946) (by decide +kernel), by decide +kernel, ⟨by decide +kernel, by decide +kernel⟩, List.mem_of_getElem? (i := 100) (by decide +kernel), by decide +kernel⟩
theorem m0_307 : M0K 307 := ⟨by decide +kernel, by decide +kernel⟩
theorem vk_329_193 : VK 329 193 307 0 12 := ⟨⟨List.mem_of_getElem? (i := 1943) (by decide +kernel), by decide +kernel⟩, List.mem_of_getElem? (i := 1944) (by decide +kernel), mo_307, m0_307, _, rfl, List.mem_of_getElem? (i := 1945) (by decide +kernel), by decide⟩
theorem d_329_1233 : decode (mC 329) 1233 = .ok (.if_icmp .eq 360, 3) := by decide +kernel
theorem d_329_1236 : decode (mC 329) 1236 = .ok (.iconst 0, 1) := by decide +kernel
theorem d_329_1237 : decode (mC 329) 1237 = .ok (.ireturn, 1) := by decide +kernel
theorem d_329_1238 : decode (mC 329) 1238 = .ok (.aload_n 1, 1) := by decide +kernel
theorem d_329_1239 : decode (mC 329) 1239 = .ok (.aload_n 0, 1) := by decide +kernel
theorem d_329_1240 : decode (mC 329) 1240 = .ok (.iload_n 3, 1) := by decide +kernel
theorem d_329_1241 : decode (mC 329) 1241 = .ok (.iconst 1, 1) := by decide +kernel
theorem d_329_1242 : decode (mC 329) 1242 = .ok (.iadd, 1) := by decide +kernel
theorem d_329_1243 : decode (mC 329) 1243 = .ok (.iaload, 1) := by decide +kernel
theorem d_329_1244 : decode (mC 329) 1244 = .ok (.invokevirtual 194, 3) := by decide +kernel
theorem mo_176 : MOK 176 := ⟨List.mem_of_getElem? (i := 1193) (by decide +kernel), by decide +kernel, ⟨by decide +kernel, by decide +kernel⟩, List.mem_of_getElem? (i := 88) (by decide +kernel), by decide +kernel⟩
theorem m0_176 : M0K 176 := ⟨by decide +kernel, by decide +kernel⟩
theorem vk_329_194 : VK 329 194 176 1 11 := ⟨⟨List.mem_of_getElem? (i := 1190) (by decide +kernel), by decide +kernel⟩, List.mem_of_getElem? (i := 1191) (by decide +kernel), mo_176, m0_176, _, rfl, List.mem_of_getElem? (i := 1192) (by decide +kernel), by decide⟩
theorem d_329_1247 : decode (mC 329) 1247 = .ok (.aload_n 2, 1) := by decide +kernel
theorem d_329_1248 : decode (mC 329) 1248 = .ok (.aload_n 0, 1) := by decide +kernel
theorem d_329_1249 : decode (mC 329) 1249 = .ok (.iload_n 3, 1) := by decide +kernel
theorem d_329_1250 : decode (mC 329) 1250 = .ok (.iconst 1, 1) := by decide +kernel
theorem d_329_1251 : decode (mC 329) 1251 = .ok (.iadd, 1) := by decide +kernel
theorem d_329_1252 : decode (mC 329) 1252 = .ok (.iaload, 1) := by decide +kernel
theorem d_329_1253 : decode (mC 329) 1253 = .ok (.invokevirtual 197, 3) := by decide +kernel
theorem mo_310 : MOK 310 := ⟨List.mem_of_getElem? (i := 1958) (by decide +kernel), by decide +kernel, ⟨by decide +kernel, by decide +kernel⟩, List.mem_of_getElem? (i := 100) (by decide +kernel), by decide +kernel⟩
theorem m0_310 : M0K 310 := ⟨by decide +kernel, by decide +kernel⟩
theorem vk_329_197 : VK 329 197 310 1 12 := ⟨⟨List.mem_of_getElem? (i := 1955) (by decide +kernel), by decide +kernel⟩, List.mem_of_getElem? (i := 1956) (by decide +kernel), mo_310, m0_310, _, rfl, List.mem_of_getElem? (i := 1957) (by decide +kernel), by decide⟩
theorem d_329_1256 : decode (mC 329) 1256 = .ok (.if_icmp .eq 337, 3) := by decide +kernel
theorem d_329_1259 : decode (mC 329) 1259 = .ok (.iconst 0, 1) := by decide +kernel
theorem d_329_1260 : decode (mC 329) 1260 = .ok (.ireturn, 1) := by decide +kernel
theorem d_329_1261 : decode (mC 329) 1261 = .ok (.aload_n 1, 1) := by decide +kernel
theorem d_329_1262 : decode (mC 329) 1262 = .ok (.aload_n 0, 1) := by decide +kernel
theorem d_329_1263 : decode (mC 329) 1263 = .ok (.iload_n 3, 1) := by decide +kernel
theorem d_329_1264 : decode (mC 329) 1264 = .ok (.iconst 1, 1) := by decide +kernel
theorem d_329_1265 : decode (mC 329) 1265 = .ok (.iadd, 1) := by decide +kernel
theorem d_329_1266 : decode (mC 329) 1266 = .ok (.iaload, 1) := by decide +kernel
theorem d_329_1267 : decode (mC 329) 1267 = .ok (.aload_n 0, 1) := by decide +kernel
theorem d_329_1268 : decode (mC 329) 1268 = .ok (.iload_n 3, 1) := by decide +kernel
theorem d_329_1269 : decode (mC 329) 1269 = .ok (.iconst 2, 1) := by decide +kernel
theorem d_329_1270 : decode (mC 329) 1270 = .ok (.iadd, 1) := by decide +kernel
theorem d_329_1271 : decode (mC 329) 1271 = .ok (.iaload, 1) := by decide +kernel
theorem d_329_1272 : decode (mC 329) 1272 = .ok (.invokevirtual 198, 3) := by decide +kernel
theorem mo_177 : MOK 177 := ⟨List.mem_of_getElem? (i := 1197) (by decide +kernel), by decide +kernel, ⟨by decide +kernel, by decide +kernel⟩, List.mem_of_getElem? (i := 88) (by decide +kernel), by decide +kernel⟩
theorem m0_177 : M0K 177 := ⟨by decide +kernel, by decide +kernel⟩
theorem vk_329_198 : VK 329 198 177 2 11 := ⟨⟨List.mem_of_getElem? (i := 1194) (by decide +kernel), by decide +kernel⟩, List.mem_of_getElem? (i := 1195) (by decide +kernel), mo_177, m0_177, _, rfl, List.mem_of_getElem? (i := 1196) (by decide +kernel), by decide⟩
theorem d_329_1275 : decode (mC 329) 1275 = .ok (.aload_n 2, 1) := by decide +kernel
theorem d_329_1276 : decode (mC 329) 1276 = .ok (.aload_n 0, 1) := by decide +kernel
theorem d_329_1277 : decode (mC 329) 1277 = .ok (.iload_n 3, 1) := by decide +kernel
theorem d_329_1278 : decode (mC 329) 1278 = .ok (.iconst 1, 1) := by decide +kernel
theorem d_329_1279 : decode (mC 329) 1279 = .ok (.iadd, 1) := by decide +kernel
theorem d_329_1280 : decode (mC 329) 1280 = .ok (.iaload, 1) := by decide +kernel
theorem d_329_1281 : decode (mC 329) 1281 = .ok (.aload_n 0, 1) := by decide +kernel
theorem d_329_1282 : decode (mC 329) 1282 = .ok (.iload_n 3, 1) := by decide +kernel
theorem d_329_1283 : decode (mC 329) 1283 = .ok (.iconst 2, 1) := by decide +kernel
theorem d_329_1284 : decode (mC 329) 1284 = .ok (.iadd, 1) := by decide +kernel
theorem d_329_1285 : decode (mC 329) 1285 = .ok (.iaload, 1) := by decide +kernel
theorem d_329_1286 : decode (mC 329) 1286 = .ok (.invokevirtual 201, 3) := by decide +kernel
theorem mo_311 : MOK 311 := ⟨List.mem_of_getElem? (i := 1962) (by decide +kernel), by decide +kernel, ⟨by decide +kernel, by decide +kernel⟩, List.mem_of_getElem? (i := 100) (by decide +kernel), by decide +kernel⟩
theorem m0_311 : M0K 311 := ⟨by decide +kernel, by decide +kernel⟩
theorem vk_329_201 : VK 329 201 311 2 12 := ⟨⟨List.mem_of_getElem? (i := 1959) (by decide +kernel), by decide +kernel⟩, List.mem_of_getElem? (i := 1960) (by decide +kernel), mo_311, m0_311, _, rfl, List.mem_of_getElem? (i := 1961) (by decide +kernel), by decide⟩
theorem d_329_1289 : decode (mC 329) 1289 = .ok (.if_icmp .eq 304, 3) := by decide +kernel
theorem d_329_1292 : decode (mC 329) 1292 = .ok (.iconst 0, 1) := by decide +kernel
theorem d_329_1293 : decode (mC 329) 1293 = .ok (.ireturn, 1) := by decide +kernel
theorem d_329_1294 : decode (mC 329) 1294 = .ok (.aload_n 1, 1) := by decide +kernel
theorem d_329_1295 : decode (mC 329) 1295 = .ok (.aload_n 0, 1) := by decide +kernel
theorem d_329_1296 : decode (mC 329) 1296 = .ok (.iload_n 3, 1) := by decide +kernel
theorem d_329_1297 : decode (mC 329) 1297 = .ok (.iconst 1, 1) := by decide +kernel
theorem d_329_1298 : decode (mC 329) 1298 = .ok (.iadd, 1) := by decide +kernel
theorem d_329_1299 : decode (mC 329) 1299 = .ok (.iaload, 1) := by decide +kernel
theorem d_329_1300 : decode (mC 329) 1300 = .ok (.invokevirtual 202, 3) := by decide +kernel
theorem mo_179 : MOK 179 := ⟨List.mem_of_getElem? (i := 1204) (by decide +kernel), by decide +kernel, ⟨by decide +kernel, by decide +kernel⟩, List.mem_of_getElem? (i := 88) (by decide +kernel), by decide +kernel⟩
theorem m0_179 : M0K 179 := ⟨by decide +kernel, by decide +kernel⟩
theorem vk_329_202 : VK 329 202 179 1 11 := ⟨⟨List.mem_of_getElem? (i := 1201) (by decide +kernel), by decide +kernel⟩, List.mem_of_getElem? (i := 1202) (by decide +kernel), mo_179, m0_179, _, rfl, List.mem_of_getElem? (i := 1203) (by decide +kernel), by decide⟩
theorem d_329_1303 : decode (mC 329) 1303 = .ok (.aload_n 2, 1) := by decide +kernel
theorem d_329_1304 : decode (mC 329) 1304 = .ok (.aload_n 0, 1) := by decide +kernel
theorem d_329_1305 : decode (mC 329) 1305 = .ok (.iload_n 3, 1) := by decide +kernel
theorem d_329_1306 : decode (mC 329) 1306 = .ok (.iconst 1, 1) := by decide +kernel
theorem d_329_1307 : decode (mC 329) 1307 = .ok (.iadd, 1) := by decide +kernel
theorem d_329_1308 : decode (mC 329) 1308 = .ok (.iaload, 1) := by decide +kernel
theorem d_329_1309 : decode (mC 329) 1309 = .ok (.invokevirtual 205, 3) := by decide +kernel
theorem mo_314 : MOK 314 := ⟨List.mem_of_getElem? (i := 1972) (by decide +kernel), by decide +kernel, ⟨by decide +kernel, by decide +kernel⟩, List.mem_of_getElem? (i := 100) (by decide +kernel), by decide +kernel⟩
theorem m0_314 : M0K 314 := ⟨by decide +kernel, by decide +kernel⟩
theorem vk_329_205 : VK 329 205 314 1 12 := ⟨⟨List.mem_of_getElem? (i := 1969) (by decide +kernel), by decide +kernel⟩, List.mem_of_getElem? (i := 1970) (by decide +kernel), mo_314, m0_314, _, rfl, List.mem_of_getElem? (i := 1971) (by decide +kernel), by decide⟩
theorem d_329_1312 : decode (mC 329) 1312 = .ok (.if_icmp .eq 281, 3) := by decide +kernel
theorem d_329_1315 : decode (mC 329) 1315 = .ok (.iconst 0, 1) := by decide +kernel
theorem d_329_1316 : decode (mC 329) 1316 = .ok (.ireturn, 1) := by decide +kernel
theorem d_329_1317 : decode (mC 329) 1317 = .ok (.aload_n 1, 1) := by decide +kernel
theorem d_329_1318 : decode (mC 329) 1318 = .ok (.aload_n 0, 1) := by decide +kernel
theorem d_329_1319 : decode (mC 329) 1319 = .ok (.iload_n 3, 1) := by decide +kernel
theorem d_329_1320 : decode (mC 329) 1320 = .ok (.iconst 1, 1) := by decide +kernel
theorem d_329_1321 : decode (mC 329) 1321 = .ok (.iadd, 1) := by decide +kernel
theorem d_329_1322 : decode (mC 329) 1322 = .ok (.iaload, 1) := by decide +kernel
theorem d_329_1323 : decode (mC 329) 1323 = .ok (.aload_n 0, 1) := by decide +kernel
theorem d_329_1324 : decode (mC 329) 1324 = .ok (.iload_n 3, 1) := by decide +kernel
theorem d_329_1325 : decode (mC 329) 1325 = .ok (.iconst 2, 1) := by decide +kernel
theorem d_329_1326 : decode (mC 329) 1326 = .ok (.iadd, 1) := by decide +kernel
theorem d_329_1327 : decode (mC 329) 1327 = .ok (.iaload, 1) := by decide +kernel
theorem d_329_1328 : decode (mC 329) 1328 = .ok (.ifCond .eq 7, 3) := by decide +kernel
theorem d_329_1335 : decode (mC 329) 1335 = .ok (.iconst 0, 1) := by decide +kernel
theorem d_329_1331 : decode (mC 329) 1331 = .ok (.iconst 1, 1) := by decide +kernel
theorem d_329_1332 : decode (mC 329) 1332 = .ok (.goto 4, 3) := by decide +kernel
theorem d_329_1366 : decode (mC 329) 1366 = .ok (.aload_n 1, 1) := by decide +kernel
theorem d_329_1367 : decode (mC 329) 1367 = .ok (.aload_n 0, 1) := by decide +kernel
theorem d_329_1368 : decode (mC 329) 1368 = .ok (.iload_n 3, 1) := by decide +kernel
theorem d_329_1369 : decode (mC 329) 1369 = .ok (.iconst 1, 1) := by decide +kernel
theorem d_329_1370 : decode (mC 329) 1370 = .ok (.iadd, 1) := by decide +kernel
theorem d_329_1371 : decode (mC 329) 1371 = .ok (.iaload, 1) := by decide +kernel
theorem d_329_1372 : decode (mC 329) 1372 = .ok (.invokevirtual 211, 3) := by decide +kernel
theorem mo_182 : MOK 182 := ⟨List.mem_of_getElem? (i := 1216) (by decide +kernel), by decide +kernel, ⟨by decide +kernel, by decide +kernel⟩, List.mem_of_getElem? (i := 88) (by decide +kernel), by decide +kernel⟩
theorem m0_182 : M0K 182 := ⟨by decide +kernel, by decide +kernel⟩
theorem vk_329_211 : VK 329 211 182 1 11 := ⟨⟨List.mem_of_getElem? (i := 1213) (by decide +kernel), by decide +kernel⟩, List.mem_of_getElem? (i := 1214) (by decide +kernel), mo_182, m0_182, _, rfl, List.mem_of_getElem? (i := 1215) (by decide +kernel), by decide⟩
theorem d_329_1375 : decode (mC 329) 1375 = .ok (.aload_n 2, 1) := by decide +kernel
theorem d_329_1376 : decode (mC 329) 1376 = .ok (.aload_n 0, 1) := by decide +kernel
theorem d_329_1377 : decode (mC 329) 1377 = .ok (.iload_n 3, 1) := by decide +kernel
theorem d_329_1378 : decode (mC 329) 1378 = .ok (.iconst 1, 1) := by decide +kernel
theorem d_329_1379 : decode (mC 329) 1379 = .ok (.iadd, 1) := by decide +kernel
theorem d_329_1380 : decode (mC 329) 1380 = .ok (.iaload, 1) := by decide +kernel
theorem d_329_1381 : decode (mC 329) 1381 = .ok (.invokevirtual 215, 3) := by decide +kernel
theorem mo_316 : MOK 316 := ⟨List.mem_of_getElem? (i := 1980) (by decide +kernel), by decide +kernel, ⟨by decide +kernel, by decide +kernel⟩, List.mem_of_getElem? (i := 100) (by decide +kernel), by decide +kernel⟩
theorem m0_316 : M0K 316 := ⟨by decide +kernel, by decide +kernel⟩
theorem vk_329_215 : VK 329 215 316 1 12 := ⟨⟨List.mem_of_getElem? (i := 1977) (by decide +kernel), by decide +kernel⟩, List.mem_of_getElem? (i := 1978) (by decide +kernel), mo_316, m0_316, _, rfl, List.mem_of_getElem? (i := 1979) (by decide +kernel), by decide⟩
theorem d_329_1384 : decode (mC 329) 1384 = .ok (.if_icmp .eq 209, 3) := by decide +kernel
theorem d_329_1387 : decode (mC 329) 1387 = .ok (.iconst 0, 1) := by decide +kernel
theorem d_329_1388 : decode (mC 329) 1388 = .ok (.ireturn, 1) := by decide +kernel
theorem d_329_1389 : decode (mC 329) 1389 = .ok (.aload_n 1, 1) := by decide +kernel
theorem d_329_1390 : decode (mC 329) 1390 = .ok (.aload_n 0, 1) := by decide +kernel
theorem d_329_1391 : decode (mC 329) 1391 = .ok (.iload_n 3, 1) := by decide +kernel
theorem d_329_1392 : decode (mC 329) 1392 = .ok (.iconst 1, 1) := by decide +kernel
theorem d_329_1393 : decode (mC 329) 1393 = .ok (.iadd, 1) := by decide +kernel
theorem d_329_1394 : decode (mC 329) 1394 = .ok (.iaload, 1) := by decide +kernel
theorem d_329_1395 : decode (mC 329) 1395 = .ok (.invokevirtual 216, 3) := by decide +kernel
theorem mo_184 : MOK 184 := ⟨List.mem_of_getElem? (i := 1224) (by decide +kernel), by decide +kernel, ⟨by decide +kernel, by decide +kernel⟩, List.mem_of_getElem? (i := 88) (by decide +kernel), by decide +kernel⟩
theorem m0_184 : M0K 184 := ⟨by decide +kernel, by decide +kernel⟩
theorem vk_329_216 : VK 329 216 184 1 11 := ⟨⟨List.mem_of_getElem? (i := 1221) (by decide +kernel), by decide +kernel⟩, List.mem_of_getElem? (i := 1222) (by decide +kernel), mo_184, m0_184, _, rfl, List.mem_of_getElem? (i := 1223) (by decide +kernel), by decide⟩
theorem d_329_1398 : decode (mC 329) 1398 = .ok (.aload_n 2, 1) := by decide +kernel
theorem d_329_1399 : decode (mC 329) 1399 = .ok (.aload_n 0, 1) := by decide +kernel
theorem d_329_1400 : decode (mC 329) 1400 = .ok (.iload_n 3, 1) := by decide +kernel
theorem d_329_1401 : decode (mC 329) 1401 = .ok (.iconst 1, 1) := by decide +kernel
theorem d_329_1402 : decode (mC 329) 1402 = .ok (.iadd, 1) := by decide +kernel
theorem d_329_1403 : decode (mC 329) 1403 = .ok (.iaload, 1) := by decide +kernel
theorem d_329_1404 : decode (mC 329) 1404 = .ok (.invokevirtual 219, 3) := by decide +kernel
theorem mo_317 : MOK 317 := ⟨List.mem_of_getElem? (i := 1984) (by decide +kernel), by decide +kernel, ⟨by decide +kernel, by decide +kernel⟩, List.mem_of_getElem? (i := 100) (by decide +kernel), by decide +kernel⟩
theorem m0_317 : M0K 317 := ⟨by decide +kernel, by decide +kernel⟩
theorem vk_329_219 : VK 329 219 317 1 12 := ⟨⟨List.mem_of_getElem? (i := 1981) (by decide +kernel), by decide +kernel⟩, List.mem_of_getElem? (i := 1982) (by decide +kernel), mo_317, m0_317, _, rfl, List.mem_of_getElem? (i := 1983) (by decide +kernel), by decide⟩
theorem d_329_1407 : decode (mC 329) 1407 = .ok (.if_icmp .eq 186, 3) := by decide +kernel
theorem d_329_1410 : decode (mC 329) 1410 = .ok (.iconst 0, 1) := by decide +kernel
theorem d_329_1411 : decode (mC 329) 1411 = .ok (.ireturn, 1) := by decide +kernel
theorem d_329_1412 : decode (mC 329) 1412 = .ok (.aload_n 1, 1) := by decide +kernel
theorem d_329_1413 : decode (mC 329) 1413 = .ok (.aload_n 0, 1) := by decide +kernel
theorem d_329_1414 : decode (mC 329) 1414 = .ok (.iload_n 3, 1) := by decide +kernel
theorem d_329_1415 : decode (mC 329) 1415 = .ok (.iconst 1, 1) := by decide +kernel
theorem d_329_1416 : decode (mC 329) 1416 = .ok (.iadd, 1) := by decide +kernel
theorem d_329_1417 : decode (mC 329) 1417 = .ok (.iaload, 1) := by decide +kernel
theorem d_329_1418 : decode (mC 329) 1418 = .ok (.invokevirtual 220, 3) := by decide +kernel
theorem mo_186 : MOK 186 := ⟨List.mem_of_getElem? (i := 1233) (by decide +kernel), by decide +kernel, ⟨by decide +kernel, by decide +kernel⟩, List.mem_of_getElem? (i := 88) (by decide +kernel), by decide +kernel⟩
theorem m0_186 : M0K 186 := ⟨by decide +kernel, by decide +kernel⟩
theorem vk_329_220 : VK 329 220 186 1 11 := ⟨⟨List.mem_of_getElem? (i := 1230) (by decide +kernel), by decide +kernel⟩, List.mem_of_getElem? (i := 1231) (by decide +kernel), mo_186, m0_186, _, rfl, List.mem_of_getElem? (i := 1232) (by decide +kernel), by decide⟩
theorem d_329_1421 : decode (mC 329) 1421 = .ok (.aload_n 2, 1) := by decide +kernel
theorem d_329_1422 : decode (mC 329) 1422 = .ok (.aload_n 0, 1) := by decide +kernel
theorem d_329_1423 : decode (mC 329) 1423 = .ok (.iload_n 3, 1) := by decide +kernel
theorem d_329_1424 : decode (mC 329) 1424 = .ok (.iconst 1, 1) := by decide +kernel
theorem d_329_1425 : decode (mC 329) 1425 = .ok (.iadd, 1) := by decide +kernel
theorem d_329_1426 : decode (mC 329) 1426 = .ok (.iaload, 1) := by decide +kernel
theorem d_329_1427 : decode (mC 329) 1427 = .ok (.invokevirtual 223, 3) := by decide +kernel
theorem vk_329_223 : VK 329 223 318 1 12 := ⟨⟨List.mem_of_getElem? (i := 1986) (by decide +kernel), by decide +kernel⟩, List.mem_of_getElem? (i := 1987) (by decide +kernel), mo_318, m0_318, _, rfl, List.mem_of_getElem? (i := 1988) (by decide +kernel), by decide⟩
theorem d_329_1430 : decode (mC 329) 1430 = .ok (.if_icmp .eq 163, 3) := by decide +kernel
theorem d_329_1433 : decode (mC 329) 1433 = .ok (.iconst 0, 1) := by decide +kernel
theorem d_329_1434 : decode (mC 329) 1434 = .ok (.ireturn, 1) := by decide +kernel
theorem d_329_1435 : decode (mC 329) 1435 = .ok (.aload_n 1, 1) := by decide +kernel
theorem d_329_1436 : decode (mC 329) 1436 = .ok (.aload_n 0, 1) := by decide +kernel
theorem d_329_1437 : decode (mC 329) 1437 = .ok (.iload_n 3, 1) := by decide +kernel
theorem d_329_1438 : decode (mC 329) 1438 = .ok (.iconst 1, 1) := by decide +kernel
theorem d_329_1439 : decode (mC 329) 1439 = .ok (.iadd, 1) := by decide +kernel
theorem d_329_1440 : decode (mC 329) 1440 = .ok (.iaload, 1) := by decide +kernel
theorem d_329_1441 : decode (mC 329) 1441 = .ok (.invokevirtual 224, 3) := by decide +kernel
theorem mo_190 : MOK 190 := ⟨List.mem_of_getElem? (i := 1250) (by decide +kernel), by decide +kernel, ⟨by decide +kernel, by decide +kernel⟩, List.mem_of_getElem? (i := 88) (by decide +kernel), by decide +kernel⟩
theorem m0_190 : M0K 190 := ⟨by decide +kernel, by decide +kernel⟩
theorem vk_329_224 : VK 329 224 190 1 11 := ⟨⟨List.mem_of_getElem? (i := 1247) (by decide +kernel), by decide +kernel⟩, List.mem_of_getElem? (i := 1248) (by decide +kernel), mo_190, m0_190, _, rfl, List.mem_of_getElem? (i := 1249) (by decide +kernel), by decide⟩
theorem d_329_1444 : decode (mC 329) 1444 = .ok (.aload_n 2, 1) := by decide +kernel
theorem d_329_1445 : decode (mC 329) 1445 = .ok (.aload_n 0, 1) := by decide +kernel
theorem d_329_1446 : decode (mC 329) 1446 = .ok (.iload_n 3, 1) := by decide +kernel
theorem d_329_1447 : decode (mC 329) 1447 = .ok (.iconst 1, 1) := by decide +kernel
theorem d_329_1448 : decode (mC 329) 1448 = .ok (.iadd, 1) := by decide +kernel
theorem d_329_1449 : decode (mC 329) 1449 = .ok (.iaload, 1) := by decide +kernel
theorem d_329_1450 : decode (mC 329) 1450 = .ok (.invokevirtual 227, 3) := by decide +kernel
theorem mo_320 : MOK 320 := ⟨List.mem_of_getElem? (i := 1997) (by decide +kernel), by decide +kernel, ⟨by decide +kernel, by decide +kernel⟩, List.mem_of_getElem? (i := 100) (by decide +kernel), by decide +kernel⟩
theorem m0_320 : M0K 320 := ⟨by decide +kernel, by decide +kernel⟩
theorem vk_329_227 : VK 329 227 320 1 12 := ⟨⟨List.mem_of_getElem? (i := 1994) (by decide +kernel), by decide +kernel⟩, List.mem_of_getElem? (i := 1995) (by decide +kernel), mo_320, m0_320, _, rfl, List.mem_of_getElem? (i := 1996) (by decide +kernel), by decide⟩
theorem d_329_1453 : decode (mC 329) 1453 = .ok (.if_icmp .eq 140, 3) := by decide +kernel
theorem d_329_1456 : decode (mC 329) 1456 = .ok (.iconst 0, 1) := by decide +kernel
theorem d_329_1457 : decode (mC 329) 1457 = .ok (.ireturn, 1) := by decide +kernel
theorem d_329_1458 : decode (mC 329) 1458 = .ok (.aload_n 1, 1) := by decide +kernel
theorem d_329_1459 : decode (mC 329) 1459 = .ok (.aload_n 0, 1) := by decide +kernel
theorem d_329_1460 : decode (mC 329) 1460 = .ok (.iload_n 3, 1) := by decide +kernel
theorem d_329_1461 : decode (mC 329) 1461 = .ok (.iconst 1, 1) := by decide +kernel
theorem d_329_1462 : decode (mC 329) 1462 = .ok (.iadd, 1) := by decide +kernel
theorem d_329_1463 : decode (mC 329) 1463 = .ok (.iaload, 1) := by decide +kernel
theorem d_329_1464 : decode (mC 329) 1464 = .ok (.aload_n 0, 1) := by decide +kernel
theorem d_329_1465 : decode (mC 329) 1465 = .ok (.iload_n 3, 1) := by decide +kernel
theorem d_329_1466 : decode (mC 329) 1466 = .ok (.iconst 2, 1) := by decide +kernel
theorem d_329_1467 : decode (mC 329) 1467 = .ok (.iadd, 1) := by decide +kernel
theorem d_329_1468 : decode (mC 329) 1468 = .ok (.iaload, 1) := by decide +kernel
theorem d_329_1469 : decode (mC 329) 1469 = .ok (.invokevirtual 228, 3) := by decide +kernel
theorem mo_192 : MOK 192 := ⟨List.mem_of_getElem? (i := 1258) (by decide +kernel), by decide +kernel, ⟨by decide +kernel, by decide +kernel⟩, List.mem_of_getElem? (i := 88) (by decide +kernel), by decide +kernel⟩
theorem m0_192 : M0K 192 := ⟨by decide +kernel, by decide +kernel⟩
theorem vk_329_228 : VK 329 228 192 2 11 := ⟨⟨List.mem_of_getElem? (i := 1255) (by decide +kernel), by decide +kernel⟩, List.mem_of_getElem? (i := 1256) (by decide +kernel), mo_192, m0_192, _, rfl, List.mem_of_getElem? (i := 1257) (by decide +kernel), by decide⟩
theorem d_329_1472 : decode (mC 329) 1472 = .ok (.aload_n 2, 1) := by decide +kernel
theorem d_329_1473 : decode (mC 329) 1473 = .ok (.aload_n 0, 1) := by decide +kernel
theorem d_329_1474 : decode (mC 329) 1474 = .ok (.iload_n 3, 1) := by decide +kernel
theorem d_329_1475 : decode (mC 329) 1475 = .ok (.iconst 1, 1) := by decide +kernel
theorem d_329_1476 : decode (mC 329) 1476 = .ok (.iadd, 1) := by decide +kernel
theorem d_329_1477 : decode (mC 329) 1477 = .ok (.iaload, 1) := by decide +kernel
theorem d_329_1478 : decode (mC 329) 1478 = .ok (.aload_n 0, 1) := by decide +kernel
theorem d_329_1479 : decode (mC 329) 1479 = .ok (.iload_n 3, 1) := by decide +kernel
theorem d_329_1480 : decode (mC 329) 1480 = .ok (.iconst 2, 1) := by decide +kernel
theorem d_329_1481 : decode (mC 329) 1481 = .ok (.iadd, 1) := by decide +kernel
theorem d_329_1482 : decode (mC 329) 1482 = .ok (.iaload, 1) := by decide +kernel
theorem d_329_1483 : decode (mC 329) 1483 = .ok (.invokevirtual 231, 3) := by decide +kernel
theorem mo_321 : MOK 321 := ⟨List.mem_of_getElem? (i := 2001) (by decide +kernel), by decide +kernel, ⟨by decide +kernel, by decide +kernel⟩, List.mem_of_getElem? (i := 100) (by decide +kernel), by decide +kernel⟩
theorem m0_321 : M0K 321 := ⟨by decide +kernel, by decide +kernel⟩
theorem vk_329_231 : VK 329 231 321 2 12 := ⟨⟨List.mem_of_getElem? (i := 1998) (by decide +kernel), by decide +kernel⟩, List.mem_of_getElem? (i := 1999) (by decide +kernel), mo_321, m0_321, _, rfl, List.mem_of_getElem? (i := 2000) (by decide +kernel), by decide⟩
theorem d_329_1486 : decode (mC 329) 1486 = .ok (.if_icmp .eq 107, 3) := by decide +kernel
theorem d_329_1489 : decode (mC 329) 1489 = .ok (.iconst 0, 1) := by decide +kernel
theorem d_329_1490 : decode (mC 329) 1490 = .ok (.ireturn, 1) := by decide +kernel
theorem d_329_1491 : decode (mC 329) 1491 = .ok (.aload_n 1, 1) := by decide +kernel
theorem d_329_1492 : decode (mC 329) 1492 = .ok (.aload_n 0, 1) := by decide +kernel
theorem d_329_1493 : decode (mC 329) 1493 = .ok (.iload_n 3, 1) := by decide +kernel
theorem d_329_1494 : decode (mC 329) 1494 = .ok (.iconst 1, 1) := by decide +kernel
theorem d_329_1495 : decode (mC 329) 1495 = .ok (.iadd, 1) := by decide +kernel
theorem d_329_1496 : decode (mC 329) 1496 = .ok (.iaload, 1) := by decide +kernel
theorem d_329_1497 : decode (mC 329) 1497 = .ok (.aload_n 0, 1) := by decide +kernel
theorem d_329_1498 : decode (mC 329) 1498 = .ok (.iload_n 3, 1) := by decide +kernel
theorem d_329_1499 : decode (mC 329) 1499 = .ok (.iconst 2, 1) := by decide +kernel
theorem d_329_1500 : decode (mC 329) 1500 = .ok (.iadd, 1) := by decide +kernel
theorem d_329_1501 : decode (mC 329) 1501 = .ok (.iaload, 1) := by decide +kernel
theorem d_329_1502 : decode (mC 329) 1502 = .ok (.invokevirtual 232, 3) := by decide +kernel
theorem mo_194 : MOK 194 := ⟨List.mem_of_getElem? (i := 1267) (by decide +kernel), by decide +kernel, ⟨by decide +kernel, by decide +kernel⟩, List.mem_of_getElem? (i := 88) (by decide +kernel), by decide +kernel⟩
theorem m0_194 : M0K 194 := ⟨by decide +kernel, by decide +kernel⟩
theorem vk_329_232 : VK 329 232 194 2 11 := ⟨⟨List.mem_of_getElem? (i := 1264) (by decide +kernel), by decide +kernel⟩, List.mem_of_getElem? (i := 1265) (by decide +kernel), mo_194, m0_194, _, rfl, List.mem_of_getElem? (i := 1266) (by decide +kernel), by decide⟩
theorem d_329_1505 : decode (mC 329) 1505 = .ok (.aload_n 2, 1) := by decide +kernel
theorem d_329_1506 : decode (mC 329) 1506 = .ok (.aload_n 0, 1) := by decide +kernel
theorem d_329_1507 : decode (mC 329) 1507 = .ok (.iload_n 3, 1) := by decide +kernel
theorem d_329_1508 : decode (mC 329) 1508 = .ok (.iconst 1, 1) := by decide +kernel
theorem d_329_1509 : decode (mC 329) 1509 = .ok (.iadd, 1) := by decide +kernel
theorem d_329_1510 : decode (mC 329) 1510 = .ok (.iaload, 1) := by decide +kernel
theorem d_329_1511 : decode (mC 329) 1511 = .ok (.aload_n 0, 1) := by decide +kernel
theorem d_329_1512 : decode (mC 329) 1512 = .ok (.iload_n 3, 1) := by decide +kernel
theorem d_329_1513 : decode (mC 329) 1513 = .ok (.iconst 2, 1) := by decide +kernel
theorem d_329_1514 : decode (mC 329) 1514 = .ok (.iadd, 1) := by decide +kernel
theorem d_329_1515 : decode (mC 329) 1515 = .ok (.iaload, 1) := by decide +kernel
theorem d_329_1516 : decode (mC 329) 1516 = .ok (.invokevirtual 235, 3) := by decide +kernel
theorem mo_322 : MOK 322 := ⟨List.mem_of_getElem? (i := 2006) (by decide +kernel), by decide +kernel, ⟨by decide +kernel, by decide +kernel⟩, List.mem_of_getElem? (i := 100) (by decide +kernel), by decide +kernel⟩
theorem m0_322 : M0K 322 := ⟨by decide +kernel, by decide +kernel⟩
theorem vk_329_235 : VK 329 235 322 2 12 := ⟨⟨List.mem_of_getElem? (i := 2003) (by decide +kernel), by decide +kernel⟩, List.mem_of_getElem? (i := 2004) (by decide +kernel), mo_322, m0_322, _, rfl, List.mem_of_getElem? (i := 2005) (by decide +kernel), by decide⟩
theorem d_329_1519 : decode (mC 329) 1519 = .ok (.if_icmp .eq 74, 3) := by decide +kernel
theorem d_329_1522 : decode (mC 329) 1522 = .ok (.iconst 0, 1) := by decide +kernel
theorem d_329_1523 : decode (mC 329) 1523 = .ok (.ireturn, 1) := by decide +kernel
theorem d_329_1524 : decode (mC 329) 1524 = .ok (.aload_n 1, 1) := by decide +kernel
theorem d_329_1525 : decode (mC 329) 1525 = .ok (.aload_n 0, 1) := by decide +kernel
theorem d_329_1526 : decode (mC 329) 1526 = .ok (.iload_n 3, 1) := by decide +kernel
theorem d_329_1527 : decode (mC 329) 1527 = .ok (.iconst 1, 1) := by decide +kernel
theorem d_329_1528 : decode (mC 329) 1528 = .ok (.iadd, 1) := by decide +kernel
theorem d_329_1529 : decode (mC 329) 1529 = .ok (.iaload, 1) := by decide +kernel
theorem d_329_1530 : decode (mC 329) 1530 = .ok (.invokevirtual 236, 3) := by decide +kernel
theorem mo_196 : MOK 196 := ⟨List.mem_of_getElem? (i := 1276) (by decide +kernel), by decide +kernel, ⟨by decide +kernel, by decide +kernel⟩, List.mem_of_getElem? (i := 88) (by decide +kernel), by decide +kernel⟩
theorem m0_196 : M0K 196 := ⟨by decide +kernel, by decide +kernel⟩
theorem vk_329_236 : VK 329 236 196 1 11 := ⟨⟨List.mem_of_getElem? (i := 1273) (by decide +kernel), by decide +kernel⟩, List.mem_of_getElem? (i := 1274) (by decide +kernel), mo_196, m0_196, _, rfl, List.mem_of_getElem? (i := 1275) (by decide +kernel), by decide⟩
theorem d_329_1533 : decode (mC 329) 1533 = .ok (.aload_n 2, 1) := by decide +kernel
theorem d_329_1534 : decode (mC 329) 1534 = .ok (.aload_n 0, 1) := by decide +kernel
theorem d_329_1535 : decode (mC 329) 1535 = .ok (.iload_n 3, 1) := by decide +kernel
theorem d_329_1536 : decode (mC 329) 1536 = .ok (.iconst 1, 1) := by decide +kernel
theorem d_329_1537 : decode (mC 329) 1537 = .ok (.iadd, 1) := by decide +kernel
theorem d_329_1538 : decode (mC 329) 1538 = .ok (.iaload, 1) := by decide +kernel
theorem d_329_1539 : decode (mC 329) 1539 = .ok (.invokevirtual 239, 3) := by decide +kernel
theorem mo_325 : MOK 325 := ⟨List.mem_of_getElem? (i := 2017) (by decide +kernel), by decide +kernel, ⟨by decide +kernel, by decide +kernel⟩, List.mem_of_getElem? (i := 100) (by decide +kernel), by decide +kernel⟩
theorem m0_325 : M0K 325 := ⟨by decide +kernel, by decide +kernel⟩
theorem vk_329_239 : VK 329 239 325 1 12 := ⟨⟨List.mem_of_getElem? (i := 2014) (by decide +kernel), by decide +kernel⟩, List.mem_of_getElem? (i := 2015) (by decide +kernel), mo_325, m0_325, _, rfl, List.mem_of_getElem? (i := 2016) (by decide +kernel), by decide⟩
theorem d_329_1542 : decode (mC 329) 1542 = .ok (.if_icmp .eq 51, 3) := by decide +kernel
theorem d_329_1545 : decode (mC 329) 1545 = .ok (.iconst 0, 1) := by decide +kernel
theorem d_329_1546 : decode (mC 329) 1546 = .ok (.ireturn, 1) := by decide +kernel
theorem d_329_1547 : decode (mC 329) 1547 = .ok (.aload_n 1, 1) := by decide +kernel
theorem d_329_1548 : decode (mC 329) 1548 = .ok (.aload_n 0, 1) := by decide +kernel
theorem d_329_1549 : decode (mC 329) 1549 = .ok (.iload_n 3, 1) := by decide +kernel
theorem d_329_1550 : decode (mC 329) 1550 = .ok (.iconst 1, 1) := by decide +kernel
theorem d_329_1551 : decode (mC 329) 1551 = .ok (.iadd, 1) := by decide +kernel
theorem d_329_1552 : decode (mC 329) 1552 = .ok (.iaload, 1) := by decide +kernel
theorem d_329_1553 : decode (mC 329) 1553 = .ok (.invokevirtual 240, 3) := by decide +kernel
theorem mo_197 : MOK 197 := ⟨List.mem_of_getElem? (i := 1280) (by decide +kernel), by decide +kernel, ⟨by decide +kernel, by decide +kernel⟩, List.mem_of_getElem? (i := 88) (by decide +kernel), by decide +kernel⟩
theorem m0_197 : M0K 197 := ⟨by decide +kernel, by decide +kernel⟩
theorem vk_329_240 : VK 329 240 197 1 11 := ⟨⟨List.mem_of_getElem? (i := 1277) (by decide +kernel), by decide +kernel⟩, List.mem_of_getElem? (i := 1278) (by decide +kernel), mo_197, m0_197, _, rfl, List.mem_of_getElem? (i := 1279) (by decide +kernel), by decide⟩
theorem d_329_1556 : decode (mC 329) 1556 = .ok (.aload_n 2, 1) := by decide +kernel
theorem d_329_1557 : decode (mC 329) 1557 = .ok (.aload_n 0, 1) := by decide +kernel
theorem d_329_1558 : decode (mC 329) 1558 = .ok (.iload_n 3, 1) := by decide +kernel
theorem d_329_1559 : decode (mC 329) 1559 = .ok (.iconst 1, 1) := by decide +kernel
theorem d_329_1560 : decode (mC 329) 1560 = .ok (.iadd, 1) := by decide +kernel
theorem d_329_1561 : decode (mC 329) 1561 = .ok (.iaload, 1) := by decide +kernel
theorem d_329_1562 : decode (mC 329) 1562 = .ok (.invokevirtual 243, 3) := by decide +kernel
theorem mo_327 : MOK 327 := ⟨List.mem_of_getElem? (i := 2024) (by decide +kernel), by decide +kernel, ⟨by decide +kernel, by decide +kernel⟩, List.mem_of_getElem? (i := 100) (by decide +kernel), by decide +kernel⟩
theorem m0_327 : M0K 327 := ⟨by decide +kernel, by decide +kernel⟩
theorem vk_329_243 : VK 329 243 327 1 12 := ⟨⟨List.mem_of_getElem? (i := 2021) (by decide +kernel), by decide +kernel⟩, List.mem_of_getElem? (i := 2022) (by decide +kernel), mo_327, m0_327, _, rfl, List.mem_of_getElem? (i := 2023) (by decide +kernel), by decide⟩
theorem d_329_1565 : decode (mC 329) 1565 = .ok (.if_icmp .eq 28, 3) := by decide +kernel
theorem d_329_1568 : decode (mC 329) 1568 = .ok (.iconst 0, 1) := by decide +kernel
theorem d_329_1569 : decode (mC 329) 1569 = .ok (.ireturn, 1) := by decide +kernel
theorem d_329_1570 : decode (mC 329) 1570 = .ok (.aload_n 1, 1) := by decide +kernel
theorem d_329_1571 : decode (mC 329) 1571 = .ok (.aload_n 0, 1) := by decide +kernel
theorem d_329_1572 : decode (mC 329) 1572 = .ok (.iload_n 3, 1) := by decide +kernel
theorem d_329_1573 : decode (mC 329) 1573 = .ok (.iconst 1, 1) := by decide +kernel
theorem d_329_1574 : decode (mC 329) 1574 = .ok (.iadd, 1) := by decide +kernel
theorem d_329_1575 : decode (mC 329) 1575 = .ok (.iaload, 1) := by decide +kernel
theorem d_329_1576 : decode (mC 329) 1576 = .ok (.invokevirtual 244, 3) := by decide +kernel
theorem mo_198 : MOK 198 := ⟨List.mem_of_getElem? (i := 1284) (by decide +kernel), by decide +kernel, ⟨by decide +kernel, by decide +kernel⟩, List.mem_of_getElem? (i := 88) (by decide +kernel), by decide +kernel⟩
theorem m0_198 : M0K 198 := ⟨by decide +kernel, by decide +kernel⟩
theorem vk_329_244 : VK 329 244 198 1 11 := ⟨⟨List.mem_of_getElem? (i := 1281) (by decide +kernel), by decide +kernel⟩, List.mem_of_getElem? (i := 1282) (by decide +kernel), mo_198, m0_198, _, rfl, List.mem_of_getElem? (i := 1283) (by decide +kernel), by decide⟩
theorem d_329_1579 : decode (mC 329) 1579 = .ok (.aload_n 2, 1) := by decide +kernel
theorem d_329_1580 : decode (mC 329) 1580 = .ok (.aload_n 0, 1) := by decide +kernel
theorem d_329_1581 : decode (mC 329) 1581 = .ok (.iload_n 3, 1) := by decide +kernel
theorem d_329_1582 : decode (mC 329) 1582 = .ok (.iconst 1, 1) := by decide +kernel
theorem d_329_1583 : decode (mC 329) 1583 = .ok (.iadd, 1) := by decide +kernel
theorem d_329_1584 : decode (mC 329) 1584 = .ok (.iaload, 1) := by decide +kernel
theorem d_329_1585 : decode (mC 329) 1585 = .ok (.invokevirtual 247, 3) := by decide +kernel
theorem mo_328 : MOK 328 := ⟨List.mem_of_getElem? (i := 2028) (by decide +kernel), by decide +kernel, ⟨by decide +kernel, by decide +kernel⟩, List.mem_of_getElem? (i := 100) (by decide +kernel), by decide +kernel⟩
theorem m0_328 : M0K 328 := ⟨by decide +kernel, by decide +kernel⟩
theorem vk_329_247 : VK 329 247 328 1 12 := ⟨⟨List.mem_of_getElem? (i := 2025) (by decide +kernel), by decide +kernel⟩, List.mem_of_getElem? (i := 2026) (by decide +kernel), mo_328, m0_328, _, rfl, List.mem_of_getElem? (i := 2027) (by decide +kernel), by decide⟩
theorem d_329_1588 : decode (mC 329) 1588 = .ok (.if_icmp .eq 5, 3) := by decide +kernel
theorem d_329_1591 : decode (mC 329) 1591 = .ok (.iconst 0, 1) := by decide +kernel
theorem d_329_1592 : decode (mC 329) 1592 = .ok (.ireturn, 1) := by decide +kernel
