theorem dL_law__0 : decode cL_law_ 0 = .ok (.new 8, 3) := by decide +kernel
theorem dL_law__3 : decode cL_law_ 3 = .ok (.dup, 1) := by decide +kernel
theorem dL_law__4 : decode cL_law_ 4 = .ok (.invokespecial 113, 3) := by decide +kernel
theorem dL_law__7 : decode cL_law_ 7 = .ok (.astore_n 1, 1) := by decide +kernel
theorem dL_law__8 : decode cL_law_ 8 = .ok (.new 114, 3) := by decide +kernel
theorem dL_law__11 : decode cL_law_ 11 = .ok (.dup, 1) := by decide +kernel
theorem dL_law__12 : decode cL_law_ 12 = .ok (.invokespecial 116, 3) := by decide +kernel
theorem dL_law__15 : decode cL_law_ 15 = .ok (.astore_n 2, 1) := by decide +kernel
theorem dL_law__16 : decode cL_law_ 16 = .ok (.iconst 1, 1) := by decide +kernel
theorem dL_law__17 : decode cL_law_ 17 = .ok (.newarray .long, 2) := by decide +kernel
theorem dL_law__19 : decode cL_law_ 19 = .ok (.astore_n 3, 1) := by decide +kernel
theorem dL_law__20 : decode cL_law_ 20 = .ok (.iconst 0, 1) := by decide +kernel
theorem dL_law__21 : decode cL_law_ 21 = .ok (.istore 4, 2) := by decide +kernel
theorem dL_law__23 : decode cL_law_ 23 = .ok (.iload 4, 2) := by decide +kernel
theorem dL_law__25 : decode cL_law_ 25 = .ok (.aload_n 0, 1) := by decide +kernel
theorem dL_law__26 : decode cL_law_ 26 = .ok (.arraylength, 1) := by decide +kernel
theorem dL_law__27 : decode cL_law_ 27 = .ok (.bipush 6, 2) := by decide +kernel
theorem dL_law__29 : decode cL_law_ 29 = .ok (.isub, 1) := by decide +kernel
theorem dL_law__30 : decode cL_law_ 30 = .ok (.if_icmp .gt 2438, 3) := by decide +kernel
theorem dL_law__33 : decode cL_law_ 33 = .ok (.aload_n 0, 1) := by decide +kernel
theorem dL_law__34 : decode cL_law_ 34 = .ok (.iload 4, 2) := by decide +kernel
theorem dL_law__36 : decode cL_law_ 36 = .ok (.iaload, 1) := by decide +kernel
theorem dL_law__37 : decode cL_law_ 37 = .ok (.bipush 63, 2) := by decide +kernel
theorem dL_law__39 : decode cL_law_ 39 = .ok (.iand, 1) := by decide +kernel
theorem dL_law__40 : decode cL_law_ 40 = .ok (.tableswitch 2422 0 37 #[168, 241, 266, 310, 354, 367, 435, 491, 559, 615, 695, 775, 788, 801, 869, 937, 1021, 1077, 1152, 1232, 1292, 1317, 1373, 1453, 1521, 1589, 1669, 1765, 1821, 1901, 1969, 2025, 2117, 2197, 2293, 2373, 2384, 2397], 168) := by decide +kernel
theorem dL_law__208 : decode cL_law_ 208 = .ok (.aload_n 1, 1) := by decide +kernel
theorem dL_law__209 : decode cL_law_ 209 = .ok (.aload_n 0, 1) := by decide +kernel
theorem dL_law__210 : decode cL_law_ 210 = .ok (.iload 4, 2) := by decide +kernel
theorem dL_law__212 : decode cL_law_ 212 = .ok (.iconst 1, 1) := by decide +kernel
theorem dL_law__213 : decode cL_law_ 213 = .ok (.iadd, 1) := by decide +kernel
theorem dL_law__214 : decode cL_law_ 214 = .ok (.iaload, 1) := by decide +kernel
theorem dL_law__215 : decode cL_law_ 215 = .ok (.aload_n 0, 1) := by decide +kernel
theorem dL_law__216 : decode cL_law_ 216 = .ok (.iload 4, 2) := by decide +kernel
theorem dL_law__218 : decode cL_law_ 218 = .ok (.iconst 2, 1) := by decide +kernel
theorem dL_law__219 : decode cL_law_ 219 = .ok (.iadd, 1) := by decide +kernel
theorem dL_law__220 : decode cL_law_ 220 = .ok (.iaload, 1) := by decide +kernel
theorem dL_law__221 : decode cL_law_ 221 = .ok (.aload_n 0, 1) := by decide +kernel
theorem dL_law__222 : decode cL_law_ 222 = .ok (.iload 4, 2) := by decide +kernel
theorem dL_law__224 : decode cL_law_ 224 = .ok (.iconst 3, 1) := by decide +kernel
theorem dL_law__225 : decode cL_law_ 225 = .ok (.iadd, 1) := by decide +kernel
theorem dL_law__226 : decode cL_law_ 226 = .ok (.iaload, 1) := by decide +kernel
theorem dL_law__227 : decode cL_law_ 227 = .ok (.aload_n 0, 1) := by decide +kernel
theorem dL_law__228 : decode cL_law_ 228 = .ok (.iload 4, 2) := by decide +kernel
theorem dL_law__230 : decode cL_law_ 230 = .ok (.iconst 4, 1) := by decide +kernel
theorem dL_law__231 : decode cL_law_ 231 = .ok (.iadd, 1) := by decide +kernel
theorem dL_law__232 : decode cL_law_ 232 = .ok (.iaload, 1) := by decide +kernel
theorem dL_law__233 : decode cL_law_ 233 = .ok (.aload_n 0, 1) := by decide +kernel
theorem dL_law__234 : decode cL_law_ 234 = .ok (.iload 4, 2) := by decide +kernel
theorem dL_law__236 : decode cL_law_ 236 = .ok (.iconst 5, 1) := by decide +kernel
theorem dL_law__237 : decode cL_law_ 237 = .ok (.iadd, 1) := by decide +kernel
theorem dL_law__238 : decode cL_law_ 238 = .ok (.iaload, 1) := by decide +kernel
theorem dL_law__239 : decode cL_law_ 239 = .ok (.invokevirtual 117, 3) := by decide +kernel
theorem dL_law__242 : decode cL_law_ 242 = .ok (.aload_n 2, 1) := by decide +kernel
theorem dL_law__243 : decode cL_law_ 243 = .ok (.aload_n 0, 1) := by decide +kernel
theorem dL_law__244 : decode cL_law_ 244 = .ok (.iload 4, 2) := by decide +kernel
theorem dL_law__246 : decode cL_law_ 246 = .ok (.iconst 1, 1) := by decide +kernel
theorem dL_law__247 : decode cL_law_ 247 = .ok (.iadd, 1) := by decide +kernel
theorem dL_law__248 : decode cL_law_ 248 = .ok (.iaload, 1) := by decide +kernel
theorem dL_law__249 : decode cL_law_ 249 = .ok (.aload_n 0, 1) := by decide +kernel
theorem dL_law__250 : decode cL_law_ 250 = .ok (.iload 4, 2) := by decide +kernel
theorem dL_law__252 : decode cL_law_ 252 = .ok (.iconst 2, 1) := by decide +kernel
theorem dL_law__253 : decode cL_law_ 253 = .ok (.iadd, 1) := by decide +kernel
theorem dL_law__254 : decode cL_law_ 254 = .ok (.iaload, 1) := by decide +kernel
theorem dL_law__255 : decode cL_law_ 255 = .ok (.aload_n 0, 1) := by decide +kernel
theorem dL_law__256 : decode cL_law_ 256 = .ok (.iload 4, 2) := by decide +kernel
theorem dL_law__258 : decode cL_law_ 258 = .ok (.iconst 3, 1) := by decide +kernel
theorem dL_law__259 : decode cL_law_ 259 = .ok (.iadd, 1) := by decide +kernel
theorem dL_law__260 : decode cL_law_ 260 = .ok (.iaload, 1) := by decide +kernel
theorem dL_law__261 : decode cL_law_ 261 = .ok (.aload_n 0, 1) := by decide +kernel
theorem dL_law__262 : decode cL_law_ 262 = .ok (.iload 4, 2) := by decide +kernel
theorem dL_law__264 : decode cL_law_ 264 = .ok (.iconst 4, 1) := by decide +kernel
theorem dL_law__265 : decode cL_law_ 265 = .ok (.iadd, 1) := by decide +kernel
theorem dL_law__266 : decode cL_law_ 266 = .ok (.iaload, 1) := by decide +kernel
theorem dL_law__267 : decode cL_law_ 267 = .ok (.aload_n 0, 1) := by decide +kernel
theorem dL_law__268 : decode cL_law_ 268 = .ok (.iload 4, 2) := by decide +kernel
theorem dL_law__270 : decode cL_law_ 270 = .ok (.iconst 5, 1) := by decide +kernel
theorem dL_law__271 : decode cL_law_ 271 = .ok (.iadd, 1) := by decide +kernel
theorem dL_law__272 : decode cL_law_ 272 = .ok (.iaload, 1) := by decide +kernel
theorem dL_law__273 : decode cL_law_ 273 = .ok (.invokevirtual 121, 3) := by decide +kernel
theorem dL_law__276 : decode cL_law_ 276 = .ok (.if_icmp .eq 2186, 3) := by decide +kernel
theorem dL_law__279 : decode cL_law_ 279 = .ok (.iconst 0, 1) := by decide +kernel
theorem dL_law__280 : decode cL_law_ 280 = .ok (.ireturn, 1) := by decide +kernel
theorem dL_law__281 : decode cL_law_ 281 = .ok (.aload_n 1, 1) := by decide +kernel
theorem dL_law__282 : decode cL_law_ 282 = .ok (.aload_n 0, 1) := by decide +kernel
theorem dL_law__283 : decode cL_law_ 283 = .ok (.iload 4, 2) := by decide +kernel
theorem dL_law__285 : decode cL_law_ 285 = .ok (.iconst 1, 1) := by decide +kernel
theorem dL_law__286 : decode cL_law_ 286 = .ok (.iadd, 1) := by decide +kernel
theorem dL_law__287 : decode cL_law_ 287 = .ok (.iaload, 1) := by decide +kernel
theorem dL_law__288 : decode cL_law_ 288 = .ok (.invokevirtual 122, 3) := by decide +kernel
theorem dL_law__291 : decode cL_law_ 291 = .ok (.aload_n 2, 1) := by decide +kernel
theorem dL_law__292 : decode cL_law_ 292 = .ok (.aload_n 0, 1) := by decide +kernel
theorem dL_law__293 : decode cL_law_ 293 = .ok (.iload 4, 2) := by decide +kernel
theorem dL_law__295 : decode cL_law_ 295 = .ok (.iconst 1, 1) := by decide +kernel
theorem dL_law__296 : decode cL_law_ 296 = .ok (.iadd, 1) := by decide +kernel
theorem dL_law__297 : decode cL_law_ 297 = .ok (.iaload, 1) := by decide +kernel
theorem dL_law__298 : decode cL_law_ 298 = .ok (.invokevirtual 126, 3) := by decide +kernel
theorem dL_law__301 : decode cL_law_ 301 = .ok (.if_icmp .eq 2161, 3) := by decide +kernel
theorem dL_law__304 : decode cL_law_ 304 = .ok (.iconst 0, 1) := by decide +kernel
theorem dL_law__305 : decode cL_law_ 305 = .ok (.ireturn, 1) := by decide +kernel
theorem dL_law__306 : decode cL_law_ 306 = .ok (.aload_n 1, 1) := by decide +kernel
theorem dL_law__307 : decode cL_law_ 307 = .ok (.aload_n 3, 1) := by decide +kernel
theorem dL_law__308 : decode cL_law_ 308 = .ok (.invokestatic 127, 3) := by decide +kernel
theorem dL_law__311 : decode cL_law_ 311 = .ok (.istore 5, 2) := by decide +kernel
theorem dL_law__313 : decode cL_law_ 313 = .ok (.aload_n 2, 1) := by decide +kernel
theorem dL_law__314 : decode cL_law_ 314 = .ok (.invokevirtual 132, 3) := by decide +kernel
theorem dL_law__317 : decode cL_law_ 317 = .ok (.istore 6, 2) := by decide +kernel
theorem dL_law__319 : decode cL_law_ 319 = .ok (.aload_n 2, 1) := by decide +kernel
theorem dL_law__320 : decode cL_law_ 320 = .ok (.invokevirtual 133, 3) := by decide +kernel
theorem dL_law__323 : decode cL_law_ 323 = .ok (.iload 5, 2) := by decide +kernel
theorem dL_law__325 : decode cL_law_ 325 = .ok (.if_icmp .eq 5, 3) := by decide +kernel
theorem dL_law__328 : decode cL_law_ 328 = .ok (.iconst 0, 1) := by decide +kernel
theorem dL_law__329 : decode cL_law_ 329 = .ok (.ireturn, 1) := by decide +kernel
theorem dL_law__330 : decode cL_law_ 330 = .ok (.iload 5, 2) := by decide +kernel
theorem dL_law__332 : decode cL_law_ 332 = .ok (.ifCond .ne 15, 3) := by decide +kernel
theorem dL_law__335 : decode cL_law_ 335 = .ok (.aload_n 3, 1) := by decide +kernel
theorem dL_law__336 : decode cL_law_ 336 = .ok (.iconst 0, 1) := by decide +kernel
theorem dL_law__337 : decode cL_law_ 337 = .ok (.laload, 1) := by decide +kernel
theorem dL_law__338 : decode cL_law_ 338 = .ok (.iload 6, 2) := by decide +kernel
theorem dL_law__340 : decode cL_law_ 340 = .ok (.i2l, 1) := by decide +kernel
theorem dL_law__341 : decode cL_law_ 341 = .ok (.lcmp, 1) := by decide +kernel
theorem dL_law__342 : decode cL_law_ 342 = .ok (.ifCond .eq 5, 3) := by decide +kernel
theorem dL_law__345 : decode cL_law_ 345 = .ok (.iconst 0, 1) := by decide +kernel
theorem dL_law__346 : decode cL_law_ 346 = .ok (.ireturn, 1) := by decide +kernel
theorem dL_law__347 : decode cL_law_ 347 = .ok (.goto 2115, 3) := by decide +kernel
theorem dL_law__350 : decode cL_law_ 350 = .ok (.aload_n 1, 1) := by decide +kernel
theorem dL_law__351 : decode cL_law_ 351 = .ok (.aload_n 3, 1) := by decide +kernel
theorem dL_law__352 : decode cL_law_ 352 = .ok (.invokestatic 136, 3) := by decide +kernel
theorem dL_law__355 : decode cL_law_ 355 = .ok (.istore 5, 2) := by decide +kernel
theorem dL_law__357 : decode cL_law_ 357 = .ok (.aload_n 2, 1) := by decide +kernel
theorem dL_law__358 : decode cL_law_ 358 = .ok (.invokevirtual 138, 3) := by decide +kernel
theorem dL_law__361 : decode cL_law_ 361 = .ok (.istore 6, 2) := by decide +kernel
theorem dL_law__363 : decode cL_law_ 363 = .ok (.aload_n 2, 1) := by decide +kernel
theorem dL_law__364 : decode cL_law_ 364 = .ok (.invokevirtual 133, 3) := by decide +kernel
theorem dL_law__367 : decode cL_law_ 367 = .ok (.iload 5, 2) := by decide +kernel
theorem dL_law__369 : decode cL_law_ 369 = .ok (.if_icmp .eq 5, 3) := by decide +kernel
theorem dL_law__372 : decode cL_law_ 372 = .ok (.iconst 0, 1) := by decide +kernel
theorem dL_law__373 : decode cL_law_ 373 = .ok (.ireturn, 1) := by decide +kernel
theorem dL_law__374 : decode cL_law_ 374 = .ok (.iload 5, 2) := by decide +kernel
theorem dL_law__376 : decode cL_law_ 376 = .ok (.ifCond .ne 15, 3) := by decide +kernel
theorem dL_law__379 : decode cL_law_ 379 = .ok (.aload_n 3, 1) := by decide +kernel
theorem dL_law__380 : decode cL_law_ 380 = .ok (.iconst 0, 1) := by decide +kernel
theorem dL_law__381 : decode cL_law_ 381 = .ok (.laload, 1) := by decide +kernel
theorem dL_law__382 : decode cL_law_ 382 = .ok (.iload 6, 2) := by decide +kernel
theorem dL_law__384 : decode cL_law_ 384 = .ok (.i2l, 1) := by decide +kernel
theorem dL_law__385 : decode cL_law_ 385 = .ok (.lcmp, 1) := by decide +kernel
theorem dL_law__386 : decode cL_law_ 386 = .ok (.ifCond .eq 5, 3) := by decide +kernel
theorem dL_law__389 : decode cL_law_ 389 = .ok (.iconst 0, 1) := by decide +kernel
theorem dL_law__390 : decode cL_law_ 390 = .ok (.ireturn, 1) := by decide +kernel
theorem dL_law__391 : decode cL_law_ 391 = .ok (.goto 2071, 3) := by decide +kernel
theorem dL_law__394 : decode cL_law_ 394 = .ok (.aload_n 1, 1) := by decide +kernel
theorem dL_law__395 : decode cL_law_ 395 = .ok (.invokevirtual 139, 3) := by decide +kernel
theorem dL_law__398 : decode cL_law_ 398 = .ok (.aload_n 2, 1) := by decide +kernel
theorem dL_law__399 : decode cL_law_ 399 = .ok (.invokevirtual 142, 3) := by decide +kernel
theorem dL_law__402 : decode cL_law_ 402 = .ok (.if_icmp .eq 2060, 3) := by decide +kernel
theorem dL_law__405 : decode cL_law_ 405 = .ok (.iconst 0, 1) := by decide +kernel
theorem dL_law__406 : decode cL_law_ 406 = .ok (.ireturn, 1) := by decide +kernel
theorem dL_law__407 : decode cL_law_ 407 = .ok (.aload_n 1, 1) := by decide +kernel
theorem dL_law__408 : decode cL_law_ 408 = .ok (.aload_n 0, 1) := by decide +kernel
theorem dL_law__409 : decode cL_law_ 409 = .ok (.iload 4, 2) := by decide +kernel
theorem dL_law__411 : decode cL_law_ 411 = .ok (.iconst 1, 1) := by decide +kernel
theorem dL_law__412 : decode cL_law_ 412 = .ok (.iadd, 1) := by decide +kernel
theorem dL_law__413 : decode cL_law_ 413 = .ok (.iaload, 1) := by decide +kernel
theorem dL_law__414 : decode cL_law_ 414 = .ok (.aload_n 0, 1) := by decide +kernel
theorem dL_law__415 : decode cL_law_ 415 = .ok (.iload 4, 2) := by decide +kernel
theorem dL_law__417 : decode cL_law_ 417 = .ok (.iconst 2, 1) := by decide +kernel
theorem dL_law__418 : decode cL_law_ 418 = .ok (.iadd, 1) := by decide +kernel
theorem dL_law__419 : decode cL_law_ 419 = .ok (.iaload, 1) := by decide +kernel
theorem dL_law__420 : decode cL_law_ 420 = .ok (.aload_n 3, 1) := by decide +kernel
theorem dL_law__421 : decode cL_law_ 421 = .ok (.invokestatic 143, 3) := by decide +kernel
theorem dL_law__424 : decode cL_law_ 424 = .ok (.istore 5, 2) := by decide +kernel
theorem dL_law__426 : decode cL_law_ 426 = .ok (.aload_n 2, 1) := by decide +kernel
theorem dL_law__427 : decode cL_law_ 427 = .ok (.aload_n 0, 1) := by decide +kernel
theorem dL_law__428 : decode cL_law_ 428 = .ok (.iload 4, 2) := by decide +kernel
theorem dL_law__430 : decode cL_law_ 430 = .ok (.iconst 1, 1) := by decide +kernel
theorem dL_law__431 : decode cL_law_ 431 = .ok (.iadd, 1) := by decide +kernel
theorem dL_law__432 : decode cL_law_ 432 = .ok (.iaload, 1) := by decide +kernel
theorem dL_law__433 : decode cL_law_ 433 = .ok (.aload_n 0, 1) := by decide +kernel
theorem dL_law__434 : decode cL_law_ 434 = .ok (.iload 4, 2) := by decide +kernel
theorem dL_law__436 : decode cL_law_ 436 = .ok (.iconst 2, 1) := by decide +kernel
theorem dL_law__437 : decode cL_law_ 437 = .ok (.iadd, 1) := by decide +kernel
theorem dL_law__438 : decode cL_law_ 438 = .ok (.iaload, 1) := by decide +kernel
theorem dL_law__439 : decode cL_law_ 439 = .ok (.invokevirtual 146, 3) := by decide +kernel
theorem dL_law__442 : decode cL_law_ 442 = .ok (.istore 6, 2) := by decide +kernel
theorem dL_law__444 : decode cL_law_ 444 = .ok (.aload_n 2, 1) := by decide +kernel
theorem dL_law__445 : decode cL_law_ 445 = .ok (.invokevirtual 133, 3) := by decide +kernel
theorem dL_law__448 : decode cL_law_ 448 = .ok (.iload 5, 2) := by decide +kernel
theorem dL_law__450 : decode cL_law_ 450 = .ok (.if_icmp .eq 5, 3) := by decide +kernel
theorem dL_law__453 : decode cL_law_ 453 = .ok (.iconst 0, 1) := by decide +kernel
theorem dL_law__454 : decode cL_law_ 454 = .ok (.ireturn, 1) := by decide +kernel
theorem dL_law__455 : decode cL_law_ 455 = .ok (.iload 5, 2) := by decide +kernel
theorem dL_law__457 : decode cL_law_ 457 = .ok (.ifCond .ne 15, 3) := by decide +kernel
theorem dL_law__460 : decode cL_law_ 460 = .ok (.aload_n 3, 1) := by decide +kernel
theorem dL_law__461 : decode cL_law_ 461 = .ok (.iconst 0, 1) := by decide +kernel
theorem dL_law__462 : decode cL_law_ 462 = .ok (.laload, 1) := by decide +kernel
theorem dL_law__463 : decode cL_law_ 463 = .ok (.iload 6, 2) := by decide +kernel
theorem dL_law__465 : decode cL_law_ 465 = .ok (.i2l, 1) := by decide +kernel
theorem dL_law__466 : decode cL_law_ 466 = .ok (.lcmp, 1) := by decide +kernel
theorem dL_law__467 : decode cL_law_ 467 = .ok (.ifCond .eq 5, 3) := by decide +kernel
theorem dL_law__470 : decode cL_law_ 470 = .ok (.iconst 0, 1) := by decide +kernel
theorem dL_law__471 : decode cL_law_ 471 = .ok (.ireturn, 1) := by decide +kernel
theorem dL_law__472 : decode cL_law_ 472 = .ok (.goto 1990, 3) := by decide +kernel
theorem dL_law__475 : decode cL_law_ 475 = .ok (.aload_n 1, 1) := by decide +kernel
theorem dL_law__476 : decode cL_law_ 476 = .ok (.aload_n 0, 1) := by decide +kernel
theorem dL_law__477 : decode cL_law_ 477 = .ok (.iload 4, 2) := by decide +kernel
theorem dL_law__479 : decode cL_law_ 479 = .ok (.iconst 1, 1) := by decide +kernel
theorem dL_law__480 : decode cL_law_ 480 = .ok (.iadd, 1) := by decide +kernel
theorem dL_law__481 : decode cL_law_ 481 = .ok (.iaload, 1) := by decide +kernel
theorem dL_law__482 : decode cL_law_ 482 = .ok (.aload_n 3, 1) := by decide +kernel
theorem dL_law__483 : decode cL_law_ 483 = .ok (.invokestatic 147, 3) := by decide +kernel
theorem dL_law__486 : decode cL_law_ 486 = .ok (.istore 5, 2) := by decide +kernel
theorem dL_law__488 : decode cL_law_ 488 = .ok (.aload_n 2, 1) := by decide +kernel
theorem dL_law__489 : decode cL_law_ 489 = .ok (.aload_n 0, 1) := by decide +kernel
theorem dL_law__490 : decode cL_law_ 490 = .ok (.iload 4, 2) := by decide +kernel
theorem dL_law__492 : decode cL_law_ 492 = .ok (.iconst 1, 1) := by decide +kernel
theorem dL_law__493 : decode cL_law_ 493 = .ok (.iadd, 1) := by decide +kernel
theorem dL_law__494 : decode cL_law_ 494 = .ok (.iaload, 1) := by decide +kernel
theorem dL_law__495 : decode cL_law_ 495 = .ok (.invokevirtual 150, 3) := by decide +kernel
theorem dL_law__498 : decode cL_law_ 498 = .ok (.istore 6, 2) := by decide +kernel
theorem dL_law__500 : decode cL_law_ 500 = .ok (.aload_n 2, 1) := by decide +kernel
theorem dL_law__501 : decode cL_law_ 501 = .ok (.invokevirtual 133, 3) := by decide +kernel
theorem dL_law__504 : decode cL_law_ 504 = .ok (.iload 5, 2) := by decide +kernel
theorem dL_law__506 : decode cL_law_ 506 = .ok (.if_icmp .eq 5, 3) := by decide +kernel
theorem dL_law__509 : decode cL_law_ 509 = .ok (.iconst 0, 1) := by decide +kernel
theorem dL_law__510 : decode cL_law_ 510 = .ok (.ireturn, 1) := by decide +kernel
theorem dL_law__511 : decode cL_law_ 511 = .ok (.iload 5, 2) := by decide +kernel
theorem dL_law__513 : decode cL_law_ 513 = .ok (.ifCond .ne 15, 3) := by decide +kernel
theorem dL_law__516 : decode cL_law_ 516 = .ok (.aload_n 3, 1) := by decide +kernel
theorem dL_law__517 : decode cL_law_ 517 = .ok (.iconst 0, 1) := by decide +kernel
theorem dL_law__518 : decode cL_law_ 518 = .ok (.laload, 1) := by decide +kernel
theorem dL_law__519 : decode cL_law_ 519 = .ok (.iload 6, 2) := by decide +kernel
theorem dL_law__521 : decode cL_law_ 521 = .ok (.i2l, 1) := by decide +kernel
theorem dL_law__522 : decode cL_law_ 522 = .ok (.lcmp, 1) := by decide +kernel
theorem dL_law__523 : decode cL_law_ 523 = .ok (.ifCond .eq 5, 3) := by decide +kernel
theorem dL_law__526 : decode cL_law_ 526 = .ok (.iconst 0, 1) := by decide +kernel
theorem dL_law__527 : decode cL_law_ 527 = .ok (.ireturn, 1) := by decide +kernel
theorem dL_law__528 : decode cL_law_ 528 = .ok (.goto 1934, 3) := by decide +kernel
theorem dL_law__531 : decode cL_law_ 531 = .ok (.aload_n 1, 1) := by decide +kernel
theorem dL_law__532 : decode cL_law_ 532 = .ok (.aload_n 0, 1) := by decide +kernel
theorem dL_law__533 : decode cL_law_ 533 = .ok (.iload 4, 2) := by decide +kernel
theorem dL_law__535 : decode cL_law_ 535 = .ok (.iconst 1, 1) := by decide +kernel
theorem dL_law__536 : decode cL_law_ 536 = .ok (.iadd, 1) := by decide +kernel
theorem dL_law__537 : decode cL_law_ 537 = .ok (.iaload, 1) := by decide +kernel
theorem dL_law__538 : decode cL_law_ 538 = .ok (.aload_n 0, 1) := by decide +kernel
theorem dL_law__539 : decode cL_law_ 539 = .ok (.iload 4, 2) := by decide +kernel
theorem dL_law__541 : decode cL_law_ 541 = .ok (.iconst 2, 1) := by decide +kernel
theorem dL_law__542 : decode cL_law_ 542 = .ok (.iadd, 1) := by decide +kernel
theorem dL_law__543 : decode cL_law_ 543 = .ok (.iaload, 1) := by decide +kernel
theorem dL_law__544 : decode cL_law_ 544 = .ok (.aload_n 3, 1) := by decide +kernel
theorem dL_law__545 : decode cL_law_ 545 = .ok (.invokestatic 151, 3) := by decide +kernel
theorem dL_law__548 : decode cL_law_ 548 = .ok (.istore 5, 2) := by decide +kernel
theorem dL_law__550 : decode cL_law_ 550 = .ok (.aload_n 2, 1) := by decide +kernel
theorem dL_law__551 : decode cL_law_ 551 = .ok (.aload_n 0, 1) := by decide +kernel
theorem dL_law__552 : decode cL_law_ 552 = .ok (.iload 4, 2) := by decide +kernel
theorem dL_law__554 : decode cL_law_ 554 = .ok (.iconst 1, 1) := by decide +kernel
theorem dL_law__555 : decode cL_law_ 555 = .ok (.iadd, 1) := by decide +kernel
theorem dL_law__556 : decode cL_law_ 556 = .ok (.iaload, 1) := by decide +kernel
theorem dL_law__557 : decode cL_law_ 557 = .ok (.aload_n 0, 1) := by decide +kernel
theorem dL_law__558 : decode cL_law_ 558 = .ok (.iload 4, 2) := by decide +kernel
theorem dL_law__560 : decode cL_law_ 560 = .ok (.iconst 2, 1) := by decide +kernel
theorem dL_law__561 : decode cL_law_ 561 = .ok (.iadd, 1) := by decide +kernel
theorem dL_law__562 : decode cL_law_ 562 = .ok (.iaload, 1) := by decide +kernel
theorem dL_law__563 : decode cL_law_ 563 = .ok (.invokevirtual 153, 3) := by decide +kernel
theorem dL_law__566 : decode cL_law_ 566 = .ok (.istore 6, 2) := by decide +kernel
theorem dL_law__568 : decode cL_law_ 568 = .ok (.aload_n 2, 1) := by decide +kernel
theorem dL_law__569 : decode cL_law_ 569 = .ok (.invokevirtual 133, 3) := by decide +kernel
theorem dL_law__572 : decode cL_law_ 572 = .ok (.iload 5, 2) := by decide +kernel
theorem dL_law__574 : decode cL_law_ 574 = .ok (.if_icmp .eq 5, 3) := by decide +kernel
theorem dL_law__577 : decode cL_law_ 577 = .ok (.iconst 0, 1) := by decide +kernel
theorem dL_law__578 : decode cL_law_ 578 = .ok (.ireturn, 1) := by decide +kernel
theorem dL_law__579 : decode cL_law_ 579 = .ok (.iload 5, 2) := by decide +kernel
theorem dL_law__581 : decode cL_law_ 581 = .ok (.ifCond .ne 15, 3) := by decide +kernel
theorem dL_law__584 : decode cL_law_ 584 = .ok (.aload_n 3, 1) := by decide +kernel
theorem dL_law__585 : decode cL_law_ 585 = .ok (.iconst 0, 1) := by decide +kernel
theorem dL_law__586 : decode cL_law_ 586 = .ok (.laload, 1) := by decide +kernel
theorem dL_law__587 : decode cL_law_ 587 = .ok (.iload 6, 2) := by decide +kernel
theorem dL_law__589 : decode cL_law_ 589 = .ok (.i2l, 1) := by decide +kernel
theorem dL_law__590 : decode cL_law_ 590 = .ok (.lcmp, 1) := by decide +kernel
theorem dL_law__591 : decode cL_law_ 591 = .ok (.ifCond .eq 5, 3) := by decide +kernel
theorem dL_law__594 : decode cL_law_ 594 = .ok (.iconst 0, 1) := by decide +kernel
theorem dL_law__595 : decode cL_law_ 595 = .ok (.ireturn, 1) := by decide +kernel
theorem dL_law__596 : decode cL_law_ 596 = .ok (.goto 1866, 3) := by decide +kernel
theorem dL_law__599 : decode cL_law_ 599 = .ok (.aload_n 1, 1) := by decide +kernel
theorem dL_law__600 : decode cL_law_ 600 = .ok (.aload_n 0, 1) := by decide +kernel
theorem dL_law__601 : decode cL_law_ 601 = .ok (.iload 4, 2) := by decide +kernel
theorem dL_law__603 : decode cL_law_ 603 = .ok (.iconst 1, 1) := by decide +kernel
theorem dL_law__604 : decode cL_law_ 604 = .ok (.iadd, 1) := by decide +kernel
theorem dL_law__605 : decode cL_law_ 605 = .ok (.iaload, 1) := by decide +kernel
theorem dL_law__606 : decode cL_law_ 606 = .ok (.aload_n 3, 1) := by decide +kernel
theorem dL_law__607 : decode cL_law_ 607 = .ok (.invokestatic 154, 3) := by decide +kernel
theorem dL_law__610 : decode cL_law_ 610 = .ok (.istore 5, 2) := by decide +kernel
theorem dL_law__612 : decode cL_law_ 612 = .ok (.aload_n 2, 1) := by decide +kernel
theorem dL_law__613 : decode cL_law_ 613 = .ok (.aload_n 0, 1) := by decide +kernel
theorem dL_law__614 : decode cL_law_ 614 = .ok (.iload 4, 2) := by decide +kernel
theorem dL_law__616 : decode cL_law_ 616 = .ok (.iconst 1, 1) := by decide +kernel
theorem dL_law__617 : decode cL_law_ 617 = .ok (.iadd, 1) := by decide +kernel
theorem dL_law__618 : decode cL_law_ 618 = .ok (.iaload, 1) := by decide +kernel
theorem dL_law__619 : decode cL_law_ 619 = .ok (.invokevirtual 156, 3) := by decide +kernel
theorem dL_law__622 : decode cL_law_ 622 = .ok (.istore 6, 2) := by decide +kernel
theorem dL_law__624 : decode cL_law_ 624 = .ok (.aload_n 2, 1) := by decide +kernel
theorem dL_law__625 : decode cL_law_ 625 = .ok (.invokevirtual 133, 3) := by decide +kernel
theorem dL_law__628 : decode cL_law_ 628 = .ok (.iload 5, 2) := by decide +kernel
theorem dL_law__630 : decode cL_law_ 630 = .ok (.if_icmp .eq 5, 3) := by decide +kernel
theorem dL_law__633 : decode cL_law_ 633 = .ok (.iconst 0, 1) := by decide +kernel
theorem dL_law__634 : decode cL_law_ 634 = .ok (.ireturn, 1) := by decide +kernel
theorem dL_law__635 : decode cL_law_ 635 = .ok (.iload 5, 2) := by decide +kernel
theorem dL_law__637 : decode cL_law_ 637 = .ok (.ifCond .ne 15, 3) := by decide +kernel
theorem dL_law__640 : decode cL_law_ 640 = .ok (.aload_n 3, 1) := by decide +kernel
theorem dL_law__641 : decode cL_law_ 641 = .ok (.iconst 0, 1) := by decide +kernel
theorem dL_law__642 : decode cL_law_ 642 = .ok (.laload, 1) := by decide +kernel
theorem dL_law__643 : decode cL_law_ 643 = .ok (.iload 6, 2) := by decide +kernel
theorem dL_law__645 : decode cL_law_ 645 = .ok (.i2l, 1) := by decide +kernel
theorem dL_law__646 : decode cL_law_ 646 = .ok (.lcmp, 1) := by decide +kernel
theorem dL_law__647 : decode cL_law_ 647 = .ok (.ifCond .eq 5, 3) := by decide +kernel
theorem dL_law__650 : decode cL_law_ 650 = .ok (.iconst 0, 1) := by decide +kernel
theorem dL_law__651 : decode cL_law_ 651 = .ok (.ireturn, 1) := by decide +kernel
theorem dL_law__652 : decode cL_law_ 652 = .ok (.goto 1810, 3) := by decide +kernel
theorem dL_law__655 : decode cL_law_ 655 = .ok (.aload_n 1, 1) := by decide +kernel
theorem dL_law__656 : decode cL_law_ 656 = .ok (.aload_n 0, 1) := by decide +kernel
theorem dL_law__657 : decode cL_law_ 657 = .ok (.iload 4, 2) := by decide +kernel
theorem dL_law__659 : decode cL_law_ 659 = .ok (.iconst 1, 1) := by decide +kernel
theorem dL_law__660 : decode cL_law_ 660 = .ok (.iadd, 1) := by decide +kernel
theorem dL_law__661 : decode cL_law_ 661 = .ok (.iaload, 1) := by decide +kernel
theorem dL_law__662 : decode cL_law_ 662 = .ok (.aload_n 0, 1) := by decide +kernel
theorem dL_law__663 : decode cL_law_ 663 = .ok (.iload 4, 2) := by decide +kernel
theorem dL_law__665 : decode cL_law_ 665 = .ok (.iconst 2, 1) := by decide +kernel
theorem dL_law__666 : decode cL_law_ 666 = .ok (.iadd, 1) := by decide +kernel
theorem dL_law__667 : decode cL_law_ 667 = .ok (.iaload, 1) := by decide +kernel
theorem dL_law__668 : decode cL_law_ 668 = .ok (.aload_n 0, 1) := by decide +kernel
theorem dL_law__669 : decode cL_law_ 669 = .ok (.iload 4, 2) := by decide +kernel
theorem dL_law__671 : decode cL_law_ 671 = .ok (.iconst 3, 1) := by decide +kernel
theorem dL_law__672 : decode cL_law_ 672 = .ok (.iadd, 1) := by decide +kernel
theorem dL_law__673 : decode cL_law_ 673 = .ok (.iaload, 1) := by decide +kernel
theorem dL_law__674 : decode cL_law_ 674 = .ok (.aload_n 3, 1) := by decide +kernel
theorem dL_law__675 : decode cL_law_ 675 = .ok (.invokestatic 157, 3) := by decide +kernel
theorem dL_law__678 : decode cL_law_ 678 = .ok (.istore 5, 2) := by decide +kernel
theorem dL_law__680 : decode cL_law_ 680 = .ok (.aload_n 2, 1) := by decide +kernel
theorem dL_law__681 : decode cL_law_ 681 = .ok (.aload_n 0, 1) := by decide +kernel
theorem dL_law__682 : decode cL_law_ 682 = .ok (.iload 4, 2) := by decide +kernel
theorem dL_law__684 : decode cL_law_ 684 = .ok (.iconst 1, 1) := by decide +kernel
theorem dL_law__685 : decode cL_law_ 685 = .ok (.iadd, 1) := by decide +kernel
theorem dL_law__686 : decode cL_law_ 686 = .ok (.iaload, 1) := by decide +kernel
theorem dL_law__687 : decode cL_law_ 687 = .ok (.aload_n 0, 1) := by decide +kernel
theorem dL_law__688 : decode cL_law_ 688 = .ok (.iload 4, 2) := by decide +kernel
theorem dL_law__690 : decode cL_law_ 690 = .ok (.iconst 2, 1) := by decide +kernel
theorem dL_law__691 : decode cL_law_ 691 = .ok (.iadd, 1) := by decide +kernel
theorem dL_law__692 : decode cL_law_ 692 = .ok (.iaload, 1) := by decide +kernel
theorem dL_law__693 : decode cL_law_ 693 = .ok (.aload_n 0, 1) := by decide +kernel
theorem dL_law__694 : decode cL_law_ 694 = .ok (.iload 4, 2) := by decide +kernel
theorem dL_law__696 : decode cL_law_ 696 = .ok (.iconst 3, 1) := by decide +kernel
theorem dL_law__697 : decode cL_law_ 697 = .ok (.iadd, 1) := by decide +kernel
theorem dL_law__698 : decode cL_law_ 698 = .ok (.iaload, 1) := by decide +kernel
theorem dL_law__699 : decode cL_law_ 699 = .ok (.invokevirtual 160, 3) := by decide +kernel
theorem dL_law__702 : decode cL_law_ 702 = .ok (.istore 6, 2) := by decide +kernel
theorem dL_law__704 : decode cL_law_ 704 = .ok (.aload_n 2, 1) := by decide +kernel
theorem dL_law__705 : decode cL_law_ 705 = .ok (.invokevirtual 133, 3) := by decide +kernel
theorem dL_law__708 : decode cL_law_ 708 = .ok (.iload 5, 2) := by decide +kernel
theorem dL_law__710 : decode cL_law_ 710 = .ok (.if_icmp .eq 5, 3) := by decide +kernel
theorem dL_law__713 : decode cL_law_ 713 = .ok (.iconst 0, 1) := by decide +kernel
theorem dL_law__714 : decode cL_law_ 714 = .ok (.ireturn, 1) := by decide +kernel
theorem dL_law__715 : decode cL_law_ 715 = .ok (.iload 5, 2) := by decide +kernel
theorem dL_law__717 : decode cL_law_ 717 = .ok (.ifCond .ne 15, 3) := by decide +kernel
theorem dL_law__720 : decode cL_law_ 720 = .ok (.aload_n 3, 1) := by decide +kernel
theorem dL_law__721 : decode cL_law_ 721 = .ok (.iconst 0, 1) := by decide +kernel
theorem dL_law__722 : decode cL_law_ 722 = .ok (.laload, 1) := by decide +kernel
theorem dL_law__723 : decode cL_law_ 723 = .ok (.iload 6, 2) := by decide +kernel
theorem dL_law__725 : decode cL_law_ 725 = .ok (.i2l, 1) := by decide +kernel
theorem dL_law__726 : decode cL_law_ 726 = .ok (.lcmp, 1) := by decide +kernel
theorem dL_law__727 : decode cL_law_ 727 = .ok (.ifCond .eq 5, 3) := by decide +kernel
theorem dL_law__730 : decode cL_law_ 730 = .ok (.iconst 0, 1) := by decide +kernel
theorem dL_law__731 : decode cL_law_ 731 = .ok (.ireturn, 1) := by decide +kernel
theorem dL_law__732 : decode cL_law_ 732 = .ok (.goto 1730, 3) := by decide +kernel
theorem dL_law__735 : decode cL_law_ 735 = .ok (.aload_n 1, 1) := by decide +kernel
theorem dL_law__736 : decode cL_law_ 736 = .ok (.aload_n 0, 1) := by decide +kernel
theorem dL_law__737 : decode cL_law_ 737 = .ok (.iload 4, 2) := by decide +kernel
theorem dL_law__739 : decode cL_law_ 739 = .ok (.iconst 1, 1) := by decide +kernel
theorem dL_law__740 : decode cL_law_ 740 = .ok (.iadd, 1) := by decide +kernel
theorem dL_law__741 : decode cL_law_ 741 = .ok (.iaload, 1) := by decide +kernel
theorem dL_law__742 : decode cL_law_ 742 = .ok (.aload_n 0, 1) := by decide +kernel
theorem dL_law__743 : decode cL_law_ 743 = .ok (.iload 4, 2) := by decide +kernel
theorem dL_law__745 : decode cL_law_ 745 = .ok (.iconst 2, 1) := by decide +kernel
theorem dL_law__746 : decode cL_law_ 746 = .ok (.iadd, 1) := by decide +kernel
theorem dL_law__747 : decode cL_law_ 747 = .ok (.iaload, 1) := by decide +kernel
theorem dL_law__748 : decode cL_law_ 748 = .ok (.aload_n 0, 1) := by decide +kernel
theorem dL_law__749 : decode cL_law_ 749 = .ok (.iload 4, 2) := by decide +kernel
theorem dL_law__751 : decode cL_law_ 751 = .ok (.iconst 3, 1) := by decide +kernel
theorem dL_law__752 : decode cL_law_ 752 = .ok (.iadd, 1) := by decide +kernel
theorem dL_law__753 : decode cL_law_ 753 = .ok (.iaload, 1) := by decide +kernel
theorem dL_law__754 : decode cL_law_ 754 = .ok (.aload_n 3, 1) := by decide +kernel
theorem dL_law__755 : decode cL_law_ 755 = .ok (.invokestatic 161, 3) := by decide +kernel
theorem dL_law__758 : decode cL_law_ 758 = .ok (.istore 5, 2) := by decide +kernel
theorem dL_law__760 : decode cL_law_ 760 = .ok (.aload_n 2, 1) := by decide +kernel
theorem dL_law__761 : decode cL_law_ 761 = .ok (.aload_n 0, 1) := by decide +kernel
theorem dL_law__762 : decode cL_law_ 762 = .ok (.iload 4, 2) := by decide +kernel
theorem dL_law__764 : decode cL_law_ 764 = .ok (.iconst 1, 1) := by decide +kernel
theorem dL_law__765 : decode cL_law_ 765 = .ok (.iadd, 1) := by decide +kernel
theorem dL_law__766 : decode cL_law_ 766 = .ok (.iaload, 1) := by decide +kernel
theorem dL_law__767 : decode cL_law_ 767 = .ok (.aload_n 0, 1) := by decide +kernel
theorem dL_law__768 : decode cL_law_ 768 = .ok (.iload 4, 2) := by decide +kernel
theorem dL_law__770 : decode cL_law_ 770 = .ok (.iconst 2, 1) := by decide +kernel
theorem dL_law__771 : decode cL_law_ 771 = .ok (.iadd, 1) := by decide +kernel
theorem dL_law__772 : decode cL_law_ 772 = .ok (.iaload, 1) := by decide +kernel
theorem dL_law__773 : decode cL_law_ 773 = .ok (.aload_n 0, 1) := by decide +kernel
theorem dL_law__774 : decode cL_law_ 774 = .ok (.iload 4, 2) := by decide +kernel
theorem dL_law__776 : decode cL_law_ 776 = .ok (.iconst 3, 1) := by decide +kernel
theorem dL_law__777 : decode cL_law_ 777 = .ok (.iadd, 1) := by decide +kernel
theorem dL_law__778 : decode cL_law_ 778 = .ok (.iaload, 1) := by decide +kernel
theorem dL_law__779 : decode cL_law_ 779 = .ok (.invokevirtual 163, 3) := by decide +kernel
theorem dL_law__782 : decode cL_law_ 782 = .ok (.istore 6, 2) := by decide +kernel
theorem dL_law__784 : decode cL_law_ 784 = .ok (.aload_n 2, 1) := by decide +kernel
theorem dL_law__785 : decode cL_law_ 785 = .ok (.invokevirtual 133, 3) := by decide +kernel
theorem dL_law__788 : decode cL_law_ 788 = .ok (.iload 5, 2) := by decide +kernel
theorem dL_law__790 : decode cL_law_ 790 = .ok (.if_icmp .eq 5, 3) := by decide +kernel
theorem dL_law__793 : decode cL_law_ 793 = .ok (.iconst 0, 1) := by decide +kernel
theorem dL_law__794 : decode cL_law_ 794 = .ok (.ireturn, 1) := by decide +kernel
theorem dL_law__795 : decode cL_law_ 795 = .ok (.iload 5, 2) := by decide +kernel
theorem dL_law__797 : decode cL_law_ 797 = .ok (.ifCond .ne 15, 3) := by decide +kernel
theorem dL_law__800 : decode cL_law_ 800 = .ok (.aload_n 3, 1) := by decide +kernel
theorem dL_law__801 : decode cL_law_ 801 = .ok (.iconst 0, 1) := by decide +kernel
theorem dL_law__802 : decode cL_law_ 802 = .ok (.laload, 1) := by decide +kernel
theorem dL_law__803 : decode cL_law_ 803 = .ok (.iload 6, 2) := by decide +kernel
theorem dL_law__805 : decode cL_law_ 805 = .ok (.i2l, 1) := by decide +kernel
theorem dL_law__806 : decode cL_law_ 806 = .ok (.lcmp, 1) := by decide +kernel
theorem dL_law__807 : decode cL_law_ 807 = .ok (.ifCond .eq 5, 3) := by decide +kernel
theorem dL_law__810 : decode cL_law_ 810 = .ok (.iconst 0, 1) := by decide +kernel
theorem dL_law__811 : decode cL_law_ 811 = .ok (.ireturn, 1) := by decide +kernel
theorem dL_law__812 : decode cL_law_ 812 = .ok (.goto 1650, 3) := by decide +kernel
theorem dL_law__815 : decode cL_law_ 815 = .ok (.aload_n 1, 1) := by decide +kernel
theorem dL_law__816 : decode cL_law_ 816 = .ok (.invokevirtual 164, 3) := by decide +kernel
theorem dL_law__819 : decode cL_law_ 819 = .ok (.aload_n 2, 1) := by decide +kernel
theorem dL_law__820 : decode cL_law_ 820 = .ok (.invokevirtual 167, 3) := by decide +kernel
theorem dL_law__823 : decode cL_law_ 823 = .ok (.if_icmp .eq 1639, 3) := by decide +kernel
theorem dL_law__826 : decode cL_law_ 826 = .ok (.iconst 0, 1) := by decide +kernel
theorem dL_law__827 : decode cL_law_ 827 = .ok (.ireturn, 1) := by decide +kernel
theorem dL_law__828 : decode cL_law_ 828 = .ok (.aload_n 1, 1) := by decide +kernel
theorem dL_law__829 : decode cL_law_ 829 = .ok (.invokevirtual 168, 3) := by decide +kernel
theorem dL_law__832 : decode cL_law_ 832 = .ok (.aload_n 2, 1) := by decide +kernel
theorem dL_law__833 : decode cL_law_ 833 = .ok (.invokevirtual 171, 3) := by decide +kernel
theorem dL_law__836 : decode cL_law_ 836 = .ok (.if_icmp .eq 1626, 3) := by decide +kernel
theorem dL_law__839 : decode cL_law_ 839 = .ok (.iconst 0, 1) := by decide +kernel
theorem dL_law__840 : decode cL_law_ 840 = .ok (.ireturn, 1) := by decide +kernel
theorem dL_law__841 : decode cL_law_ 841 = .ok (.aload_n 1, 1) := by decide +kernel
theorem dL_law__842 : decode cL_law_ 842 = .ok (.aload_n 0, 1) := by decide +kernel
theorem dL_law__843 : decode cL_law_ 843 = .ok (.iload 4, 2) := by decide +kernel
theorem dL_law__845 : decode cL_law_ 845 = .ok (.iconst 1, 1) := by decide +kernel
theorem dL_law__846 : decode cL_law_ 846 = .ok (.iadd, 1) := by decide +kernel
theorem dL_law__847 : decode cL_law_ 847 = .ok (.iaload, 1) := by decide +kernel
theorem dL_law__848 : decode cL_law_ 848 = .ok (.aload_n 0, 1) := by decide +kernel
theorem dL_law__849 : decode cL_law_ 849 = .ok (.iload 4, 2) := by decide +kernel
theorem dL_law__851 : decode cL_law_ 851 = .ok (.iconst 2, 1) := by decide +kernel
theorem dL_law__852 : decode cL_law_ 852 = .ok (.iadd, 1) := by decide +kernel
theorem dL_law__853 : decode cL_law_ 853 = .ok (.iaload, 1) := by decide +kernel
theorem dL_law__854 : decode cL_law_ 854 = .ok (.aload_n 3, 1) := by decide +kernel
theorem dL_law__855 : decode cL_law_ 855 = .ok (.invokestatic 172, 3) := by decide +kernel
theorem dL_law__858 : decode cL_law_ 858 = .ok (.istore 5, 2) := by decide +kernel
theorem dL_law__860 : decode cL_law_ 860 = .ok (.aload_n 2, 1) := by decide +kernel
theorem dL_law__861 : decode cL_law_ 861 = .ok (.aload_n 0, 1) := by decide +kernel
theorem dL_law__862 : decode cL_law_ 862 = .ok (.iload 4, 2) := by decide +kernel
theorem dL_law__864 : decode cL_law_ 864 = .ok (.iconst 1, 1) := by decide +kernel
theorem dL_law__865 : decode cL_law_ 865 = .ok (.iadd, 1) := by decide +kernel
theorem dL_law__866 : decode cL_law_ 866 = .ok (.iaload, 1) := by decide +kernel
theorem dL_law__867 : decode cL_law_ 867 = .ok (.aload_n 0, 1) := by decide +kernel
theorem dL_law__868 : decode cL_law_ 868 = .ok (.iload 4, 2) := by decide +kernel
theorem dL_law__870 : decode cL_law_ 870 = .ok (.iconst 2, 1) := by decide +kernel
theorem dL_law__871 : decode cL_law_ 871 = .ok (.iadd, 1) := by decide +kernel
theorem dL_law__872 : decode cL_law_ 872 = .ok (.iaload, 1) := by decide +kernel
theorem dL_law__873 : decode cL_law_ 873 = .ok (.invokevirtual 174, 3) := by decide +kernel
theorem dL_law__876 : decode cL_law_ 876 = .ok (.istore 6, 2) := by decide +kernel
theorem dL_law__878 : decode cL_law_ 878 = .ok (.aload_n 2, 1) := by decide +kernel
theorem dL_law__879 : decode cL_law_ 879 = .ok (.invokevirtual 133, 3) := by decide +kernel
theorem dL_law__882 : decode cL_law_ 882 = .ok (.iload 5, 2) := by decide +kernel
theorem dL_law__884 : decode cL_law_ 884 = .ok (.if_icmp .eq 5, 3) := by decide +kernel
theorem dL_law__887 : decode cL_law_ 887 = .ok (.iconst 0, 1) := by decide +kernel
theorem dL_law__888 : decode cL_law_ 888 = .ok (.ireturn, 1) := by decide +kernel
theorem dL_law__889 : decode cL_law_ 889 = .ok (.iload 5, 2) := by decide +kernel
theorem dL_law__891 : decode cL_law_ 891 = .ok (.ifCond .ne 15, 3) := by decide +kernel
theorem dL_law__894 : decode cL_law_ 894 = .ok (.aload_n 3, 1) := by decide +kernel
theorem dL_law__895 : decode cL_law_ 895 = .ok (.iconst 0, 1) := by decide +kernel
theorem dL_law__896 : decode cL_law_ 896 = .ok (.laload, 1) := by decide +kernel
theorem dL_law__897 : decode cL_law_ 897 = .ok (.iload 6, 2) := by decide +kernel
theorem dL_law__899 : decode cL_law_ 899 = .ok (.i2l, 1) := by decide +kernel
theorem dL_law__900 : decode cL_law_ 900 = .ok (.lcmp, 1) := by decide +kernel
theorem dL_law__901 : decode cL_law_ 901 = .ok (.ifCond .eq 5, 3) := by decide +kernel
theorem dL_law__904 : decode cL_law_ 904 = .ok (.iconst 0, 1) := by decide +kernel
theorem dL_law__905 : decode cL_law_ 905 = .ok (.ireturn, 1) := by decide +kernel
theorem dL_law__906 : decode cL_law_ 906 = .ok (.goto 1556, 3) := by decide +kernel
theorem dL_law__909 : decode cL_law_ 909 = .ok (.aload_n 1, 1) := by decide +kernel
theorem dL_law__910 : decode cL_law_ 910 = .ok (.aload_n 0, 1) := by decide +kernel
theorem dL_law__911 : decode cL_law_ 911 = .ok (.iload 4, 2) := by decide +kernel
theorem dL_law__913 : decode cL_law_ 913 = .ok (.iconst 1, 1) := by decide +kernel
theorem dL_law__914 : decode cL_law_ 914 = .ok (.iadd, 1) := by decide +kernel
theorem dL_law__915 : decode cL_law_ 915 = .ok (.iaload, 1) := by decide +kernel
theorem dL_law__916 : decode cL_law_ 916 = .ok (.aload_n 0, 1) := by decide +kernel
theorem dL_law__917 : decode cL_law_ 917 = .ok (.iload 4, 2) := by decide +kernel
theorem dL_law__919 : decode cL_law_ 919 = .ok (.iconst 2, 1) := by decide +kernel
theorem dL_law__920 : decode cL_law_ 920 = .ok (.iadd, 1) := by decide +kernel
theorem dL_law__921 : decode cL_law_ 921 = .ok (.iaload, 1) := by decide +kernel
theorem dL_law__922 : decode cL_law_ 922 = .ok (.aload_n 3, 1) := by decide +kernel
theorem dL_law__923 : decode cL_law_ 923 = .ok (.invokestatic 175, 3) := by decide +kernel
theorem dL_law__926 : decode cL_law_ 926 = .ok (.istore 5, 2) := by decide +kernel
theorem dL_law__928 : decode cL_law_ 928 = .ok (.aload_n 2, 1) := by decide +kernel
theorem dL_law__929 : decode cL_law_ 929 = .ok (.aload_n 0, 1) := by decide +kernel
theorem dL_law__930 : decode cL_law_ 930 = .ok (.iload 4, 2) := by decide +kernel
theorem dL_law__932 : decode cL_law_ 932 = .ok (.iconst 1, 1) := by decide +kernel
theorem dL_law__933 : decode cL_law_ 933 = .ok (.iadd, 1) := by decide +kernel
theorem dL_law__934 : decode cL_law_ 934 = .ok (.iaload, 1) := by decide +kernel
theorem dL_law__935 : decode cL_law_ 935 = .ok (.aload_n 0, 1) := by decide +kernel
theorem dL_law__936 : decode cL_law_ 936 = .ok (.iload 4, 2) := by decide +kernel
theorem dL_law__938 : decode cL_law_ 938 = .ok (.iconst 2, 1) := by decide +kernel
theorem dL_law__939 : decode cL_law_ 939 = .ok (.iadd, 1) := by decide +kernel
theorem dL_law__940 : decode cL_law_ 940 = .ok (.iaload, 1) := by decide +kernel
theorem dL_law__941 : decode cL_law_ 941 = .ok (.invokevirtual 177, 3) := by decide +kernel
theorem dL_law__944 : decode cL_law_ 944 = .ok (.istore 6, 2) := by decide +kernel
theorem dL_law__946 : decode cL_law_ 946 = .ok (.aload_n 2, 1) := by decide +kernel
theorem dL_law__947 : decode cL_law_ 947 = .ok (.invokevirtual 133, 3) := by decide +kernel
theorem dL_law__950 : decode cL_law_ 950 = .ok (.iload 5, 2) := by decide +kernel
theorem dL_law__952 : decode cL_law_ 952 = .ok (.if_icmp .eq 5, 3) := by decide +kernel
theorem dL_law__955 : decode cL_law_ 955 = .ok (.iconst 0, 1) := by decide +kernel
theorem dL_law__956 : decode cL_law_ 956 = .ok (.ireturn, 1) := by decide +kernel
theorem dL_law__957 : decode cL_law_ 957 = .ok (.iload 5, 2) := by decide +kernel
theorem dL_law__959 : decode cL_law_ 959 = .ok (.ifCond .ne 15, 3) := by decide +kernel
theorem dL_law__962 : decode cL_law_ 962 = .ok (.aload_n 3, 1) := by decide +kernel
theorem dL_law__963 : decode cL_law_ 963 = .ok (.iconst 0, 1) := by decide +kernel
theorem dL_law__964 : decode cL_law_ 964 = .ok (.laload, 1) := by decide +kernel
theorem dL_law__965 : decode cL_law_ 965 = .ok (.iload 6, 2) := by decide +kernel
theorem dL_law__967 : decode cL_law_ 967 = .ok (.i2l, 1) := by decide +kernel
theorem dL_law__968 : decode cL_law_ 968 = .ok (.lcmp, 1) := by decide +kernel
theorem dL_law__969 : decode cL_law_ 969 = .ok (.ifCond .eq 5, 3) := by decide +kernel
theorem dL_law__972 : decode cL_law_ 972 = .ok (.iconst 0, 1) := by decide +kernel
theorem dL_law__973 : decode cL_law_ 973 = .ok (.ireturn, 1) := by decide +kernel
theorem dL_law__974 : decode cL_law_ 974 = .ok (.goto 1488, 3) := by decide +kernel
theorem dL_law__977 : decode cL_law_ 977 = .ok (.aload_n 1, 1) := by decide +kernel
theorem dL_law__978 : decode cL_law_ 978 = .ok (.aload_n 0, 1) := by decide +kernel
theorem dL_law__979 : decode cL_law_ 979 = .ok (.iload 4, 2) := by decide +kernel
theorem dL_law__981 : decode cL_law_ 981 = .ok (.iconst 1, 1) := by decide +kernel
theorem dL_law__982 : decode cL_law_ 982 = .ok (.iadd, 1) := by decide +kernel
theorem dL_law__983 : decode cL_law_ 983 = .ok (.iaload, 1) := by decide +kernel
theorem dL_law__984 : decode cL_law_ 984 = .ok (.aload_n 0, 1) := by decide +kernel
theorem dL_law__985 : decode cL_law_ 985 = .ok (.iload 4, 2) := by decide +kernel
theorem dL_law__987 : decode cL_law_ 987 = .ok (.iconst 2, 1) := by decide +kernel
theorem dL_law__988 : decode cL_law_ 988 = .ok (.iadd, 1) := by decide +kernel
theorem dL_law__989 : decode cL_law_ 989 = .ok (.iaload, 1) := by decide +kernel
theorem dL_law__990 : decode cL_law_ 990 = .ok (.ifCond .eq 7, 3) := by decide +kernel
theorem dL_law__993 : decode cL_law_ 993 = .ok (.iconst 1, 1) := by decide +kernel
theorem dL_law__994 : decode cL_law_ 994 = .ok (.goto 4, 3) := by decide +kernel
theorem dL_law__997 : decode cL_law_ 997 = .ok (.iconst 0, 1) := by decide +kernel
theorem dL_law__998 : decode cL_law_ 998 = .ok (.aload_n 3, 1) := by decide +kernel
theorem dL_law__999 : decode cL_law_ 999 = .ok (.invokestatic 178, 3) := by decide +kernel
theorem dL_law__1002 : decode cL_law_ 1002 = .ok (.istore 5, 2) := by decide +kernel
theorem dL_law__1004 : decode cL_law_ 1004 = .ok (.aload_n 2, 1) := by decide +kernel
theorem dL_law__1005 : decode cL_law_ 1005 = .ok (.aload_n 0, 1) := by decide +kernel
theorem dL_law__1006 : decode cL_law_ 1006 = .ok (.iload 4, 2) := by decide +kernel
theorem dL_law__1008 : decode cL_law_ 1008 = .ok (.iconst 1, 1) := by decide +kernel
theorem dL_law__1009 : decode cL_law_ 1009 = .ok (.iadd, 1) := by decide +kernel
theorem dL_law__1010 : decode cL_law_ 1010 = .ok (.iaload, 1) := by decide +kernel
theorem dL_law__1011 : decode cL_law_ 1011 = .ok (.aload_n 0, 1) := by decide +kernel
theorem dL_law__1012 : decode cL_law_ 1012 = .ok (.iload 4, 2) := by decide +kernel
theorem dL_law__1014 : decode cL_law_ 1014 = .ok (.iconst 2, 1) := by decide +kernel
theorem dL_law__1015 : decode cL_law_ 1015 = .ok (.iadd, 1) := by decide +kernel
theorem dL_law__1016 : decode cL_law_ 1016 = .ok (.iaload, 1) := by decide +kernel
theorem dL_law__1017 : decode cL_law_ 1017 = .ok (.ifCond .eq 7, 3) := by decide +kernel
theorem dL_law__1020 : decode cL_law_ 1020 = .ok (.iconst 1, 1) := by decide +kernel
theorem dL_law__1021 : decode cL_law_ 1021 = .ok (.goto 4, 3) := by decide +kernel
theorem dL_law__1024 : decode cL_law_ 1024 = .ok (.iconst 0, 1) := by decide +kernel
theorem dL_law__1025 : decode cL_law_ 1025 = .ok (.invokevirtual 181, 3) := by decide +kernel
theorem dL_law__1028 : decode cL_law_ 1028 = .ok (.istore 6, 2) := by decide +kernel
theorem dL_law__1030 : decode cL_law_ 1030 = .ok (.aload_n 2, 1) := by decide +kernel
theorem dL_law__1031 : decode cL_law_ 1031 = .ok (.invokevirtual 133, 3) := by decide +kernel
theorem dL_law__1034 : decode cL_law_ 1034 = .ok (.iload 5, 2) := by decide +kernel
theorem dL_law__1036 : decode cL_law_ 1036 = .ok (.if_icmp .eq 5, 3) := by decide +kernel
theorem dL_law__1039 : decode cL_law_ 1039 = .ok (.iconst 0, 1) := by decide +kernel
theorem dL_law__1040 : decode cL_law_ 1040 = .ok (.ireturn, 1) := by decide +kernel
theorem dL_law__1041 : decode cL_law_ 1041 = .ok (.iload 5, 2) := by decide +kernel
theorem dL_law__1043 : decode cL_law_ 1043 = .ok (.ifCond .ne 15, 3) := by decide +kernel
theorem dL_law__1046 : decode cL_law_ 1046 = .ok (.aload_n 3, 1) := by decide +kernel
theorem dL_law__1047 : decode cL_law_ 1047 = .ok (.iconst 0, 1) := by decide +kernel
theorem dL_law__1048 : decode cL_law_ 1048 = .ok (.laload, 1) := by decide +kernel
theorem dL_law__1049 : decode cL_law_ 1049 = .ok (.iload 6, 2) := by decide +kernel
theorem dL_law__1051 : decode cL_law_ 1051 = .ok (.i2l, 1) := by decide +kernel
theorem dL_law__1052 : decode cL_law_ 1052 = .ok (.lcmp, 1) := by decide +kernel
theorem dL_law__1053 : decode cL_law_ 1053 = .ok (.ifCond .eq 5, 3) := by decide +kernel
theorem dL_law__1056 : decode cL_law_ 1056 = .ok (.iconst 0, 1) := by decide +kernel
theorem dL_law__1057 : decode cL_law_ 1057 = .ok (.ireturn, 1) := by decide +kernel
theorem dL_law__1058 : decode cL_law_ 1058 = .ok (.goto 1404, 3) := by decide +kernel
theorem dL_law__1061 : decode cL_law_ 1061 = .ok (.aload_n 1, 1) := by decide +kernel
theorem dL_law__1062 : decode cL_law_ 1062 = .ok (.aload_n 0, 1) := by decide +kernel
theorem dL_law__1063 : decode cL_law_ 1063 = .ok (.iload 4, 2) := by decide +kernel
theorem dL_law__1065 : decode cL_law_ 1065 = .ok (.iconst 1, 1) := by decide +kernel
theorem dL_law__1066 : decode cL_law_ 1066 = .ok (.iadd, 1) := by decide +kernel
theorem dL_law__1067 : decode cL_law_ 1067 = .ok (.iaload, 1) := by decide +kernel
theorem dL_law__1068 : decode cL_law_ 1068 = .ok (.aload_n 3, 1) := by decide +kernel
theorem dL_law__1069 : decode cL_law_ 1069 = .ok (.invokestatic 182, 3) := by decide +kernel
theorem dL_law__1072 : decode cL_law_ 1072 = .ok (.istore 5, 2) := by decide +kernel
theorem dL_law__1074 : decode cL_law_ 1074 = .ok (.aload_n 2, 1) := by decide +kernel
theorem dL_law__1075 : decode cL_law_ 1075 = .ok (.aload_n 0, 1) := by decide +kernel
theorem dL_law__1076 : decode cL_law_ 1076 = .ok (.iload 4, 2) := by decide +kernel
theorem dL_law__1078 : decode cL_law_ 1078 = .ok (.iconst 1, 1) := by decide +kernel
theorem dL_law__1079 : decode cL_law_ 1079 = .ok (.iadd, 1) := by decide +kernel
theorem dL_law__1080 : decode cL_law_ 1080 = .ok (.iaload, 1) := by decide +kernel
theorem dL_law__1081 : decode cL_law_ 1081 = .ok (.invokevirtual 184, 3) := by decide +kernel
theorem dL_law__1084 : decode cL_law_ 1084 = .ok (.istore 6, 2) := by decide +kernel
theorem dL_law__1086 : decode cL_law_ 1086 = .ok (.aload_n 2, 1) := by decide +kernel
theorem dL_law__1087 : decode cL_law_ 1087 = .ok (.invokevirtual 133, 3) := by decide +kernel
theorem dL_law__1090 : decode cL_law_ 1090 = .ok (.iload 5, 2) := by decide +kernel
theorem dL_law__1092 : decode cL_law_ 1092 = .ok (.if_icmp .eq 5, 3) := by decide +kernel
theorem dL_law__1095 : decode cL_law_ 1095 = .ok (.iconst 0, 1) := by decide +kernel
theorem dL_law__1096 : decode cL_law_ 1096 = .ok (.ireturn, 1) := by decide +kernel
theorem dL_law__1097 : decode cL_law_ 1097 = .ok (.iload 5, 2) := by decide +kernel
theorem dL_law__1099 : decode cL_law_ 1099 = .ok (.ifCond .ne 15, 3) := by decide +kernel
theorem dL_law__1102 : decode cL_law_ 1102 = .ok (.aload_n 3, 1) := by decide +kernel
theorem dL_law__1103 : decode cL_law_ 1103 = .ok (.iconst 0, 1) := by decide +kernel
theorem dL_law__1104 : decode cL_law_ 1104 = .ok (.laload, 1) := by decide +kernel
theorem dL_law__1105 : decode cL_law_ 1105 = .ok (.iload 6, 2) := by decide +kernel
theorem dL_law__1107 : decode cL_law_ 1107 = .ok (.i2l, 1) := by decide +kernel
theorem dL_law__1108 : decode cL_law_ 1108 = .ok (.lcmp, 1) := by decide +kernel
theorem dL_law__1109 : decode cL_law_ 1109 = .ok (.ifCond .eq 5, 3) := by decide +kernel
theorem dL_law__1112 : decode cL_law_ 1112 = .ok (.iconst 0, 1) := by decide +kernel
theorem dL_law__1113 : decode cL_law_ 1113 = .ok (.ireturn, 1) := by decide +kernel
theorem dL_law__1114 : decode cL_law_ 1114 = .ok (.goto 1348, 3) := by decide +kernel
theorem dL_law__1117 : decode cL_law_ 1117 = .ok (.aload_n 1, 1) := by decide +kernel
theorem dL_law__1118 : decode cL_law_ 1118 = .ok (.aload_n 0, 1) := by decide +kernel
theorem dL_law__1119 : decode cL_law_ 1119 = .ok (.iload 4, 2) := by decide +kernel
theorem dL_law__1121 : decode cL_law_ 1121 = .ok (.iconst 1, 1) := by decide +kernel
theorem dL_law__1122 : decode cL_law_ 1122 = .ok (.iadd, 1) := by decide +kernel
theorem dL_law__1123 : decode cL_law_ 1123 = .ok (.iaload, 1) := by decide +kernel
theorem dL_law__1124 : decode cL_law_ 1124 = .ok (.aload_n 0, 1) := by decide +kernel
theorem dL_law__1125 : decode cL_law_ 1125 = .ok (.iload 4, 2) := by decide +kernel
theorem dL_law__1127 : decode cL_law_ 1127 = .ok (.iconst 2, 1) := by decide +kernel
theorem dL_law__1128 : decode cL_law_ 1128 = .ok (.iadd, 1) := by decide +kernel
theorem dL_law__1129 : decode cL_law_ 1129 = .ok (.iaload, 1) := by decide +kernel
theorem dL_law__1130 : decode cL_law_ 1130 = .ok (.aload_n 3, 1) := by decide +kernel
theorem dL_law__1131 : decode cL_law_ 1131 = .ok (.invokestatic 185, 3) := by decide +kernel
theorem dL_law__1134 : decode cL_law_ 1134 = .ok (.istore 5, 2) := by decide +kernel
theorem dL_law__1136 : decode cL_law_ 1136 = .ok (.aload_n 2, 1) := by decide +kernel
theorem dL_law__1137 : decode cL_law_ 1137 = .ok (.aload_n 0, 1) := by decide +kernel
theorem dL_law__1138 : decode cL_law_ 1138 = .ok (.iload 4, 2) := by decide +kernel
theorem dL_law__1140 : decode cL_law_ 1140 = .ok (.iconst 1, 1) := by decide +kernel
theorem dL_law__1141 : decode cL_law_ 1141 = .ok (.iadd, 1) := by decide +kernel
theorem dL_law__1142 : decode cL_law_ 1142 = .ok (.iaload, 1) := by decide +kernel
theorem dL_law__1143 : decode cL_law_ 1143 = .ok (.aload_n 0, 1) := by decide +kernel
theorem dL_law__1144 : decode cL_law_ 1144 = .ok (.iload 4, 2) := by decide +kernel
theorem dL_law__1146 : decode cL_law_ 1146 = .ok (.iconst 2, 1) := by decide +kernel
theorem dL_law__1147 : decode cL_law_ 1147 = .ok (.iadd, 1) := by decide +kernel
theorem dL_law__1148 : decode cL_law_ 1148 = .ok (.iaload, 1) := by decide +kernel
theorem dL_law__1149 : decode cL_law_ 1149 = .ok (.invokevirtual 187, 3) := by decide +kernel
theorem dL_law__1152 : decode cL_law_ 1152 = .ok (.istore 6, 2) := by decide +kernel
theorem dL_law__1154 : decode cL_law_ 1154 = .ok (.aload_n 2, 1) := by decide +kernel
theorem dL_law__1155 : decode cL_law_ 1155 = .ok (.invokevirtual 133, 3) := by decide +kernel
theorem dL_law__1158 : decode cL_law_ 1158 = .ok (.iload 5, 2) := by decide +kernel
theorem dL_law__1160 : decode cL_law_ 1160 = .ok (.if_icmp .eq 5, 3) := by decide +kernel
theorem dL_law__1163 : decode cL_law_ 1163 = .ok (.iconst 0, 1) := by decide +kernel
theorem dL_law__1164 : decode cL_law_ 1164 = .ok (.ireturn, 1) := by decide +kernel
theorem dL_law__1165 : decode cL_law_ 1165 = .ok (.iload 5, 2) := by decide +kernel
theorem dL_law__1167 : decode cL_law_ 1167 = .ok (.ifCond .ne 22, 3) := by decide +kernel
theorem dL_law__1170 : decode cL_law_ 1170 = .ok (.aload_n 3, 1) := by decide +kernel
theorem dL_law__1171 : decode cL_law_ 1171 = .ok (.iconst 0, 1) := by decide +kernel
theorem dL_law__1172 : decode cL_law_ 1172 = .ok (.laload, 1) := by decide +kernel
theorem dL_law__1173 : decode cL_law_ 1173 = .ok (.iload 6, 2) := by decide +kernel
theorem dL_law__1175 : decode cL_law_ 1175 = .ok (.ifCond .eq 7, 3) := by decide +kernel
theorem dL_law__1178 : decode cL_law_ 1178 = .ok (.lconst 1, 1) := by decide +kernel
theorem dL_law__1179 : decode cL_law_ 1179 = .ok (.goto 4, 3) := by decide +kernel
theorem dL_law__1182 : decode cL_law_ 1182 = .ok (.lconst 0, 1) := by decide +kernel
theorem dL_law__1183 : decode cL_law_ 1183 = .ok (.lcmp, 1) := by decide +kernel
theorem dL_law__1184 : decode cL_law_ 1184 = .ok (.ifCond .eq 5, 3) := by decide +kernel
theorem dL_law__1187 : decode cL_law_ 1187 = .ok (.iconst 0, 1) := by decide +kernel
theorem dL_law__1188 : decode cL_law_ 1188 = .ok (.ireturn, 1) := by decide +kernel
theorem dL_law__1189 : decode cL_law_ 1189 = .ok (.goto 1273, 3) := by decide +kernel
theorem dL_law__1192 : decode cL_law_ 1192 = .ok (.aload_n 1, 1) := by decide +kernel
theorem dL_law__1193 : decode cL_law_ 1193 = .ok (.aload_n 0, 1) := by decide +kernel
theorem dL_law__1194 : decode cL_law_ 1194 = .ok (.iload 4, 2) := by decide +kernel
theorem dL_law__1196 : decode cL_law_ 1196 = .ok (.iconst 1, 1) := by decide +kernel
theorem dL_law__1197 : decode cL_law_ 1197 = .ok (.iadd, 1) := by decide +kernel
theorem dL_law__1198 : decode cL_law_ 1198 = .ok (.iaload, 1) := by decide +kernel
theorem dL_law__1199 : decode cL_law_ 1199 = .ok (.aload_n 0, 1) := by decide +kernel
theorem dL_law__1200 : decode cL_law_ 1200 = .ok (.iload 4, 2) := by decide +kernel
theorem dL_law__1202 : decode cL_law_ 1202 = .ok (.iconst 2, 1) := by decide +kernel
theorem dL_law__1203 : decode cL_law_ 1203 = .ok (.iadd, 1) := by decide +kernel
theorem dL_law__1204 : decode cL_law_ 1204 = .ok (.iaload, 1) := by decide +kernel
theorem dL_law__1205 : decode cL_law_ 1205 = .ok (.aload_n 0, 1) := by decide +kernel
theorem dL_law__1206 : decode cL_law_ 1206 = .ok (.iload 4, 2) := by decide +kernel
theorem dL_law__1208 : decode cL_law_ 1208 = .ok (.iconst 3, 1) := by decide +kernel
theorem dL_law__1209 : decode cL_law_ 1209 = .ok (.iadd, 1) := by decide +kernel
theorem dL_law__1210 : decode cL_law_ 1210 = .ok (.iaload, 1) := by decide +kernel
theorem dL_law__1211 : decode cL_law_ 1211 = .ok (.aload_n 3, 1) := by decide +kernel
theorem dL_law__1212 : decode cL_law_ 1212 = .ok (.invokestatic 188, 3) := by decide +kernel
theorem dL_law__1215 : decode cL_law_ 1215 = .ok (.istore 5, 2) := by decide +kernel
theorem dL_law__1217 : decode cL_law_ 1217 = .ok (.aload_n 2, 1) := by decide +kernel
theorem dL_law__1218 : decode cL_law_ 1218 = .ok (.aload_n 0, 1) := by decide +kernel
theorem dL_law__1219 : decode cL_law_ 1219 = .ok (.iload 4, 2) := by decide +kernel
theorem dL_law__1221 : decode cL_law_ 1221 = .ok (.iconst 1, 1) := by decide +kernel
theorem dL_law__1222 : decode cL_law_ 1222 = .ok (.iadd, 1) := by decide +kernel
theorem dL_law__1223 : decode cL_law_ 1223 = .ok (.iaload, 1) := by decide +kernel
theorem dL_law__1224 : decode cL_law_ 1224 = .ok (.aload_n 0, 1) := by decide +kernel
theorem dL_law__1225 : decode cL_law_ 1225 = .ok (.iload 4, 2) := by decide +kernel
theorem dL_law__1227 : decode cL_law_ 1227 = .ok (.iconst 2, 1) := by decide +kernel
theorem dL_law__1228 : decode cL_law_ 1228 = .ok (.iadd, 1) := by decide +kernel
theorem dL_law__1229 : decode cL_law_ 1229 = .ok (.iaload, 1) := by decide +kernel
theorem dL_law__1230 : decode cL_law_ 1230 = .ok (.aload_n 0, 1) := by decide +kernel
theorem dL_law__1231 : decode cL_law_ 1231 = .ok (.iload 4, 2) := by decide +kernel
theorem dL_law__1233 : decode cL_law_ 1233 = .ok (.iconst 3, 1) := by decide +kernel
theorem dL_law__1234 : decode cL_law_ 1234 = .ok (.iadd, 1) := by decide +kernel
theorem dL_law__1235 : decode cL_law_ 1235 = .ok (.iaload, 1) := by decide +kernel
theorem dL_law__1236 : decode cL_law_ 1236 = .ok (.invokevirtual 190, 3) := by decide +kernel
theorem dL_law__1239 : decode cL_law_ 1239 = .ok (.istore 6, 2) := by decide +kernel
theorem dL_law__1241 : decode cL_law_ 1241 = .ok (.aload_n 2, 1) := by decide +kernel
theorem dL_law__1242 : decode cL_law_ 1242 = .ok (.invokevirtual 133, 3) := by decide +kernel
theorem dL_law__1245 : decode cL_law_ 1245 = .ok (.iload 5, 2) := by decide +kernel
theorem dL_law__1247 : decode cL_law_ 1247 = .ok (.if_icmp .eq 5, 3) := by decide +kernel
theorem dL_law__1250 : decode cL_law_ 1250 = .ok (.iconst 0, 1) := by decide +kernel
theorem dL_law__1251 : decode cL_law_ 1251 = .ok (.ireturn, 1) := by decide +kernel
theorem dL_law__1252 : decode cL_law_ 1252 = .ok (.iload 5, 2) := by decide +kernel
theorem dL_law__1254 : decode cL_law_ 1254 = .ok (.ifCond .ne 15, 3) := by decide +kernel
theorem dL_law__1257 : decode cL_law_ 1257 = .ok (.aload_n 3, 1) := by decide +kernel
theorem dL_law__1258 : decode cL_law_ 1258 = .ok (.iconst 0, 1) := by decide +kernel
theorem dL_law__1259 : decode cL_law_ 1259 = .ok (.laload, 1) := by decide +kernel
theorem dL_law__1260 : decode cL_law_ 1260 = .ok (.iload 6, 2) := by decide +kernel
theorem dL_law__1262 : decode cL_law_ 1262 = .ok (.i2l, 1) := by decide +kernel
theorem dL_law__1263 : decode cL_law_ 1263 = .ok (.lcmp, 1) := by decide +kernel
theorem dL_law__1264 : decode cL_law_ 1264 = .ok (.ifCond .eq 5, 3) := by decide +kernel
theorem dL_law__1267 : decode cL_law_ 1267 = .ok (.iconst 0, 1) := by decide +kernel
theorem dL_law__1268 : decode cL_law_ 1268 = .ok (.ireturn, 1) := by decide +kernel
theorem dL_law__1269 : decode cL_law_ 1269 = .ok (.goto 1193, 3) := by decide +kernel
theorem dL_law__1272 : decode cL_law_ 1272 = .ok (.aload_n 1, 1) := by decide +kernel
theorem dL_law__1273 : decode cL_law_ 1273 = .ok (.aload_n 0, 1) := by decide +kernel
theorem dL_law__1274 : decode cL_law_ 1274 = .ok (.iload 4, 2) := by decide +kernel
theorem dL_law__1276 : decode cL_law_ 1276 = .ok (.iconst 1, 1) := by decide +kernel
theorem dL_law__1277 : decode cL_law_ 1277 = .ok (.iadd, 1) := by decide +kernel
theorem dL_law__1278 : decode cL_law_ 1278 = .ok (.iaload, 1) := by decide +kernel
theorem dL_law__1279 : decode cL_law_ 1279 = .ok (.aload_n 0, 1) := by decide +kernel
theorem dL_law__1280 : decode cL_law_ 1280 = .ok (.iload 4, 2) := by decide +kernel
theorem dL_law__1282 : decode cL_law_ 1282 = .ok (.iconst 2, 1) := by decide +kernel
theorem dL_law__1283 : decode cL_law_ 1283 = .ok (.iadd, 1) := by decide +kernel
theorem dL_law__1284 : decode cL_law_ 1284 = .ok (.iaload, 1) := by decide +kernel
theorem dL_law__1285 : decode cL_law_ 1285 = .ok (.aload_n 0, 1) := by decide +kernel
theorem dL_law__1286 : decode cL_law_ 1286 = .ok (.iload 4, 2) := by decide +kernel
theorem dL_law__1288 : decode cL_law_ 1288 = .ok (.iconst 3, 1) := by decide +kernel
theorem dL_law__1289 : decode cL_law_ 1289 = .ok (.iadd, 1) := by decide +kernel
theorem dL_law__1290 : decode cL_law_ 1290 = .ok (.iaload, 1) := by decide +kernel
theorem dL_law__1291 : decode cL_law_ 1291 = .ok (.invokestatic 191, 3) := by decide +kernel
theorem dL_law__1294 : decode cL_law_ 1294 = .ok (.istore 5, 2) := by decide +kernel
theorem dL_law__1296 : decode cL_law_ 1296 = .ok (.aload_n 2, 1) := by decide +kernel
theorem dL_law__1297 : decode cL_law_ 1297 = .ok (.aload_n 0, 1) := by decide +kernel
theorem dL_law__1298 : decode cL_law_ 1298 = .ok (.iload 4, 2) := by decide +kernel
theorem dL_law__1300 : decode cL_law_ 1300 = .ok (.iconst 1, 1) := by decide +kernel
theorem dL_law__1301 : decode cL_law_ 1301 = .ok (.iadd, 1) := by decide +kernel
theorem dL_law__1302 : decode cL_law_ 1302 = .ok (.iaload, 1) := by decide +kernel
theorem dL_law__1303 : decode cL_law_ 1303 = .ok (.aload_n 0, 1) := by decide +kernel
theorem dL_law__1304 : decode cL_law_ 1304 = .ok (.iload 4, 2) := by decide +kernel
theorem dL_law__1306 : decode cL_law_ 1306 = .ok (.iconst 2, 1) := by decide +kernel
theorem dL_law__1307 : decode cL_law_ 1307 = .ok (.iadd, 1) := by decide +kernel
theorem dL_law__1308 : decode cL_law_ 1308 = .ok (.iaload, 1) := by decide +kernel
theorem dL_law__1309 : decode cL_law_ 1309 = .ok (.aload_n 0, 1) := by decide +kernel
theorem dL_law__1310 : decode cL_law_ 1310 = .ok (.iload 4, 2) := by decide +kernel
theorem dL_law__1312 : decode cL_law_ 1312 = .ok (.iconst 3, 1) := by decide +kernel
theorem dL_law__1313 : decode cL_law_ 1313 = .ok (.iadd, 1) := by decide +kernel
theorem dL_law__1314 : decode cL_law_ 1314 = .ok (.iaload, 1) := by decide +kernel
theorem dL_law__1315 : decode cL_law_ 1315 = .ok (.invokevirtual 194, 3) := by decide +kernel
theorem dL_law__1318 : decode cL_law_ 1318 = .ok (.aload_n 2, 1) := by decide +kernel
theorem dL_law__1319 : decode cL_law_ 1319 = .ok (.invokevirtual 133, 3) := by decide +kernel
theorem dL_law__1322 : decode cL_law_ 1322 = .ok (.iload 5, 2) := by decide +kernel
theorem dL_law__1324 : decode cL_law_ 1324 = .ok (.if_icmp .eq 5, 3) := by decide +kernel
theorem dL_law__1327 : decode cL_law_ 1327 = .ok (.iconst 0, 1) := by decide +kernel
theorem dL_law__1328 : decode cL_law_ 1328 = .ok (.ireturn, 1) := by decide +kernel
theorem dL_law__1329 : decode cL_law_ 1329 = .ok (.goto 1133, 3) := by decide +kernel
theorem dL_law__1332 : decode cL_law_ 1332 = .ok (.aload_n 1, 1) := by decide +kernel
theorem dL_law__1333 : decode cL_law_ 1333 = .ok (.aload_n 0, 1) := by decide +kernel
theorem dL_law__1334 : decode cL_law_ 1334 = .ok (.iload 4, 2) := by decide +kernel
theorem dL_law__1336 : decode cL_law_ 1336 = .ok (.iconst 1, 1) := by decide +kernel
theorem dL_law__1337 : decode cL_law_ 1337 = .ok (.iadd, 1) := by decide +kernel
theorem dL_law__1338 : decode cL_law_ 1338 = .ok (.iaload, 1) := by decide +kernel
theorem dL_law__1339 : decode cL_law_ 1339 = .ok (.invokevirtual 195, 3) := by decide +kernel
theorem dL_law__1342 : decode cL_law_ 1342 = .ok (.aload_n 2, 1) := by decide +kernel
theorem dL_law__1343 : decode cL_law_ 1343 = .ok (.aload_n 0, 1) := by decide +kernel
theorem dL_law__1344 : decode cL_law_ 1344 = .ok (.iload 4, 2) := by decide +kernel
theorem dL_law__1346 : decode cL_law_ 1346 = .ok (.iconst 1, 1) := by decide +kernel
theorem dL_law__1347 : decode cL_law_ 1347 = .ok (.iadd, 1) := by decide +kernel
theorem dL_law__1348 : decode cL_law_ 1348 = .ok (.iaload, 1) := by decide +kernel
theorem dL_law__1349 : decode cL_law_ 1349 = .ok (.invokevirtual 198, 3) := by decide +kernel
theorem dL_law__1352 : decode cL_law_ 1352 = .ok (.if_icmp .eq 1110, 3) := by decide +kernel
theorem dL_law__1355 : decode cL_law_ 1355 = .ok (.iconst 0, 1) := by decide +kernel
theorem dL_law__1356 : decode cL_law_ 1356 = .ok (.ireturn, 1) := by decide +kernel
theorem dL_law__1357 : decode cL_law_ 1357 = .ok (.aload_n 1, 1) := by decide +kernel
theorem dL_law__1358 : decode cL_law_ 1358 = .ok (.aload_n 0, 1) := by decide +kernel
theorem dL_law__1359 : decode cL_law_ 1359 = .ok (.iload 4, 2) := by decide +kernel
theorem dL_law__1361 : decode cL_law_ 1361 = .ok (.iconst 1, 1) := by decide +kernel
theorem dL_law__1362 : decode cL_law_ 1362 = .ok (.iadd, 1) := by decide +kernel
theorem dL_law__1363 : decode cL_law_ 1363 = .ok (.iaload, 1) := by decide +kernel
theorem dL_law__1364 : decode cL_law_ 1364 = .ok (.aload_n 3, 1) := by decide +kernel
theorem dL_law__1365 : decode cL_law_ 1365 = .ok (.invokestatic 199, 3) := by decide +kernel
theorem dL_law__1368 : decode cL_law_ 1368 = .ok (.istore 5, 2) := by decide +kernel
theorem dL_law__1370 : decode cL_law_ 1370 = .ok (.aload_n 2, 1) := by decide +kernel
theorem dL_law__1371 : decode cL_law_ 1371 = .ok (.aload_n 0, 1) := by decide +kernel
theorem dL_law__1372 : decode cL_law_ 1372 = .ok (.iload 4, 2) := by decide +kernel
theorem dL_law__1374 : decode cL_law_ 1374 = .ok (.iconst 1, 1) := by decide +kernel
theorem dL_law__1375 : decode cL_law_ 1375 = .ok (.iadd, 1) := by decide +kernel
theorem dL_law__1376 : decode cL_law_ 1376 = .ok (.iaload, 1) := by decide +kernel
theorem dL_law__1377 : decode cL_law_ 1377 = .ok (.invokevirtual 201, 3) := by decide +kernel
theorem dL_law__1380 : decode cL_law_ 1380 = .ok (.istore 6, 2) := by decide +kernel
theorem dL_law__1382 : decode cL_law_ 1382 = .ok (.aload_n 2, 1) := by decide +kernel
theorem dL_law__1383 : decode cL_law_ 1383 = .ok (.invokevirtual 133, 3) := by decide +kernel
theorem dL_law__1386 : decode cL_law_ 1386 = .ok (.iload 5, 2) := by decide +kernel
theorem dL_law__1388 : decode cL_law_ 1388 = .ok (.if_icmp .eq 5, 3) := by decide +kernel
theorem dL_law__1391 : decode cL_law_ 1391 = .ok (.iconst 0, 1) := by decide +kernel
theorem dL_law__1392 : decode cL_law_ 1392 = .ok (.ireturn, 1) := by decide +kernel
theorem dL_law__1393 : decode cL_law_ 1393 = .ok (.iload 5, 2) := by decide +kernel
theorem dL_law__1395 : decode cL_law_ 1395 = .ok (.ifCond .ne 15, 3) := by decide +kernel
theorem dL_law__1398 : decode cL_law_ 1398 = .ok (.aload_n 3, 1) := by decide +kernel
theorem dL_law__1399 : decode cL_law_ 1399 = .ok (.iconst 0, 1) := by decide +kernel
theorem dL_law__1400 : decode cL_law_ 1400 = .ok (.laload, 1) := by decide +kernel
theorem dL_law__1401 : decode cL_law_ 1401 = .ok (.iload 6, 2) := by decide +kernel
theorem dL_law__1403 : decode cL_law_ 1403 = .ok (.i2l, 1) := by decide +kernel
theorem dL_law__1404 : decode cL_law_ 1404 = .ok (.lcmp, 1) := by decide +kernel
theorem dL_law__1405 : decode cL_law_ 1405 = .ok (.ifCond .eq 5, 3) := by decide +kernel
theorem dL_law__1408 : decode cL_law_ 1408 = .ok (.iconst 0, 1) := by decide +kernel
theorem dL_law__1409 : decode cL_law_ 1409 = .ok (.ireturn, 1) := by decide +kernel
theorem dL_law__1410 : decode cL_law_ 1410 = .ok (.goto 1052, 3) := by decide +kernel
theorem dL_law__1413 : decode cL_law_ 1413 = .ok (.aload_n 1, 1) := by decide +kernel
theorem dL_law__1414 : decode cL_law_ 1414 = .ok (.aload_n 0, 1) := by decide +kernel
theorem dL_law__1415 : decode cL_law_ 1415 = .ok (.iload 4, 2) := by decide +kernel
theorem dL_law__1417 : decode cL_law_ 1417 = .ok (.iconst 1, 1) := by decide +kernel
theorem dL_law__1418 : decode cL_law_ 1418 = .ok (.iadd, 1) := by decide +kernel
theorem dL_law__1419 : decode cL_law_ 1419 = .ok (.iaload, 1) := by decide +kernel
theorem dL_law__1420 : decode cL_law_ 1420 = .ok (.aload_n 0, 1) := by decide +kernel
theorem dL_law__1421 : decode cL_law_ 1421 = .ok (.iload 4, 2) := by decide +kernel
theorem dL_law__1423 : decode cL_law_ 1423 = .ok (.iconst 2, 1) := by decide +kernel
theorem dL_law__1424 : decode cL_law_ 1424 = .ok (.iadd, 1) := by decide +kernel
theorem dL_law__1425 : decode cL_law_ 1425 = .ok (.iaload, 1) := by decide +kernel
theorem dL_law__1426 : decode cL_law_ 1426 = .ok (.aload_n 0, 1) := by decide +kernel
theorem dL_law__1427 : decode cL_law_ 1427 = .ok (.iload 4, 2) := by decide +kernel
theorem dL_law__1429 : decode cL_law_ 1429 = .ok (.iconst 3, 1) := by decide +kernel
theorem dL_law__1430 : decode cL_law_ 1430 = .ok (.iadd, 1) := by decide +kernel
theorem dL_law__1431 : decode cL_law_ 1431 = .ok (.iaload, 1) := by decide +kernel
theorem dL_law__1432 : decode cL_law_ 1432 = .ok (.aload_n 3, 1) := by decide +kernel
theorem dL_law__1433 : decode cL_law_ 1433 = .ok (.invokestatic 202, 3) := by decide +kernel
theorem dL_law__1436 : decode cL_law_ 1436 = .ok (.istore 5, 2) := by decide +kernel
theorem dL_law__1438 : decode cL_law_ 1438 = .ok (.aload_n 2, 1) := by decide +kernel
theorem dL_law__1439 : decode cL_law_ 1439 = .ok (.aload_n 0, 1) := by decide +kernel
theorem dL_law__1440 : decode cL_law_ 1440 = .ok (.iload 4, 2) := by decide +kernel
theorem dL_law__1442 : decode cL_law_ 1442 = .ok (.iconst 1, 1) := by decide +kernel
theorem dL_law__1443 : decode cL_law_ 1443 = .ok (.iadd, 1) := by decide +kernel
theorem dL_law__1444 : decode cL_law_ 1444 = .ok (.iaload, 1) := by decide +kernel
theorem dL_law__1445 : decode cL_law_ 1445 = .ok (.aload_n 0, 1) := by decide +kernel
theorem dL_law__1446 : decode cL_law_ 1446 = .ok (.iload 4, 2) := by decide +kernel
theorem dL_law__1448 : decode cL_law_ 1448 = .ok (.iconst 2, 1) := by decide +kernel
theorem dL_law__1449 : decode cL_law_ 1449 = .ok (.iadd, 1) := by decide +kernel
theorem dL_law__1450 : decode cL_law_ 1450 = .ok (.iaload, 1) := by decide +kernel
theorem dL_law__1451 : decode cL_law_ 1451 = .ok (.aload_n 0, 1) := by decide +kernel
theorem dL_law__1452 : decode cL_law_ 1452 = .ok (.iload 4, 2) := by decide +kernel
theorem dL_law__1454 : decode cL_law_ 1454 = .ok (.iconst 3, 1) := by decide +kernel
theorem dL_law__1455 : decode cL_law_ 1455 = .ok (.iadd, 1) := by decide +kernel
theorem dL_law__1456 : decode cL_law_ 1456 = .ok (.iaload, 1) := by decide +kernel
theorem dL_law__1457 : decode cL_law_ 1457 = .ok (.invokevirtual 204, 3) := by decide +kernel
theorem dL_law__1460 : decode cL_law_ 1460 = .ok (.istore 6, 2) := by decide +kernel
theorem dL_law__1462 : decode cL_law_ 1462 = .ok (.aload_n 2, 1) := by decide +kernel
theorem dL_law__1463 : decode cL_law_ 1463 = .ok (.invokevirtual 133, 3) := by decide +kernel
theorem dL_law__1466 : decode cL_law_ 1466 = .ok (.iload 5, 2) := by decide +kernel
theorem dL_law__1468 : decode cL_law_ 1468 = .ok (.if_icmp .eq 5, 3) := by decide +kernel
theorem dL_law__1471 : decode cL_law_ 1471 = .ok (.iconst 0, 1) := by decide +kernel
theorem dL_law__1472 : decode cL_law_ 1472 = .ok (.ireturn, 1) := by decide +kernel
theorem dL_law__1473 : decode cL_law_ 1473 = .ok (.iload 5, 2) := by decide +kernel
theorem dL_law__1475 : decode cL_law_ 1475 = .ok (.ifCond .ne 15, 3) := by decide +kernel
theorem dL_law__1478 : decode cL_law_ 1478 = .ok (.aload_n 3, 1) := by decide +kernel
theorem dL_law__1479 : decode cL_law_ 1479 = .ok (.iconst 0, 1) := by decide +kernel
theorem dL_law__1480 : decode cL_law_ 1480 = .ok (.laload, 1) := by decide +kernel
theorem dL_law__1481 : decode cL_law_ 1481 = .ok (.iload 6, 2) := by decide +kernel
theorem dL_law__1483 : decode cL_law_ 1483 = .ok (.i2l, 1) := by decide +kernel
theorem dL_law__1484 : decode cL_law_ 1484 = .ok (.lcmp, 1) := by decide +kernel
theorem dL_law__1485 : decode cL_law_ 1485 = .ok (.ifCond .eq 5, 3) := by decide +kernel
theorem dL_law__1488 : decode cL_law_ 1488 = .ok (.iconst 0, 1) := by decide +kernel
theorem dL_law__1489 : decode cL_law_ 1489 = .ok (.ireturn, 1) := by decide +kernel
theorem dL_law__1490 : decode cL_law_ 1490 = .ok (.goto 972, 3) := by decide +kernel
theorem dL_law__1493 : decode cL_law_ 1493 = .ok (.aload_n 1, 1) := by decide +kernel
theorem dL_law__1494 : decode cL_law_ 1494 = .ok (.aload_n 0, 1) := by decide +kernel
theorem dL_law__1495 : decode cL_law_ 1495 = .ok (.iload 4, 2) := by decide +kernel
theorem dL_law__1497 : decode cL_law_ 1497 = .ok (.iconst 1, 1) := by decide +kernel
theorem dL_law__1498 : decode cL_law_ 1498 = .ok (.iadd, 1) := by decide +kernel
theorem dL_law__1499 : decode cL_law_ 1499 = .ok (.iaload, 1) := by decide +kernel
theorem dL_law__1500 : decode cL_law_ 1500 = .ok (.aload_n 0, 1) := by decide +kernel
theorem dL_law__1501 : decode cL_law_ 1501 = .ok (.iload 4, 2) := by decide +kernel
theorem dL_law__1503 : decode cL_law_ 1503 = .ok (.iconst 2, 1) := by decide +kernel
theorem dL_law__1504 : decode cL_law_ 1504 = .ok (.iadd, 1) := by decide +kernel
theorem dL_law__1505 : decode cL_law_ 1505 = .ok (.iaload, 1) := by decide +kernel
theorem dL_law__1506 : decode cL_law_ 1506 = .ok (.aload_n 3, 1) := by decide +kernel
theorem dL_law__1507 : decode cL_law_ 1507 = .ok (.invokestatic 205, 3) := by decide +kernel
theorem dL_law__1510 : decode cL_law_ 1510 = .ok (.istore 5, 2) := by decide +kernel
theorem dL_law__1512 : decode cL_law_ 1512 = .ok (.aload_n 2, 1) := by decide +kernel
theorem dL_law__1513 : decode cL_law_ 1513 = .ok (.aload_n 0, 1) := by decide +kernel
theorem dL_law__1514 : decode cL_law_ 1514 = .ok (.iload 4, 2) := by decide +kernel
theorem dL_law__1516 : decode cL_law_ 1516 = .ok (.iconst 1, 1) := by decide +kernel
theorem dL_law__1517 : decode cL_law_ 1517 = .ok (.iadd, 1) := by decide +kernel
theorem dL_law__1518 : decode cL_law_ 1518 = .ok (.iaload, 1) := by decide +kernel
theorem dL_law__1519 : decode cL_law_ 1519 = .ok (.aload_n 0, 1) := by decide +kernel
theorem dL_law__1520 : decode cL_law_ 1520 = .ok (.iload 4, 2) := by decide +kernel
theorem dL_law__1522 : decode cL_law_ 1522 = .ok (.iconst 2, 1) := by decide +kernel
theorem dL_law__1523 : decode cL_law_ 1523 = .ok (.iadd, 1) := by decide +kernel
theorem dL_law__1524 : decode cL_law_ 1524 = .ok (.iaload, 1) := by decide +kernel
theorem dL_law__1525 : decode cL_law_ 1525 = .ok (.invokevirtual 207, 3) := by decide +kernel
theorem dL_law__1528 : decode cL_law_ 1528 = .ok (.istore 6, 2) := by decide +kernel
theorem dL_law__1530 : decode cL_law_ 1530 = .ok (.aload_n 2, 1) := by decide +kernel
theorem dL_law__1531 : decode cL_law_ 1531 = .ok (.invokevirtual 133, 3) := by decide +kernel
theorem dL_law__1534 : decode cL_law_ 1534 = .ok (.iload 5, 2) := by decide +kernel
theorem dL_law__1536 : decode cL_law_ 1536 = .ok (.if_icmp .eq 5, 3) := by decide +kernel
theorem dL_law__1539 : decode cL_law_ 1539 = .ok (.iconst 0, 1) := by decide +kernel
theorem dL_law__1540 : decode cL_law_ 1540 = .ok (.ireturn, 1) := by decide +kernel
theorem dL_law__1541 : decode cL_law_ 1541 = .ok (.iload 5, 2) := by decide +kernel
theorem dL_law__1543 : decode cL_law_ 1543 = .ok (.ifCond .ne 15, 3) := by decide +kernel
theorem dL_law__1546 : decode cL_law_ 1546 = .ok (.aload_n 3, 1) := by decide +kernel
theorem dL_law__1547 : decode cL_law_ 1547 = .ok (.iconst 0, 1) := by decide +kernel
theorem dL_law__1548 : decode cL_law_ 1548 = .ok (.laload, 1) := by decide +kernel
theorem dL_law__1549 : decode cL_law_ 1549 = .ok (.iload 6, 2) := by decide +kernel
theorem dL_law__1551 : decode cL_law_ 1551 = .ok (.i2l, 1) := by decide +kernel
theorem dL_law__1552 : decode cL_law_ 1552 = .ok (.lcmp, 1) := by decide +kernel
theorem dL_law__1553 : decode cL_law_ 1553 = .ok (.ifCond .eq 5, 3) := by decide +kernel
theorem dL_law__1556 : decode cL_law_ 1556 = .ok (.iconst 0, 1) := by decide +kernel
theorem dL_law__1557 : decode cL_law_ 1557 = .ok (.ireturn, 1) := by decide +kernel
theorem dL_law__1558 : decode cL_law_ 1558 = .ok (.goto 904, 3) := by decide +kernel
theorem dL_law__1561 : decode cL_law_ 1561 = .ok (.aload_n 1, 1) := by decide +kernel
theorem dL_law__1562 : decode cL_law_ 1562 = .ok (.aload_n 0, 1) := by decide +kernel
theorem dL_law__1563 : decode cL_law_ 1563 = .ok (.iload 4, 2) := by decide +kernel
theorem dL_law__1565 : decode cL_law_ 1565 = .ok (.iconst 1, 1) := by decide +kernel
theorem dL_law__1566 : decode cL_law_ 1566 = .ok (.iadd, 1) := by decide +kernel
theorem dL_law__1567 : decode cL_law_ 1567 = .ok (.iaload, 1) := by decide +kernel
theorem dL_law__1568 : decode cL_law_ 1568 = .ok (.aload_n 0, 1) := by decide +kernel
theorem dL_law__1569 : decode cL_law_ 1569 = .ok (.iload 4, 2) := by decide +kernel
theorem dL_law__1571 : decode cL_law_ 1571 = .ok (.iconst 2, 1) := by decide +kernel
theorem dL_law__1572 : decode cL_law_ 1572 = .ok (.iadd, 1) := by decide +kernel
theorem dL_law__1573 : decode cL_law_ 1573 = .ok (.iaload, 1) := by decide +kernel
theorem dL_law__1574 : decode cL_law_ 1574 = .ok (.aload_n 3, 1) := by decide +kernel
theorem dL_law__1575 : decode cL_law_ 1575 = .ok (.invokestatic 208, 3) := by decide +kernel
theorem dL_law__1578 : decode cL_law_ 1578 = .ok (.istore 5, 2) := by decide +kernel
theorem dL_law__1580 : decode cL_law_ 1580 = .ok (.aload_n 2, 1) := by decide +kernel
theorem dL_law__1581 : decode cL_law_ 1581 = .ok (.aload_n 0, 1) := by decide +kernel
theorem dL_law__1582 : decode cL_law_ 1582 = .ok (.iload 4, 2) := by decide +kernel
theorem dL_law__1584 : decode cL_law_ 1584 = .ok (.iconst 1, 1) := by decide +kernel
theorem dL_law__1585 : decode cL_law_ 1585 = .ok (.iadd, 1) := by decide +kernel
theorem dL_law__1586 : decode cL_law_ 1586 = .ok (.iaload, 1) := by decide +kernel
theorem dL_law__1587 : decode cL_law_ 1587 = .ok (.aload_n 0, 1) := by decide +kernel
theorem dL_law__1588 : decode cL_law_ 1588 = .ok (.iload 4, 2) := by decide +kernel
theorem dL_law__1590 : decode cL_law_ 1590 = .ok (.iconst 2, 1) := by decide +kernel
theorem dL_law__1591 : decode cL_law_ 1591 = .ok (.iadd, 1) := by decide +kernel
theorem dL_law__1592 : decode cL_law_ 1592 = .ok (.iaload, 1) := by decide +kernel
theorem dL_law__1593 : decode cL_law_ 1593 = .ok (.invokevirtual 210, 3) := by decide +kernel
theorem dL_law__1596 : decode cL_law_ 1596 = .ok (.istore 6, 2) := by decide +kernel
theorem dL_law__1598 : decode cL_law_ 1598 = .ok (.aload_n 2, 1) := by decide +kernel
theorem dL_law__1599 : decode cL_law_ 1599 = .ok (.invokevirtual 133, 3) := by decide +kernel
theorem dL_law__1602 : decode cL_law_ 1602 = .ok (.iload 5, 2) := by decide +kernel
theorem dL_law__1604 : decode cL_law_ 1604 = .ok (.if_icmp .eq 5, 3) := by decide +kernel
theorem dL_law__1607 : decode cL_law_ 1607 = .ok (.iconst 0, 1) := by decide +kernel
theorem dL_law__1608 : decode cL_law_ 1608 = .ok (.ireturn, 1) := by decide +kernel
theorem dL_law__1609 : decode cL_law_ 1609 = .ok (.iload 5, 2) := by decide +kernel
theorem dL_law__1611 : decode cL_law_ 1611 = .ok (.ifCond .ne 15, 3) := by decide +kernel
theorem dL_law__1614 : decode cL_law_ 1614 = .ok (.aload_n 3, 1) := by decide +kernel
theorem dL_law__1615 : decode cL_law_ 1615 = .ok (.iconst 0, 1) := by decide +kernel
theorem dL_law__1616 : decode cL_law_ 1616 = .ok (.laload, 1) := by decide +kernel
theorem dL_law__1617 : decode cL_law_ 1617 = .ok (.iload 6, 2) := by decide +kernel
theorem dL_law__1619 : decode cL_law_ 1619 = .ok (.i2l, 1) := by decide +kernel
theorem dL_law__1620 : decode cL_law_ 1620 = .ok (.lcmp, 1) := by decide +kernel
theorem dL_law__1621 : decode cL_law_ 1621 = .ok (.ifCond .eq 5, 3) := by decide +kernel
theorem dL_law__1624 : decode cL_law_ 1624 = .ok (.iconst 0, 1) := by decide +kernel
theorem dL_law__1625 : decode cL_law_ 1625 = .ok (.ireturn, 1) := by decide +kernel
theorem dL_law__1626 : decode cL_law_ 1626 = .ok (.goto 836, 3) := by decide +kernel
theorem dL_law__1629 : decode cL_law_ 1629 = .ok (.aload_n 1, 1) := by decide +kernel
theorem dL_law__1630 : decode cL_law_ 1630 = .ok (.aload_n 0, 1) := by decide +kernel
theorem dL_law__1631 : decode cL_law_ 1631 = .ok (.iload 4, 2) := by decide +kernel
theorem dL_law__1633 : decode cL_law_ 1633 = .ok (.iconst 1, 1) := by decide +kernel
theorem dL_law__1634 : decode cL_law_ 1634 = .ok (.iadd, 1) := by decide +kernel
theorem dL_law__1635 : decode cL_law_ 1635 = .ok (.iaload, 1) := by decide +kernel
theorem dL_law__1636 : decode cL_law_ 1636 = .ok (.aload_n 0, 1) := by decide +kernel
theorem dL_law__1637 : decode cL_law_ 1637 = .ok (.iload 4, 2) := by decide +kernel
theorem dL_law__1639 : decode cL_law_ 1639 = .ok (.iconst 2, 1) := by decide +kernel
theorem dL_law__1640 : decode cL_law_ 1640 = .ok (.iadd, 1) := by decide +kernel
theorem dL_law__1641 : decode cL_law_ 1641 = .ok (.iaload, 1) := by decide +kernel
theorem dL_law__1642 : decode cL_law_ 1642 = .ok (.aload_n 0, 1) := by decide +kernel
theorem dL_law__1643 : decode cL_law_ 1643 = .ok (.iload 4, 2) := by decide +kernel
theorem dL_law__1645 : decode cL_law_ 1645 = .ok (.iconst 3, 1) := by decide +kernel
theorem dL_law__1646 : decode cL_law_ 1646 = .ok (.iadd, 1) := by decide +kernel
theorem dL_law__1647 : decode cL_law_ 1647 = .ok (.iaload, 1) := by decide +kernel
theorem dL_law__1648 : decode cL_law_ 1648 = .ok (.aload_n 3, 1) := by decide +kernel
theorem dL_law__1649 : decode cL_law_ 1649 = .ok (.invokestatic 211, 3) := by decide +kernel
theorem dL_law__1652 : decode cL_law_ 1652 = .ok (.istore 5, 2) := by decide +kernel
theorem dL_law__1654 : decode cL_law_ 1654 = .ok (.aload_n 2, 1) := by decide +kernel
theorem dL_law__1655 : decode cL_law_ 1655 = .ok (.aload_n 0, 1) := by decide +kernel
theorem dL_law__1656 : decode cL_law_ 1656 = .ok (.iload 4, 2) := by decide +kernel
theorem dL_law__1658 : decode cL_law_ 1658 = .ok (.iconst 1, 1) := by decide +kernel
theorem dL_law__1659 : decode cL_law_ 1659 = .ok (.iadd, 1) := by decide +kernel
theorem dL_law__1660 : decode cL_law_ 1660 = .ok (.iaload, 1) := by decide +kernel
theorem dL_law__1661 : decode cL_law_ 1661 = .ok (.aload_n 0, 1) := by decide +kernel
theorem dL_law__1662 : decode cL_law_ 1662 = .ok (.iload 4, 2) := by decide +kernel
theorem dL_law__1664 : decode cL_law_ 1664 = .ok (.iconst 2, 1) := by decide +kernel
theorem dL_law__1665 : decode cL_law_ 1665 = .ok (.iadd, 1) := by decide +kernel
theorem dL_law__1666 : decode cL_law_ 1666 = .ok (.iaload, 1) := by decide +kernel
theorem dL_law__1667 : decode cL_law_ 1667 = .ok (.aload_n 0, 1) := by decide +kernel
theorem dL_law__1668 : decode cL_law_ 1668 = .ok (.iload 4, 2) := by decide +kernel
theorem dL_law__1670 : decode cL_law_ 1670 = .ok (.iconst 3, 1) := by decide +kernel
theorem dL_law__1671 : decode cL_law_ 1671 = .ok (.iadd, 1) := by decide +kernel
theorem dL_law__1672 : decode cL_law_ 1672 = .ok (.iaload, 1) := by decide +kernel
theorem dL_law__1673 : decode cL_law_ 1673 = .ok (.invokevirtual 213, 3) := by decide +kernel
theorem dL_law__1676 : decode cL_law_ 1676 = .ok (.istore 6, 2) := by decide +kernel
theorem dL_law__1678 : decode cL_law_ 1678 = .ok (.aload_n 2, 1) := by decide +kernel
theorem dL_law__1679 : decode cL_law_ 1679 = .ok (.invokevirtual 133, 3) := by decide +kernel
theorem dL_law__1682 : decode cL_law_ 1682 = .ok (.iload 5, 2) := by decide +kernel
theorem dL_law__1684 : decode cL_law_ 1684 = .ok (.if_icmp .eq 5, 3) := by decide +kernel
theorem dL_law__1687 : decode cL_law_ 1687 = .ok (.iconst 0, 1) := by decide +kernel
theorem dL_law__1688 : decode cL_law_ 1688 = .ok (.ireturn, 1) := by decide +kernel
theorem dL_law__1689 : decode cL_law_ 1689 = .ok (.iload 5, 2) := by decide +kernel
theorem dL_law__1691 : decode cL_law_ 1691 = .ok (.ifCond .ne 15, 3) := by decide +kernel
theorem dL_law__1694 : decode cL_law_ 1694 = .ok (.aload_n 3, 1) := by decide +kernel
theorem dL_law__1695 : decode cL_law_ 1695 = .ok (.iconst 0, 1) := by decide +kernel
theorem dL_law__1696 : decode cL_law_ 1696 = .ok (.laload, 1) := by decide +kernel
theorem dL_law__1697 : decode cL_law_ 1697 = .ok (.iload 6, 2) := by decide +kernel
theorem dL_law__1699 : decode cL_law_ 1699 = .ok (.i2l, 1) := by decide +kernel
theorem dL_law__1700 : decode cL_law_ 1700 = .ok (.lcmp, 1) := by decide +kernel
theorem dL_law__1701 : decode cL_law_ 1701 = .ok (.ifCond .eq 5, 3) := by decide +kernel
theorem dL_law__1704 : decode cL_law_ 1704 = .ok (.iconst 0, 1) := by decide +kernel
theorem dL_law__1705 : decode cL_law_ 1705 = .ok (.ireturn, 1) := by decide +kernel
theorem dL_law__1706 : decode cL_law_ 1706 = .ok (.goto 756, 3) := by decide +kernel
theorem dL_law__1709 : decode cL_law_ 1709 = .ok (.aload_n 1, 1) := by decide +kernel
theorem dL_law__1710 : decode cL_law_ 1710 = .ok (.aload_n 0, 1) := by decide +kernel
theorem dL_law__1711 : decode cL_law_ 1711 = .ok (.iload 4, 2) := by decide +kernel
theorem dL_law__1713 : decode cL_law_ 1713 = .ok (.iconst 1, 1) := by decide +kernel
theorem dL_law__1714 : decode cL_law_ 1714 = .ok (.iadd, 1) := by decide +kernel
theorem dL_law__1715 : decode cL_law_ 1715 = .ok (.iaload, 1) := by decide +kernel
theorem dL_law__1716 : decode cL_law_ 1716 = .ok (.aload_n 0, 1) := by decide +kernel
theorem dL_law__1717 : decode cL_law_ 1717 = .ok (.iload 4, 2) := by decide +kernel
theorem dL_law__1719 : decode cL_law_ 1719 = .ok (.iconst 2, 1) := by decide +kernel
theorem dL_law__1720 : decode cL_law_ 1720 = .ok (.iadd, 1) := by decide +kernel
theorem dL_law__1721 : decode cL_law_ 1721 = .ok (.iaload, 1) := by decide +kernel
theorem dL_law__1722 : decode cL_law_ 1722 = .ok (.aload_n 0, 1) := by decide +kernel
theorem dL_law__1723 : decode cL_law_ 1723 = .ok (.iload 4, 2) := by decide +kernel
theorem dL_law__1725 : decode cL_law_ 1725 = .ok (.iconst 3, 1) := by decide +kernel
theorem dL_law__1726 : decode cL_law_ 1726 = .ok (.iadd, 1) := by decide +kernel
theorem dL_law__1727 : decode cL_law_ 1727 = .ok (.iaload, 1) := by decide +kernel
theorem dL_law__1728 : decode cL_law_ 1728 = .ok (.ifCond .eq 7, 3) := by decide +kernel
theorem dL_law__1731 : decode cL_law_ 1731 = .ok (.iconst 1, 1) := by decide +kernel
theorem dL_law__1732 : decode cL_law_ 1732 = .ok (.goto 4, 3) := by decide +kernel
theorem dL_law__1735 : decode cL_law_ 1735 = .ok (.iconst 0, 1) := by decide +kernel
theorem dL_law__1736 : decode cL_law_ 1736 = .ok (.aload_n 3, 1) := by decide +kernel
theorem dL_law__1737 : decode cL_law_ 1737 = .ok (.invokestatic 214, 3) := by decide +kernel
theorem dL_law__1740 : decode cL_law_ 1740 = .ok (.istore 5, 2) := by decide +kernel
theorem dL_law__1742 : decode cL_law_ 1742 = .ok (.aload_n 2, 1) := by decide +kernel
theorem dL_law__1743 : decode cL_law_ 1743 = .ok (.aload_n 0, 1) := by decide +kernel
theorem dL_law__1744 : decode cL_law_ 1744 = .ok (.iload 4, 2) := by decide +kernel
theorem dL_law__1746 : decode cL_law_ 1746 = .ok (.iconst 1, 1) := by decide +kernel
theorem dL_law__1747 : decode cL_law_ 1747 = .ok (.iadd, 1) := by decide +kernel
theorem dL_law__1748 : decode cL_law_ 1748 = .ok (.iaload, 1) := by decide +kernel
theorem dL_law__1749 : decode cL_law_ 1749 = .ok (.aload_n 0, 1) := by decide +kernel
theorem dL_law__1750 : decode cL_law_ 1750 = .ok (.iload 4, 2) := by decide +kernel
theorem dL_law__1752 : decode cL_law_ 1752 = .ok (.iconst 2, 1) := by decide +kernel
theorem dL_law__1753 : decode cL_law_ 1753 = .ok (.iadd, 1) := by decide +kernel
theorem dL_law__1754 : decode cL_law_ 1754 = .ok (.iaload, 1) := by decide +kernel
theorem dL_law__1755 : decode cL_law_ 1755 = .ok (.aload_n 0, 1) := by decide +kernel
theorem dL_law__1756 : decode cL_law_ 1756 = .ok (.iload 4, 2) := by decide +kernel
theorem dL_law__1758 : decode cL_law_ 1758 = .ok (.iconst 3, 1) := by decide +kernel
theorem dL_law__1759 : decode cL_law_ 1759 = .ok (.iadd, 1) := by decide +kernel
theorem dL_law__1760 : decode cL_law_ 1760 = .ok (.iaload, 1) := by decide +kernel
theorem dL_law__1761 : decode cL_law_ 1761 = .ok (.ifCond .eq 7, 3) := by decide +kernel
theorem dL_law__1764 : decode cL_law_ 1764 = .ok (.iconst 1, 1) := by decide +kernel
theorem dL_law__1765 : decode cL_law_ 1765 = .ok (.goto 4, 3) := by decide +kernel
theorem dL_law__1768 : decode cL_law_ 1768 = .ok (.iconst 0, 1) := by decide +kernel
theorem dL_law__1769 : decode cL_law_ 1769 = .ok (.invokevirtual 217, 3) := by decide +kernel
theorem dL_law__1772 : decode cL_law_ 1772 = .ok (.istore 6, 2) := by decide +kernel
theorem dL_law__1774 : decode cL_law_ 1774 = .ok (.aload_n 2, 1) := by decide +kernel
theorem dL_law__1775 : decode cL_law_ 1775 = .ok (.invokevirtual 133, 3) := by decide +kernel
theorem dL_law__1778 : decode cL_law_ 1778 = .ok (.iload 5, 2) := by decide +kernel
theorem dL_law__1780 : decode cL_law_ 1780 = .ok (.if_icmp .eq 5, 3) := by decide +kernel
theorem dL_law__1783 : decode cL_law_ 1783 = .ok (.iconst 0, 1) := by decide +kernel
theorem dL_law__1784 : decode cL_law_ 1784 = .ok (.ireturn, 1) := by decide +kernel
theorem dL_law__1785 : decode cL_law_ 1785 = .ok (.iload 5, 2) := by decide +kernel
theorem dL_law__1787 : decode cL_law_ 1787 = .ok (.ifCond .ne 15, 3) := by decide +kernel
theorem dL_law__1790 : decode cL_law_ 1790 = .ok (.aload_n 3, 1) := by decide +kernel
theorem dL_law__1791 : decode cL_law_ 1791 = .ok (.iconst 0, 1) := by decide +kernel
theorem dL_law__1792 : decode cL_law_ 1792 = .ok (.laload, 1) := by decide +kernel
theorem dL_law__1793 : decode cL_law_ 1793 = .ok (.iload 6, 2) := by decide +kernel
theorem dL_law__1795 : decode cL_law_ 1795 = .ok (.i2l, 1) := by decide +kernel
theorem dL_law__1796 : decode cL_law_ 1796 = .ok (.lcmp, 1) := by decide +kernel
theorem dL_law__1797 : decode cL_law_ 1797 = .ok (.ifCond .eq 5, 3) := by decide +kernel
theorem dL_law__1800 : decode cL_law_ 1800 = .ok (.iconst 0, 1) := by decide +kernel
theorem dL_law__1801 : decode cL_law_ 1801 = .ok (.ireturn, 1) := by decide +kernel
theorem dL_law__1802 : decode cL_law_ 1802 = .ok (.goto 660, 3) := by decide +kernel
theorem dL_law__1805 : decode cL_law_ 1805 = .ok (.aload_n 1, 1) := by decide +kernel
theorem dL_law__1806 : decode cL_law_ 1806 = .ok (.aload_n 0, 1) := by decide +kernel
theorem dL_law__1807 : decode cL_law_ 1807 = .ok (.iload 4, 2) := by decide +kernel
theorem dL_law__1809 : decode cL_law_ 1809 = .ok (.iconst 1, 1) := by decide +kernel
theorem dL_law__1810 : decode cL_law_ 1810 = .ok (.iadd, 1) := by decide +kernel
theorem dL_law__1811 : decode cL_law_ 1811 = .ok (.iaload, 1) := by decide +kernel
theorem dL_law__1812 : decode cL_law_ 1812 = .ok (.aload_n 3, 1) := by decide +kernel
theorem dL_law__1813 : decode cL_law_ 1813 = .ok (.invokestatic 218, 3) := by decide +kernel
theorem dL_law__1816 : decode cL_law_ 1816 = .ok (.istore 5, 2) := by decide +kernel
theorem dL_law__1818 : decode cL_law_ 1818 = .ok (.aload_n 2, 1) := by decide +kernel
theorem dL_law__1819 : decode cL_law_ 1819 = .ok (.aload_n 0, 1) := by decide +kernel
theorem dL_law__1820 : decode cL_law_ 1820 = .ok (.iload 4, 2) := by decide +kernel
theorem dL_law__1822 : decode cL_law_ 1822 = .ok (.iconst 1, 1) := by decide +kernel
theorem dL_law__1823 : decode cL_law_ 1823 = .ok (.iadd, 1) := by decide +kernel
theorem dL_law__1824 : decode cL_law_ 1824 = .ok (.iaload, 1) := by decide +kernel
theorem dL_law__1825 : decode cL_law_ 1825 = .ok (.invokevirtual 220, 3) := by decide +kernel
theorem dL_law__1828 : decode cL_law_ 1828 = .ok (.istore 6, 2) := by decide +kernel
theorem dL_law__1830 : decode cL_law_ 1830 = .ok (.aload_n 2, 1) := by decide +kernel
theorem dL_law__1831 : decode cL_law_ 1831 = .ok (.invokevirtual 133, 3) := by decide +kernel
theorem dL_law__1834 : decode cL_law_ 1834 = .ok (.iload 5, 2) := by decide +kernel
theorem dL_law__1836 : decode cL_law_ 1836 = .ok (.if_icmp .eq 5, 3) := by decide +kernel
theorem dL_law__1839 : decode cL_law_ 1839 = .ok (.iconst 0, 1) := by decide +kernel
theorem dL_law__1840 : decode cL_law_ 1840 = .ok (.ireturn, 1) := by decide +kernel
theorem dL_law__1841 : decode cL_law_ 1841 = .ok (.iload 5, 2) := by decide +kernel
theorem dL_law__1843 : decode cL_law_ 1843 = .ok (.ifCond .ne 15, 3) := by decide +kernel
theorem dL_law__1846 : decode cL_law_ 1846 = .ok (.aload_n 3, 1) := by decide +kernel
theorem dL_law__1847 : decode cL_law_ 1847 = .ok (.iconst 0, 1) := by decide +kernel
theorem dL_law__1848 : decode cL_law_ 1848 = .ok (.laload, 1) := by decide +kernel
theorem dL_law__1849 : decode cL_law_ 1849 = .ok (.iload 6, 2) := by decide +kernel
theorem dL_law__1851 : decode cL_law_ 1851 = .ok (.i2l, 1) := by decide +kernel
theorem dL_law__1852 : decode cL_law_ 1852 = .ok (.lcmp, 1) := by decide +kernel
theorem dL_law__1853 : decode cL_law_ 1853 = .ok (.ifCond .eq 5, 3) := by decide +kernel
theorem dL_law__1856 : decode cL_law_ 1856 = .ok (.iconst 0, 1) := by decide +kernel
theorem dL_law__1857 : decode cL_law_ 1857 = .ok (.ireturn, 1) := by decide +kernel
theorem dL_law__1858 : decode cL_law_ 1858 = .ok (.goto 604, 3) := by decide +kernel
theorem dL_law__1861 : decode cL_law_ 1861 = .ok (.aload_n 1, 1) := by decide +kernel
theorem dL_law__1862 : decode cL_law_ 1862 = .ok (.aload_n 0, 1) := by decide +kernel
theorem dL_law__1863 : decode cL_law_ 1863 = .ok (.iload 4, 2) := by decide +kernel
theorem dL_law__1865 : decode cL_law_ 1865 = .ok (.iconst 1, 1) := by decide +kernel
theorem dL_law__1866 : decode cL_law_ 1866 = .ok (.iadd, 1) := by decide +kernel
theorem dL_law__1867 : decode cL_law_ 1867 = .ok (.iaload, 1) := by decide +kernel
theorem dL_law__1868 : decode cL_law_ 1868 = .ok (.aload_n 0, 1) := by decide +kernel
theorem dL_law__1869 : decode cL_law_ 1869 = .ok (.iload 4, 2) := by decide +kernel
theorem dL_law__1871 : decode cL_law_ 1871 = .ok (.iconst 2, 1) := by decide +kernel
theorem dL_law__1872 : decode cL_law_ 1872 = .ok (.iadd, 1) := by decide +kernel
theorem dL_law__1873 : decode cL_law_ 1873 = .ok (.iaload, 1) := by decide +kernel
theorem dL_law__1874 : decode cL_law_ 1874 = .ok (.aload_n 0, 1) := by decide +kernel
theorem dL_law__1875 : decode cL_law_ 1875 = .ok (.iload 4, 2) := by decide +kernel
theorem dL_law__1877 : decode cL_law_ 1877 = .ok (.iconst 3, 1) := by decide +kernel
theorem dL_law__1878 : decode cL_law_ 1878 = .ok (.iadd, 1) := by decide +kernel
theorem dL_law__1879 : decode cL_law_ 1879 = .ok (.iaload, 1) := by decide +kernel
theorem dL_law__1880 : decode cL_law_ 1880 = .ok (.aload_n 3, 1) := by decide +kernel
theorem dL_law__1881 : decode cL_law_ 1881 = .ok (.invokestatic 221, 3) := by decide +kernel
theorem dL_law__1884 : decode cL_law_ 1884 = .ok (.istore 5, 2) := by decide +kernel
theorem dL_law__1886 : decode cL_law_ 1886 = .ok (.aload_n 2, 1) := by decide +kernel
theorem dL_law__1887 : decode cL_law_ 1887 = .ok (.aload_n 0, 1) := by decide +kernel
theorem dL_law__1888 : decode cL_law_ 1888 = .ok (.iload 4, 2) := by decide +kernel
theorem dL_law__1890 : decode cL_law_ 1890 = .ok (.iconst 1, 1) := by decide +kernel
theorem dL_law__1891 : decode cL_law_ 1891 = .ok (.iadd, 1) := by decide +kernel
theorem dL_law__1892 : decode cL_law_ 1892 = .ok (.iaload, 1) := by decide +kernel
theorem dL_law__1893 : decode cL_law_ 1893 = .ok (.aload_n 0, 1) := by decide +kernel
theorem dL_law__1894 : decode cL_law_ 1894 = .ok (.iload 4, 2) := by decide +kernel
theorem dL_law__1896 : decode cL_law_ 1896 = .ok (.iconst 2, 1) := by decide +kernel
theorem dL_law__1897 : decode cL_law_ 1897 = .ok (.iadd, 1) := by decide +kernel
theorem dL_law__1898 : decode cL_law_ 1898 = .ok (.iaload, 1) := by decide +kernel
theorem dL_law__1899 : decode cL_law_ 1899 = .ok (.aload_n 0, 1) := by decide +kernel
theorem dL_law__1900 : decode cL_law_ 1900 = .ok (.iload 4, 2) := by decide +kernel
theorem dL_law__1902 : decode cL_law_ 1902 = .ok (.iconst 3, 1) := by decide +kernel
theorem dL_law__1903 : decode cL_law_ 1903 = .ok (.iadd, 1) := by decide +kernel
theorem dL_law__1904 : decode cL_law_ 1904 = .ok (.iaload, 1) := by decide +kernel
theorem dL_law__1905 : decode cL_law_ 1905 = .ok (.invokevirtual 223, 3) := by decide +kernel
theorem dL_law__1908 : decode cL_law_ 1908 = .ok (.istore 6, 2) := by decide +kernel
theorem dL_law__1910 : decode cL_law_ 1910 = .ok (.aload_n 2, 1) := by decide +kernel
theorem dL_law__1911 : decode cL_law_ 1911 = .ok (.invokevirtual 133, 3) := by decide +kernel
theorem dL_law__1914 : decode cL_law_ 1914 = .ok (.iload 5, 2) := by decide +kernel
theorem dL_law__1916 : decode cL_law_ 1916 = .ok (.if_icmp .eq 5, 3) := by decide +kernel
theorem dL_law__1919 : decode cL_law_ 1919 = .ok (.iconst 0, 1) := by decide +kernel
theorem dL_law__1920 : decode cL_law_ 1920 = .ok (.ireturn, 1) := by decide +kernel
theorem dL_law__1921 : decode cL_law_ 1921 = .ok (.iload 5, 2) := by decide +kernel
theorem dL_law__1923 : decode cL_law_ 1923 = .ok (.ifCond .ne 15, 3) := by decide +kernel
theorem dL_law__1926 : decode cL_law_ 1926 = .ok (.aload_n 3, 1) := by decide +kernel
theorem dL_law__1927 : decode cL_law_ 1927 = .ok (.iconst 0, 1) := by decide +kernel
theorem dL_law__1928 : decode cL_law_ 1928 = .ok (.laload, 1) := by decide +kernel
theorem dL_law__1929 : decode cL_law_ 1929 = .ok (.iload 6, 2) := by decide +kernel
theorem dL_law__1931 : decode cL_law_ 1931 = .ok (.i2l, 1) := by decide +kernel
theorem dL_law__1932 : decode cL_law_ 1932 = .ok (.lcmp, 1) := by decide +kernel
theorem dL_law__1933 : decode cL_law_ 1933 = .ok (.ifCond .eq 5, 3) := by decide +kernel
theorem dL_law__1936 : decode cL_law_ 1936 = .ok (.iconst 0, 1) := by decide +kernel
theorem dL_law__1937 : decode cL_law_ 1937 = .ok (.ireturn, 1) := by decide +kernel
theorem dL_law__1938 : decode cL_law_ 1938 = .ok (.goto 524, 3) := by decide +kernel
theorem dL_law__1941 : decode cL_law_ 1941 = .ok (.aload_n 1, 1) := by decide +kernel
theorem dL_law__1942 : decode cL_law_ 1942 = .ok (.aload_n 0, 1) := by decide +kernel
theorem dL_law__1943 : decode cL_law_ 1943 = .ok (.iload 4, 2) := by decide +kernel
theorem dL_law__1945 : decode cL_law_ 1945 = .ok (.iconst 1, 1) := by decide +kernel
theorem dL_law__1946 : decode cL_law_ 1946 = .ok (.iadd, 1) := by decide +kernel
theorem dL_law__1947 : decode cL_law_ 1947 = .ok (.iaload, 1) := by decide +kernel
theorem dL_law__1948 : decode cL_law_ 1948 = .ok (.aload_n 0, 1) := by decide +kernel
theorem dL_law__1949 : decode cL_law_ 1949 = .ok (.iload 4, 2) := by decide +kernel
theorem dL_law__1951 : decode cL_law_ 1951 = .ok (.iconst 2, 1) := by decide +kernel
theorem dL_law__1952 : decode cL_law_ 1952 = .ok (.iadd, 1) := by decide +kernel
theorem dL_law__1953 : decode cL_law_ 1953 = .ok (.iaload, 1) := by decide +kernel
theorem dL_law__1954 : decode cL_law_ 1954 = .ok (.aload_n 3, 1) := by decide +kernel
theorem dL_law__1955 : decode cL_law_ 1955 = .ok (.invokestatic 224, 3) := by decide +kernel
theorem dL_law__1958 : decode cL_law_ 1958 = .ok (.istore 5, 2) := by decide +kernel
theorem dL_law__1960 : decode cL_law_ 1960 = .ok (.aload_n 2, 1) := by decide +kernel
theorem dL_law__1961 : decode cL_law_ 1961 = .ok (.aload_n 0, 1) := by decide +kernel
theorem dL_law__1962 : decode cL_law_ 1962 = .ok (.iload 4, 2) := by decide +kernel
theorem dL_law__1964 : decode cL_law_ 1964 = .ok (.iconst 1, 1) := by decide +kernel
theorem dL_law__1965 : decode cL_law_ 1965 = .ok (.iadd, 1) := by decide +kernel
theorem dL_law__1966 : decode cL_law_ 1966 = .ok (.iaload, 1) := by decide +kernel
theorem dL_law__1967 : decode cL_law_ 1967 = .ok (.aload_n 0, 1) := by decide +kernel
theorem dL_law__1968 : decode cL_law_ 1968 = .ok (.iload 4, 2) := by decide +kernel
theorem dL_law__1970 : decode cL_law_ 1970 = .ok (.iconst 2, 1) := by decide +kernel
theorem dL_law__1971 : decode cL_law_ 1971 = .ok (.iadd, 1) := by decide +kernel
theorem dL_law__1972 : decode cL_law_ 1972 = .ok (.iaload, 1) := by decide +kernel
theorem dL_law__1973 : decode cL_law_ 1973 = .ok (.invokevirtual 226, 3) := by decide +kernel
theorem dL_law__1976 : decode cL_law_ 1976 = .ok (.istore 6, 2) := by decide +kernel
theorem dL_law__1978 : decode cL_law_ 1978 = .ok (.aload_n 2, 1) := by decide +kernel
theorem dL_law__1979 : decode cL_law_ 1979 = .ok (.invokevirtual 133, 3) := by decide +kernel
theorem dL_law__1982 : decode cL_law_ 1982 = .ok (.iload 5, 2) := by decide +kernel
theorem dL_law__1984 : decode cL_law_ 1984 = .ok (.if_icmp .eq 5, 3) := by decide +kernel
theorem dL_law__1987 : decode cL_law_ 1987 = .ok (.iconst 0, 1) := by decide +kernel
theorem dL_law__1988 : decode cL_law_ 1988 = .ok (.ireturn, 1) := by decide +kernel
theorem dL_law__1989 : decode cL_law_ 1989 = .ok (.iload 5, 2) := by decide +kernel
theorem dL_law__1991 : decode cL_law_ 1991 = .ok (.ifCond .ne 15, 3) := by decide +kernel
theorem dL_law__1994 : decode cL_law_ 1994 = .ok (.aload_n 3, 1) := by decide +kernel
theorem dL_law__1995 : decode cL_law_ 1995 = .ok (.iconst 0, 1) := by decide +kernel
theorem dL_law__1996 : decode cL_law_ 1996 = .ok (.laload, 1) := by decide +kernel
theorem dL_law__1997 : decode cL_law_ 1997 = .ok (.iload 6, 2) := by decide +kernel
theorem dL_law__1999 : decode cL_law_ 1999 = .ok (.i2l, 1) := by decide +kernel
theorem dL_law__2000 : decode cL_law_ 2000 = .ok (.lcmp, 1) := by decide +kernel
theorem dL_law__2001 : decode cL_law_ 2001 = .ok (.ifCond .eq 5, 3) := by decide +kernel
theorem dL_law__2004 : decode cL_law_ 2004 = .ok (.iconst 0, 1) := by decide +kernel
theorem dL_law__2005 : decode cL_law_ 2005 = .ok (.ireturn, 1) := by decide +kernel
theorem dL_law__2006 : decode cL_law_ 2006 = .ok (.goto 456, 3) := by decide +kernel
theorem dL_law__2009 : decode cL_law_ 2009 = .ok (.aload_n 1, 1) := by decide +kernel
theorem dL_law__2010 : decode cL_law_ 2010 = .ok (.aload_n 0, 1) := by decide +kernel
theorem dL_law__2011 : decode cL_law_ 2011 = .ok (.iload 4, 2) := by decide +kernel
theorem dL_law__2013 : decode cL_law_ 2013 = .ok (.iconst 1, 1) := by decide +kernel
theorem dL_law__2014 : decode cL_law_ 2014 = .ok (.iadd, 1) := by decide +kernel
theorem dL_law__2015 : decode cL_law_ 2015 = .ok (.iaload, 1) := by decide +kernel
theorem dL_law__2016 : decode cL_law_ 2016 = .ok (.aload_n 3, 1) := by decide +kernel
theorem dL_law__2017 : decode cL_law_ 2017 = .ok (.invokestatic 227, 3) := by decide +kernel
theorem dL_law__2020 : decode cL_law_ 2020 = .ok (.istore 5, 2) := by decide +kernel
theorem dL_law__2022 : decode cL_law_ 2022 = .ok (.aload_n 2, 1) := by decide +kernel
theorem dL_law__2023 : decode cL_law_ 2023 = .ok (.aload_n 0, 1) := by decide +kernel
theorem dL_law__2024 : decode cL_law_ 2024 = .ok (.iload 4, 2) := by decide +kernel
theorem dL_law__2026 : decode cL_law_ 2026 = .ok (.iconst 1, 1) := by decide +kernel
theorem dL_law__2027 : decode cL_law_ 2027 = .ok (.iadd, 1) := by decide +kernel
theorem dL_law__2028 : decode cL_law_ 2028 = .ok (.iaload, 1) := by decide +kernel
theorem dL_law__2029 : decode cL_law_ 2029 = .ok (.invokevirtual 229, 3) := by decide +kernel
theorem dL_law__2032 : decode cL_law_ 2032 = .ok (.istore 6, 2) := by decide +kernel
theorem dL_law__2034 : decode cL_law_ 2034 = .ok (.aload_n 2, 1) := by decide +kernel
theorem dL_law__2035 : decode cL_law_ 2035 = .ok (.invokevirtual 133, 3) := by decide +kernel
theorem dL_law__2038 : decode cL_law_ 2038 = .ok (.iload 5, 2) := by decide +kernel
theorem dL_law__2040 : decode cL_law_ 2040 = .ok (.if_icmp .eq 5, 3) := by decide +kernel
theorem dL_law__2043 : decode cL_law_ 2043 = .ok (.iconst 0, 1) := by decide +kernel
theorem dL_law__2044 : decode cL_law_ 2044 = .ok (.ireturn, 1) := by decide +kernel
theorem dL_law__2045 : decode cL_law_ 2045 = .ok (.iload 5, 2) := by decide +kernel
theorem dL_law__2047 : decode cL_law_ 2047 = .ok (.ifCond .ne 15, 3) := by decide +kernel
theorem dL_law__2050 : decode cL_law_ 2050 = .ok (.aload_n 3, 1) := by decide +kernel
theorem dL_law__2051 : decode cL_law_ 2051 = .ok (.iconst 0, 1) := by decide +kernel
theorem dL_law__2052 : decode cL_law_ 2052 = .ok (.laload, 1) := by decide +kernel
theorem dL_law__2053 : decode cL_law_ 2053 = .ok (.iload 6, 2) := by decide +kernel
theorem dL_law__2055 : decode cL_law_ 2055 = .ok (.i2l, 1) := by decide +kernel
theorem dL_law__2056 : decode cL_law_ 2056 = .ok (.lcmp, 1) := by decide +kernel
theorem dL_law__2057 : decode cL_law_ 2057 = .ok (.ifCond .eq 5, 3) := by decide +kernel
theorem dL_law__2060 : decode cL_law_ 2060 = .ok (.iconst 0, 1) := by decide +kernel
theorem dL_law__2061 : decode cL_law_ 2061 = .ok (.ireturn, 1) := by decide +kernel
theorem dL_law__2062 : decode cL_law_ 2062 = .ok (.goto 400, 3) := by decide +kernel
theorem dL_law__2065 : decode cL_law_ 2065 = .ok (.aload_n 1, 1) := by decide +kernel
theorem dL_law__2066 : decode cL_law_ 2066 = .ok (.aload_n 0, 1) := by decide +kernel
theorem dL_law__2067 : decode cL_law_ 2067 = .ok (.iload 4, 2) := by decide +kernel
theorem dL_law__2069 : decode cL_law_ 2069 = .ok (.iconst 1, 1) := by decide +kernel
theorem dL_law__2070 : decode cL_law_ 2070 = .ok (.iadd, 1) := by decide +kernel
theorem dL_law__2071 : decode cL_law_ 2071 = .ok (.iaload, 1) := by decide +kernel
theorem dL_law__2072 : decode cL_law_ 2072 = .ok (.aload_n 0, 1) := by decide +kernel
theorem dL_law__2073 : decode cL_law_ 2073 = .ok (.iload 4, 2) := by decide +kernel
theorem dL_law__2075 : decode cL_law_ 2075 = .ok (.iconst 2, 1) := by decide +kernel
theorem dL_law__2076 : decode cL_law_ 2076 = .ok (.iadd, 1) := by decide +kernel
theorem dL_law__2077 : decode cL_law_ 2077 = .ok (.iaload, 1) := by decide +kernel
theorem dL_law__2078 : decode cL_law_ 2078 = .ok (.aload_n 0, 1) := by decide +kernel
theorem dL_law__2079 : decode cL_law_ 2079 = .ok (.iload 4, 2) := by decide +kernel
theorem dL_law__2081 : decode cL_law_ 2081 = .ok (.iconst 3, 1) := by decide +kernel
theorem dL_law__2082 : decode cL_law_ 2082 = .ok (.iadd, 1) := by decide +kernel
theorem dL_law__2083 : decode cL_law_ 2083 = .ok (.iaload, 1) := by decide +kernel
theorem dL_law__2084 : decode cL_law_ 2084 = .ok (.aload_n 0, 1) := by decide +kernel
theorem dL_law__2085 : decode cL_law_ 2085 = .ok (.iload 4, 2) := by decide +kernel
theorem dL_law__2087 : decode cL_law_ 2087 = .ok (.iconst 4, 1) := by decide +kernel
theorem dL_law__2088 : decode cL_law_ 2088 = .ok (.iadd, 1) := by decide +kernel
theorem dL_law__2089 : decode cL_law_ 2089 = .ok (.iaload, 1) := by decide +kernel
theorem dL_law__2090 : decode cL_law_ 2090 = .ok (.aload_n 3, 1) := by decide +kernel
theorem dL_law__2091 : decode cL_law_ 2091 = .ok (.invokestatic 230, 3) := by decide +kernel
theorem dL_law__2094 : decode cL_law_ 2094 = .ok (.istore 5, 2) := by decide +kernel
theorem dL_law__2096 : decode cL_law_ 2096 = .ok (.aload_n 2, 1) := by decide +kernel
theorem dL_law__2097 : decode cL_law_ 2097 = .ok (.aload_n 0, 1) := by decide +kernel
theorem dL_law__2098 : decode cL_law_ 2098 = .ok (.iload 4, 2) := by decide +kernel
theorem dL_law__2100 : decode cL_law_ 2100 = .ok (.iconst 1, 1) := by decide +kernel
theorem dL_law__2101 : decode cL_law_ 2101 = .ok (.iadd, 1) := by decide +kernel
theorem dL_law__2102 : decode cL_law_ 2102 = .ok (.iaload, 1) := by decide +kernel
theorem dL_law__2103 : decode cL_law_ 2103 = .ok (.aload_n 0, 1) := by decide +kernel
theorem dL_law__2104 : decode cL_law_ 2104 = .ok (.iload 4, 2) := by decide +kernel
theorem dL_law__2106 : decode cL_law_ 2106 = .ok (.iconst 2, 1) := by decide +kernel
theorem dL_law__2107 : decode cL_law_ 2107 = .ok (.iadd, 1) := by decide +kernel
theorem dL_law__2108 : decode cL_law_ 2108 = .ok (.iaload, 1) := by decide +kernel
theorem dL_law__2109 : decode cL_law_ 2109 = .ok (.aload_n 0, 1) := by decide +kernel
theorem dL_law__2110 : decode cL_law_ 2110 = .ok (.iload 4, 2) := by decide +kernel
theorem dL_law__2112 : decode cL_law_ 2112 = .ok (.iconst 3, 1) := by decide +kernel
theorem dL_law__2113 : decode cL_law_ 2113 = .ok (.iadd, 1) := by decide +kernel
theorem dL_law__2114 : decode cL_law_ 2114 = .ok (.iaload, 1) := by decide +kernel
theorem dL_law__2115 : decode cL_law_ 2115 = .ok (.aload_n 0, 1) := by decide +kernel
theorem dL_law__2116 : decode cL_law_ 2116 = .ok (.iload 4, 2) := by decide +kernel
theorem dL_law__2118 : decode cL_law_ 2118 = .ok (.iconst 4, 1) := by decide +kernel
theorem dL_law__2119 : decode cL_law_ 2119 = .ok (.iadd, 1) := by decide +kernel
theorem dL_law__2120 : decode cL_law_ 2120 = .ok (.iaload, 1) := by decide +kernel
theorem dL_law__2121 : decode cL_law_ 2121 = .ok (.invokevirtual 233, 3) := by decide +kernel
theorem dL_law__2124 : decode cL_law_ 2124 = .ok (.istore 6, 2) := by decide +kernel
theorem dL_law__2126 : decode cL_law_ 2126 = .ok (.aload_n 2, 1) := by decide +kernel
theorem dL_law__2127 : decode cL_law_ 2127 = .ok (.invokevirtual 133, 3) := by decide +kernel
theorem dL_law__2130 : decode cL_law_ 2130 = .ok (.iload 5, 2) := by decide +kernel
theorem dL_law__2132 : decode cL_law_ 2132 = .ok (.if_icmp .eq 5, 3) := by decide +kernel
theorem dL_law__2135 : decode cL_law_ 2135 = .ok (.iconst 0, 1) := by decide +kernel
theorem dL_law__2136 : decode cL_law_ 2136 = .ok (.ireturn, 1) := by decide +kernel
theorem dL_law__2137 : decode cL_law_ 2137 = .ok (.iload 5, 2) := by decide +kernel
theorem dL_law__2139 : decode cL_law_ 2139 = .ok (.ifCond .ne 15, 3) := by decide +kernel
theorem dL_law__2142 : decode cL_law_ 2142 = .ok (.aload_n 3, 1) := by decide +kernel
theorem dL_law__2143 : decode cL_law_ 2143 = .ok (.iconst 0, 1) := by decide +kernel
theorem dL_law__2144 : decode cL_law_ 2144 = .ok (.laload, 1) := by decide +kernel
theorem dL_law__2145 : decode cL_law_ 2145 = .ok (.iload 6, 2) := by decide +kernel
theorem dL_law__2147 : decode cL_law_ 2147 = .ok (.i2l, 1) := by decide +kernel
theorem dL_law__2148 : decode cL_law_ 2148 = .ok (.lcmp, 1) := by decide +kernel
theorem dL_law__2149 : decode cL_law_ 2149 = .ok (.ifCond .eq 5, 3) := by decide +kernel
theorem dL_law__2152 : decode cL_law_ 2152 = .ok (.iconst 0, 1) := by decide +kernel
theorem dL_law__2153 : decode cL_law_ 2153 = .ok (.ireturn, 1) := by decide +kernel
theorem dL_law__2154 : decode cL_law_ 2154 = .ok (.goto 308, 3) := by decide +kernel
theorem dL_law__2157 : decode cL_law_ 2157 = .ok (.aload_n 1, 1) := by decide +kernel
theorem dL_law__2158 : decode cL_law_ 2158 = .ok (.aload_n 0, 1) := by decide +kernel
theorem dL_law__2159 : decode cL_law_ 2159 = .ok (.iload 4, 2) := by decide +kernel
theorem dL_law__2161 : decode cL_law_ 2161 = .ok (.iconst 1, 1) := by decide +kernel
theorem dL_law__2162 : decode cL_law_ 2162 = .ok (.iadd, 1) := by decide +kernel
theorem dL_law__2163 : decode cL_law_ 2163 = .ok (.iaload, 1) := by decide +kernel
theorem dL_law__2164 : decode cL_law_ 2164 = .ok (.aload_n 0, 1) := by decide +kernel
theorem dL_law__2165 : decode cL_law_ 2165 = .ok (.iload 4, 2) := by decide +kernel
theorem dL_law__2167 : decode cL_law_ 2167 = .ok (.iconst 2, 1) := by decide +kernel
theorem dL_law__2168 : decode cL_law_ 2168 = .ok (.iadd, 1) := by decide +kernel
theorem dL_law__2169 : decode cL_law_ 2169 = .ok (.iaload, 1) := by decide +kernel
theorem dL_law__2170 : decode cL_law_ 2170 = .ok (.aload_n 0, 1) := by decide +kernel
theorem dL_law__2171 : decode cL_law_ 2171 = .ok (.iload 4, 2) := by decide +kernel
theorem dL_law__2173 : decode cL_law_ 2173 = .ok (.iconst 3, 1) := by decide +kernel
theorem dL_law__2174 : decode cL_law_ 2174 = .ok (.iadd, 1) := by decide +kernel
theorem dL_law__2175 : decode cL_law_ 2175 = .ok (.iaload, 1) := by decide +kernel
theorem dL_law__2176 : decode cL_law_ 2176 = .ok (.aload_n 3, 1) := by decide +kernel
theorem dL_law__2177 : decode cL_law_ 2177 = .ok (.invokestatic 234, 3) := by decide +kernel
theorem dL_law__2180 : decode cL_law_ 2180 = .ok (.istore 5, 2) := by decide +kernel
theorem dL_law__2182 : decode cL_law_ 2182 = .ok (.aload_n 2, 1) := by decide +kernel
theorem dL_law__2183 : decode cL_law_ 2183 = .ok (.aload_n 0, 1) := by decide +kernel
theorem dL_law__2184 : decode cL_law_ 2184 = .ok (.iload 4, 2) := by decide +kernel
theorem dL_law__2186 : decode cL_law_ 2186 = .ok (.iconst 1, 1) := by decide +kernel
theorem dL_law__2187 : decode cL_law_ 2187 = .ok (.iadd, 1) := by decide +kernel
theorem dL_law__2188 : decode cL_law_ 2188 = .ok (.iaload, 1) := by decide +kernel
theorem dL_law__2189 : decode cL_law_ 2189 = .ok (.aload_n 0, 1) := by decide +kernel
theorem dL_law__2190 : decode cL_law_ 2190 = .ok (.iload 4, 2) := by decide +kernel
theorem dL_law__2192 : decode cL_law_ 2192 = .ok (.iconst 2, 1) := by decide +kernel
theorem dL_law__2193 : decode cL_law_ 2193 = .ok (.iadd, 1) := by decide +kernel
theorem dL_law__2194 : decode cL_law_ 2194 = .ok (.iaload, 1) := by decide +kernel
theorem dL_law__2195 : decode cL_law_ 2195 = .ok (.aload_n 0, 1) := by decide +kernel
theorem dL_law__2196 : decode cL_law_ 2196 = .ok (.iload 4, 2) := by decide +kernel
theorem dL_law__2198 : decode cL_law_ 2198 = .ok (.iconst 3, 1) := by decide +kernel
theorem dL_law__2199 : decode cL_law_ 2199 = .ok (.iadd, 1) := by decide +kernel
theorem dL_law__2200 : decode cL_law_ 2200 = .ok (.iaload, 1) := by decide +kernel
theorem dL_law__2201 : decode cL_law_ 2201 = .ok (.invokevirtual 236, 3) := by decide +kernel
theorem dL_law__2204 : decode cL_law_ 2204 = .ok (.istore 6, 2) := by decide +kernel
theorem dL_law__2206 : decode cL_law_ 2206 = .ok (.aload_n 2, 1) := by decide +kernel
theorem dL_law__2207 : decode cL_law_ 2207 = .ok (.invokevirtual 133, 3) := by decide +kernel
theorem dL_law__2210 : decode cL_law_ 2210 = .ok (.iload 5, 2) := by decide +kernel
theorem dL_law__2212 : decode cL_law_ 2212 = .ok (.if_icmp .eq 5, 3) := by decide +kernel
theorem dL_law__2215 : decode cL_law_ 2215 = .ok (.iconst 0, 1) := by decide +kernel
theorem dL_law__2216 : decode cL_law_ 2216 = .ok (.ireturn, 1) := by decide +kernel
theorem dL_law__2217 : decode cL_law_ 2217 = .ok (.iload 5, 2) := by decide +kernel
theorem dL_law__2219 : decode cL_law_ 2219 = .ok (.ifCond .ne 15, 3) := by decide +kernel
theorem dL_law__2222 : decode cL_law_ 2222 = .ok (.aload_n 3, 1) := by decide +kernel
theorem dL_law__2223 : decode cL_law_ 2223 = .ok (.iconst 0, 1) := by decide +kernel
theorem dL_law__2224 : decode cL_law_ 2224 = .ok (.laload, 1) := by decide +kernel
theorem dL_law__2225 : decode cL_law_ 2225 = .ok (.iload 6, 2) := by decide +kernel
theorem dL_law__2227 : decode cL_law_ 2227 = .ok (.i2l, 1) := by decide +kernel
theorem dL_law__2228 : decode cL_law_ 2228 = .ok (.lcmp, 1) := by decide +kernel
theorem dL_law__2229 : decode cL_law_ 2229 = .ok (.ifCond .eq 5, 3) := by decide +kernel
theorem dL_law__2232 : decode cL_law_ 2232 = .ok (.iconst 0, 1) := by decide +kernel
theorem dL_law__2233 : decode cL_law_ 2233 = .ok (.ireturn, 1) := by decide +kernel
theorem dL_law__2234 : decode cL_law_ 2234 = .ok (.goto 228, 3) := by decide +kernel
theorem dL_law__2237 : decode cL_law_ 2237 = .ok (.aload_n 1, 1) := by decide +kernel
theorem dL_law__2238 : decode cL_law_ 2238 = .ok (.aload_n 0, 1) := by decide +kernel
theorem dL_law__2239 : decode cL_law_ 2239 = .ok (.iload 4, 2) := by decide +kernel
theorem dL_law__2241 : decode cL_law_ 2241 = .ok (.iconst 1, 1) := by decide +kernel
theorem dL_law__2242 : decode cL_law_ 2242 = .ok (.iadd, 1) := by decide +kernel
theorem dL_law__2243 : decode cL_law_ 2243 = .ok (.iaload, 1) := by decide +kernel
theorem dL_law__2244 : decode cL_law_ 2244 = .ok (.aload_n 0, 1) := by decide +kernel
theorem dL_law__2245 : decode cL_law_ 2245 = .ok (.iload 4, 2) := by decide +kernel
theorem dL_law__2247 : decode cL_law_ 2247 = .ok (.iconst 2, 1) := by decide +kernel
theorem dL_law__2248 : decode cL_law_ 2248 = .ok (.iadd, 1) := by decide +kernel
theorem dL_law__2249 : decode cL_law_ 2249 = .ok (.iaload, 1) := by decide +kernel
theorem dL_law__2250 : decode cL_law_ 2250 = .ok (.aload_n 0, 1) := by decide +kernel
theorem dL_law__2251 : decode cL_law_ 2251 = .ok (.iload 4, 2) := by decide +kernel
theorem dL_law__2253 : decode cL_law_ 2253 = .ok (.iconst 3, 1) := by decide +kernel
theorem dL_law__2254 : decode cL_law_ 2254 = .ok (.iadd, 1) := by decide +kernel
theorem dL_law__2255 : decode cL_law_ 2255 = .ok (.iaload, 1) := by decide +kernel
theorem dL_law__2256 : decode cL_law_ 2256 = .ok (.ifCond .eq 7, 3) := by decide +kernel
theorem dL_law__2259 : decode cL_law_ 2259 = .ok (.iconst 1, 1) := by decide +kernel
theorem dL_law__2260 : decode cL_law_ 2260 = .ok (.goto 4, 3) := by decide +kernel
theorem dL_law__2263 : decode cL_law_ 2263 = .ok (.iconst 0, 1) := by decide +kernel
theorem dL_law__2264 : decode cL_law_ 2264 = .ok (.aload_n 3, 1) := by decide +kernel
theorem dL_law__2265 : decode cL_law_ 2265 = .ok (.invokestatic 237, 3) := by decide +kernel
theorem dL_law__2268 : decode cL_law_ 2268 = .ok (.istore 5, 2) := by decide +kernel
theorem dL_law__2270 : decode cL_law_ 2270 = .ok (.aload_n 2, 1) := by decide +kernel
theorem dL_law__2271 : decode cL_law_ 2271 = .ok (.aload_n 0, 1) := by decide +kernel
theorem dL_law__2272 : decode cL_law_ 2272 = .ok (.iload 4, 2) := by decide +kernel
theorem dL_law__2274 : decode cL_law_ 2274 = .ok (.iconst 1, 1) := by decide +kernel
theorem dL_law__2275 : decode cL_law_ 2275 = .ok (.iadd, 1) := by decide +kernel
theorem dL_law__2276 : decode cL_law_ 2276 = .ok (.iaload, 1) := by decide +kernel
theorem dL_law__2277 : decode cL_law_ 2277 = .ok (.aload_n 0, 1) := by decide +kernel
theorem dL_law__2278 : decode cL_law_ 2278 = .ok (.iload 4, 2) := by decide +kernel
theorem dL_law__2280 : decode cL_law_ 2280 = .ok (.iconst 2, 1) := by decide +kernel
theorem dL_law__2281 : decode cL_law_ 2281 = .ok (.iadd, 1) := by decide +kernel
theorem dL_law__2282 : decode cL_law_ 2282 = .ok (.iaload, 1) := by decide +kernel
theorem dL_law__2283 : decode cL_law_ 2283 = .ok (.aload_n 0, 1) := by decide +kernel
theorem dL_law__2284 : decode cL_law_ 2284 = .ok (.iload 4, 2) := by decide +kernel
theorem dL_law__2286 : decode cL_law_ 2286 = .ok (.iconst 3, 1) := by decide +kernel
theorem dL_law__2287 : decode cL_law_ 2287 = .ok (.iadd, 1) := by decide +kernel
theorem dL_law__2288 : decode cL_law_ 2288 = .ok (.iaload, 1) := by decide +kernel
theorem dL_law__2289 : decode cL_law_ 2289 = .ok (.ifCond .eq 7, 3) := by decide +kernel
theorem dL_law__2292 : decode cL_law_ 2292 = .ok (.iconst 1, 1) := by decide +kernel
theorem dL_law__2293 : decode cL_law_ 2293 = .ok (.goto 4, 3) := by decide +kernel
theorem dL_law__2296 : decode cL_law_ 2296 = .ok (.iconst 0, 1) := by decide +kernel
theorem dL_law__2297 : decode cL_law_ 2297 = .ok (.invokevirtual 239, 3) := by decide +kernel
theorem dL_law__2300 : decode cL_law_ 2300 = .ok (.istore 6, 2) := by decide +kernel
theorem dL_law__2302 : decode cL_law_ 2302 = .ok (.aload_n 2, 1) := by decide +kernel
theorem dL_law__2303 : decode cL_law_ 2303 = .ok (.invokevirtual 133, 3) := by decide +kernel
theorem dL_law__2306 : decode cL_law_ 2306 = .ok (.iload 5, 2) := by decide +kernel
theorem dL_law__2308 : decode cL_law_ 2308 = .ok (.if_icmp .eq 5, 3) := by decide +kernel
theorem dL_law__2311 : decode cL_law_ 2311 = .ok (.iconst 0, 1) := by decide +kernel
theorem dL_law__2312 : decode cL_law_ 2312 = .ok (.ireturn, 1) := by decide +kernel
theorem dL_law__2313 : decode cL_law_ 2313 = .ok (.iload 5, 2) := by decide +kernel
theorem dL_law__2315 : decode cL_law_ 2315 = .ok (.ifCond .ne 15, 3) := by decide +kernel
theorem dL_law__2318 : decode cL_law_ 2318 = .ok (.aload_n 3, 1) := by decide +kernel
theorem dL_law__2319 : decode cL_law_ 2319 = .ok (.iconst 0, 1) := by decide +kernel
theorem dL_law__2320 : decode cL_law_ 2320 = .ok (.laload, 1) := by decide +kernel
theorem dL_law__2321 : decode cL_law_ 2321 = .ok (.iload 6, 2) := by decide +kernel
theorem dL_law__2323 : decode cL_law_ 2323 = .ok (.i2l, 1) := by decide +kernel
theorem dL_law__2324 : decode cL_law_ 2324 = .ok (.lcmp, 1) := by decide +kernel
theorem dL_law__2325 : decode cL_law_ 2325 = .ok (.ifCond .eq 5, 3) := by decide +kernel
theorem dL_law__2328 : decode cL_law_ 2328 = .ok (.iconst 0, 1) := by decide +kernel
theorem dL_law__2329 : decode cL_law_ 2329 = .ok (.ireturn, 1) := by decide +kernel
theorem dL_law__2330 : decode cL_law_ 2330 = .ok (.goto 132, 3) := by decide +kernel
theorem dL_law__2333 : decode cL_law_ 2333 = .ok (.aload_n 1, 1) := by decide +kernel
theorem dL_law__2334 : decode cL_law_ 2334 = .ok (.aload_n 0, 1) := by decide +kernel
theorem dL_law__2335 : decode cL_law_ 2335 = .ok (.iload 4, 2) := by decide +kernel
theorem dL_law__2337 : decode cL_law_ 2337 = .ok (.iconst 1, 1) := by decide +kernel
theorem dL_law__2338 : decode cL_law_ 2338 = .ok (.iadd, 1) := by decide +kernel
theorem dL_law__2339 : decode cL_law_ 2339 = .ok (.iaload, 1) := by decide +kernel
theorem dL_law__2340 : decode cL_law_ 2340 = .ok (.aload_n 0, 1) := by decide +kernel
theorem dL_law__2341 : decode cL_law_ 2341 = .ok (.iload 4, 2) := by decide +kernel
theorem dL_law__2343 : decode cL_law_ 2343 = .ok (.iconst 2, 1) := by decide +kernel
theorem dL_law__2344 : decode cL_law_ 2344 = .ok (.iadd, 1) := by decide +kernel
theorem dL_law__2345 : decode cL_law_ 2345 = .ok (.iaload, 1) := by decide +kernel
theorem dL_law__2346 : decode cL_law_ 2346 = .ok (.aload_n 0, 1) := by decide +kernel
theorem dL_law__2347 : decode cL_law_ 2347 = .ok (.iload 4, 2) := by decide +kernel
theorem dL_law__2349 : decode cL_law_ 2349 = .ok (.iconst 3, 1) := by decide +kernel
theorem dL_law__2350 : decode cL_law_ 2350 = .ok (.iadd, 1) := by decide +kernel
theorem dL_law__2351 : decode cL_law_ 2351 = .ok (.iaload, 1) := by decide +kernel
theorem dL_law__2352 : decode cL_law_ 2352 = .ok (.aload_n 3, 1) := by decide +kernel
theorem dL_law__2353 : decode cL_law_ 2353 = .ok (.invokestatic 240, 3) := by decide +kernel
theorem dL_law__2356 : decode cL_law_ 2356 = .ok (.istore 5, 2) := by decide +kernel
theorem dL_law__2358 : decode cL_law_ 2358 = .ok (.aload_n 2, 1) := by decide +kernel
theorem dL_law__2359 : decode cL_law_ 2359 = .ok (.aload_n 0, 1) := by decide +kernel
theorem dL_law__2360 : decode cL_law_ 2360 = .ok (.iload 4, 2) := by decide +kernel
theorem dL_law__2362 : decode cL_law_ 2362 = .ok (.iconst 1, 1) := by decide +kernel
theorem dL_law__2363 : decode cL_law_ 2363 = .ok (.iadd, 1) := by decide +kernel
theorem dL_law__2364 : decode cL_law_ 2364 = .ok (.iaload, 1) := by decide +kernel
theorem dL_law__2365 : decode cL_law_ 2365 = .ok (.aload_n 0, 1) := by decide +kernel
theorem dL_law__2366 : decode cL_law_ 2366 = .ok (.iload 4, 2) := by decide +kernel
theorem dL_law__2368 : decode cL_law_ 2368 = .ok (.iconst 2, 1) := by decide +kernel
theorem dL_law__2369 : decode cL_law_ 2369 = .ok (.iadd, 1) := by decide +kernel
theorem dL_law__2370 : decode cL_law_ 2370 = .ok (.iaload, 1) := by decide +kernel
theorem dL_law__2371 : decode cL_law_ 2371 = .ok (.aload_n 0, 1) := by decide +kernel
theorem dL_law__2372 : decode cL_law_ 2372 = .ok (.iload 4, 2) := by decide +kernel
theorem dL_law__2374 : decode cL_law_ 2374 = .ok (.iconst 3, 1) := by decide +kernel
theorem dL_law__2375 : decode cL_law_ 2375 = .ok (.iadd, 1) := by decide +kernel
theorem dL_law__2376 : decode cL_law_ 2376 = .ok (.iaload, 1) := by decide +kernel
theorem dL_law__2377 : decode cL_law_ 2377 = .ok (.invokevirtual 242, 3) := by decide +kernel
theorem dL_law__2380 : decode cL_law_ 2380 = .ok (.istore 6, 2) := by decide +kernel
theorem dL_law__2382 : decode cL_law_ 2382 = .ok (.aload_n 2, 1) := by decide +kernel
theorem dL_law__2383 : decode cL_law_ 2383 = .ok (.invokevirtual 133, 3) := by decide +kernel
theorem dL_law__2386 : decode cL_law_ 2386 = .ok (.iload 5, 2) := by decide +kernel
theorem dL_law__2388 : decode cL_law_ 2388 = .ok (.if_icmp .eq 5, 3) := by decide +kernel
theorem dL_law__2391 : decode cL_law_ 2391 = .ok (.iconst 0, 1) := by decide +kernel
theorem dL_law__2392 : decode cL_law_ 2392 = .ok (.ireturn, 1) := by decide +kernel
theorem dL_law__2393 : decode cL_law_ 2393 = .ok (.iload 5, 2) := by decide +kernel
theorem dL_law__2395 : decode cL_law_ 2395 = .ok (.ifCond .ne 15, 3) := by decide +kernel
theorem dL_law__2398 : decode cL_law_ 2398 = .ok (.aload_n 3, 1) := by decide +kernel
theorem dL_law__2399 : decode cL_law_ 2399 = .ok (.iconst 0, 1) := by decide +kernel
theorem dL_law__2400 : decode cL_law_ 2400 = .ok (.laload, 1) := by decide +kernel
theorem dL_law__2401 : decode cL_law_ 2401 = .ok (.iload 6, 2) := by decide +kernel
theorem dL_law__2403 : decode cL_law_ 2403 = .ok (.i2l, 1) := by decide +kernel
theorem dL_law__2404 : decode cL_law_ 2404 = .ok (.lcmp, 1) := by decide +kernel
theorem dL_law__2405 : decode cL_law_ 2405 = .ok (.ifCond .eq 5, 3) := by decide +kernel
theorem dL_law__2408 : decode cL_law_ 2408 = .ok (.iconst 0, 1) := by decide +kernel
theorem dL_law__2409 : decode cL_law_ 2409 = .ok (.ireturn, 1) := by decide +kernel
theorem dL_law__2410 : decode cL_law_ 2410 = .ok (.goto 52, 3) := by decide +kernel
theorem dL_law__2413 : decode cL_law_ 2413 = .ok (.aload_n 1, 1) := by decide +kernel
theorem dL_law__2414 : decode cL_law_ 2414 = .ok (.invokevirtual 243, 3) := by decide +kernel
theorem dL_law__2417 : decode cL_law_ 2417 = .ok (.aload_n 2, 1) := by decide +kernel
theorem dL_law__2418 : decode cL_law_ 2418 = .ok (.invokevirtual 246, 3) := by decide +kernel
theorem dL_law__2421 : decode cL_law_ 2421 = .ok (.goto 41, 3) := by decide +kernel
theorem dL_law__2424 : decode cL_law_ 2424 = .ok (.aload_n 1, 1) := by decide +kernel
theorem dL_law__2425 : decode cL_law_ 2425 = .ok (.invokevirtual 247, 3) := by decide +kernel
theorem dL_law__2428 : decode cL_law_ 2428 = .ok (.aload_n 2, 1) := by decide +kernel
theorem dL_law__2429 : decode cL_law_ 2429 = .ok (.invokevirtual 251, 3) := by decide +kernel
theorem dL_law__2432 : decode cL_law_ 2432 = .ok (.if_icmp .eq 30, 3) := by decide +kernel
theorem dL_law__2435 : decode cL_law_ 2435 = .ok (.iconst 0, 1) := by decide +kernel
theorem dL_law__2436 : decode cL_law_ 2436 = .ok (.ireturn, 1) := by decide +kernel
theorem dL_law__2437 : decode cL_law_ 2437 = .ok (.aload_n 1, 1) := by decide +kernel
theorem dL_law__2438 : decode cL_law_ 2438 = .ok (.aload_n 0, 1) := by decide +kernel
theorem dL_law__2439 : decode cL_law_ 2439 = .ok (.iload 4, 2) := by decide +kernel
theorem dL_law__2441 : decode cL_law_ 2441 = .ok (.iconst 1, 1) := by decide +kernel
theorem dL_law__2442 : decode cL_law_ 2442 = .ok (.iadd, 1) := by decide +kernel
theorem dL_law__2443 : decode cL_law_ 2443 = .ok (.iaload, 1) := by decide +kernel
theorem dL_law__2444 : decode cL_law_ 2444 = .ok (.invokevirtual 252, 3) := by decide +kernel
theorem dL_law__2447 : decode cL_law_ 2447 = .ok (.aload_n 2, 1) := by decide +kernel
theorem dL_law__2448 : decode cL_law_ 2448 = .ok (.aload_n 0, 1) := by decide +kernel
theorem dL_law__2449 : decode cL_law_ 2449 = .ok (.iload 4, 2) := by decide +kernel
theorem dL_law__2451 : decode cL_law_ 2451 = .ok (.iconst 1, 1) := by decide +kernel
theorem dL_law__2452 : decode cL_law_ 2452 = .ok (.iadd, 1) := by decide +kernel
theorem dL_law__2453 : decode cL_law_ 2453 = .ok (.iaload, 1) := by decide +kernel
theorem dL_law__2454 : decode cL_law_ 2454 = .ok (.invokevirtual 255, 3) := by decide +kernel
theorem dL_law__2457 : decode cL_law_ 2457 = .ok (.if_icmp .eq 5, 3) := by decide +kernel
theorem dL_law__2460 : decode cL_law_ 2460 = .ok (.iconst 0, 1) := by decide +kernel
theorem dL_law__2461 : decode cL_law_ 2461 = .ok (.ireturn, 1) := by decide +kernel
theorem dL_law__2462 : decode cL_law_ 2462 = .ok (.iinc 4 6, 3) := by decide +kernel
theorem dL_law__2465 : decode cL_law_ 2465 = .ok (.goto (-2442), 3) := by decide +kernel
theorem dL_law__2468 : decode cL_law_ 2468 = .ok (.iconst 1, 1) := by decide +kernel
theorem dL_law__2469 : decode cL_law_ 2469 = .ok (.ireturn, 1) := by decide +kernel
