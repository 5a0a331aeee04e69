/-! The law's instructions (by program). -/
theorem dL_law_2367 : decode cL_law 2367 = .ok (.iload 5, 2) := by decide +kernel
theorem dL_law_2369 : decode cL_law 2369 = .ok (.ifCond .ne 15, 3) := by decide +kernel
theorem dL_law_2372 : decode cL_law 2372 = .ok (.aload_n 3, 1) := by decide +kernel
theorem dL_law_2373 : decode cL_law 2373 = .ok (.iconst 0, 1) := by decide +kernel
theorem dL_law_2374 : decode cL_law 2374 = .ok (.laload, 1) := by decide +kernel
theorem dL_law_2375 : decode cL_law 2375 = .ok (.iload 6, 2) := by decide +kernel
theorem dL_law_2377 : decode cL_law 2377 = .ok (.i2l, 1) := by decide +kernel
theorem dL_law_2378 : decode cL_law 2378 = .ok (.lcmp, 1) := by decide +kernel
theorem dL_law_2379 : decode cL_law 2379 = .ok (.ifCond .eq 5, 3) := by decide +kernel
theorem dL_law_2384 : decode cL_law 2384 = .ok (.goto 345, 3) := by decide +kernel
theorem dL_law_2387 : decode cL_law 2387 = .ok (.aload_n 1, 1) := by decide +kernel
theorem dL_law_2388 : decode cL_law 2388 = .ok (.invokevirtual 256, 3) := by decide +kernel
theorem dL_law_2391 : decode cL_law 2391 = .ok (.aload_n 2, 1) := by decide +kernel
theorem dL_law_2392 : decode cL_law 2392 = .ok (.invokevirtual 260, 3) := by decide +kernel
theorem dL_law_2395 : decode cL_law 2395 = .ok (.if_icmp .eq 334, 3) := by decide +kernel
theorem dL_law_2400 : decode cL_law 2400 = .ok (.aload_n 1, 1) := by decide +kernel
theorem dL_law_2401 : decode cL_law 2401 = .ok (.aload_n 0, 1) := by decide +kernel
theorem dL_law_2402 : decode cL_law 2402 = .ok (.iload 4, 2) := by decide +kernel
theorem dL_law_2404 : decode cL_law 2404 = .ok (.iconst 1, 1) := by decide +kernel
theorem dL_law_2405 : decode cL_law 2405 = .ok (.iadd, 1) := by decide +kernel
theorem dL_law_2406 : decode cL_law 2406 = .ok (.iaload, 1) := by decide +kernel
theorem dL_law_2407 : decode cL_law 2407 = .ok (.aload_n 0, 1) := by decide +kernel
theorem dL_law_2408 : decode cL_law 2408 = .ok (.iload 4, 2) := by decide +kernel
theorem dL_law_2410 : decode cL_law 2410 = .ok (.iconst 2, 1) := by decide +kernel
theorem dL_law_2411 : decode cL_law 2411 = .ok (.iadd, 1) := by decide +kernel
theorem dL_law_2412 : decode cL_law 2412 = .ok (.iaload, 1) := by decide +kernel
theorem dL_law_2413 : decode cL_law 2413 = .ok (.aload_n 0, 1) := by decide +kernel
theorem dL_law_2414 : decode cL_law 2414 = .ok (.iload 4, 2) := by decide +kernel
theorem dL_law_2416 : decode cL_law 2416 = .ok (.iconst 3, 1) := by decide +kernel
theorem dL_law_2417 : decode cL_law 2417 = .ok (.iadd, 1) := by decide +kernel
theorem dL_law_2418 : decode cL_law 2418 = .ok (.iaload, 1) := by decide +kernel
theorem dL_law_2419 : decode cL_law 2419 = .ok (.aload_n 3, 1) := by decide +kernel
theorem dL_law_2420 : decode cL_law 2420 = .ok (.invokestatic 261, 3) := by decide +kernel
theorem dL_law_2423 : decode cL_law 2423 = .ok (.istore 5, 2) := by decide +kernel
theorem dL_law_2425 : decode cL_law 2425 = .ok (.aload_n 2, 1) := by decide +kernel
theorem dL_law_2426 : decode cL_law 2426 = .ok (.aload_n 0, 1) := by decide +kernel
theorem dL_law_2427 : decode cL_law 2427 = .ok (.iload 4, 2) := by decide +kernel
theorem dL_law_2429 : decode cL_law 2429 = .ok (.iconst 1, 1) := by decide +kernel
theorem dL_law_2430 : decode cL_law 2430 = .ok (.iadd, 1) := by decide +kernel
theorem dL_law_2431 : decode cL_law 2431 = .ok (.iaload, 1) := by decide +kernel
theorem dL_law_2432 : decode cL_law 2432 = .ok (.aload_n 0, 1) := by decide +kernel
theorem dL_law_2433 : decode cL_law 2433 = .ok (.iload 4, 2) := by decide +kernel
theorem dL_law_2435 : decode cL_law 2435 = .ok (.iconst 2, 1) := by decide +kernel
theorem dL_law_2436 : decode cL_law 2436 = .ok (.iadd, 1) := by decide +kernel
theorem dL_law_2437 : decode cL_law 2437 = .ok (.iaload, 1) := by decide +kernel
theorem dL_law_2438 : decode cL_law 2438 = .ok (.aload_n 0, 1) := by decide +kernel
theorem dL_law_2439 : decode cL_law 2439 = .ok (.iload 4, 2) := by decide +kernel
theorem dL_law_2441 : decode cL_law 2441 = .ok (.iconst 3, 1) := by decide +kernel
theorem dL_law_2442 : decode cL_law 2442 = .ok (.iadd, 1) := by decide +kernel
theorem dL_law_2443 : decode cL_law 2443 = .ok (.iaload, 1) := by decide +kernel
theorem dL_law_2444 : decode cL_law 2444 = .ok (.invokevirtual 263, 3) := by decide +kernel
theorem dL_law_2447 : decode cL_law 2447 = .ok (.istore 6, 2) := by decide +kernel
theorem dL_law_2449 : decode cL_law 2449 = .ok (.aload_n 2, 1) := by decide +kernel
theorem dL_law_2450 : decode cL_law 2450 = .ok (.invokevirtual 138, 3) := by decide +kernel
theorem dL_law_2453 : decode cL_law 2453 = .ok (.iload 5, 2) := by decide +kernel
theorem dL_law_2455 : decode cL_law 2455 = .ok (.if_icmp .eq 5, 3) := by decide +kernel
theorem dL_law_2460 : decode cL_law 2460 = .ok (.iload 5, 2) := by decide +kernel
theorem dL_law_2462 : decode cL_law 2462 = .ok (.ifCond .ne 15, 3) := by decide +kernel
theorem dL_law_2465 : decode cL_law 2465 = .ok (.aload_n 3, 1) := by decide +kernel
theorem dL_law_2466 : decode cL_law 2466 = .ok (.iconst 0, 1) := by decide +kernel
theorem dL_law_2467 : decode cL_law 2467 = .ok (.laload, 1) := by decide +kernel
theorem dL_law_2468 : decode cL_law 2468 = .ok (.iload 6, 2) := by decide +kernel
theorem dL_law_2470 : decode cL_law 2470 = .ok (.i2l, 1) := by decide +kernel
theorem dL_law_2471 : decode cL_law 2471 = .ok (.lcmp, 1) := by decide +kernel
theorem dL_law_2472 : decode cL_law 2472 = .ok (.ifCond .eq 5, 3) := by decide +kernel
theorem dL_law_2477 : decode cL_law 2477 = .ok (.goto 252, 3) := by decide +kernel
theorem dL_law_2480 : decode cL_law 2480 = .ok (.aload_n 1, 1) := by decide +kernel
theorem dL_law_2481 : decode cL_law 2481 = .ok (.aload_n 0, 1) := by decide +kernel
theorem dL_law_2482 : decode cL_law 2482 = .ok (.iload 4, 2) := by decide +kernel
theorem dL_law_2484 : decode cL_law 2484 = .ok (.iconst 1, 1) := by decide +kernel
theorem dL_law_2485 : decode cL_law 2485 = .ok (.iadd, 1) := by decide +kernel
theorem dL_law_2486 : decode cL_law 2486 = .ok (.iaload, 1) := by decide +kernel
theorem dL_law_2487 : decode cL_law 2487 = .ok (.aload_n 0, 1) := by decide +kernel
theorem dL_law_2488 : decode cL_law 2488 = .ok (.iload 4, 2) := by decide +kernel
theorem dL_law_2490 : decode cL_law 2490 = .ok (.iconst 2, 1) := by decide +kernel
theorem dL_law_2491 : decode cL_law 2491 = .ok (.iadd, 1) := by decide +kernel
theorem dL_law_2492 : decode cL_law 2492 = .ok (.iaload, 1) := by decide +kernel
theorem dL_law_2493 : decode cL_law 2493 = .ok (.aload_n 0, 1) := by decide +kernel
theorem dL_law_2494 : decode cL_law 2494 = .ok (.iload 4, 2) := by decide +kernel
theorem dL_law_2496 : decode cL_law 2496 = .ok (.iconst 3, 1) := by decide +kernel
theorem dL_law_2497 : decode cL_law 2497 = .ok (.iadd, 1) := by decide +kernel
theorem dL_law_2498 : decode cL_law 2498 = .ok (.iaload, 1) := by decide +kernel
theorem dL_law_2499 : decode cL_law 2499 = .ok (.ifCond .eq 7, 3) := by decide +kernel
theorem dL_law_2502 : decode cL_law 2502 = .ok (.iconst 1, 1) := by decide +kernel
theorem dL_law_2503 : decode cL_law 2503 = .ok (.goto 4, 3) := by decide +kernel
theorem dL_law_2506 : decode cL_law 2506 = .ok (.iconst 0, 1) := by decide +kernel
theorem dL_law_2507 : decode cL_law 2507 = .ok (.aload_n 3, 1) := by decide +kernel
theorem dL_law_2508 : decode cL_law 2508 = .ok (.invokestatic 264, 3) := by decide +kernel
theorem dL_law_2511 : decode cL_law 2511 = .ok (.istore 5, 2) := by decide +kernel
theorem dL_law_2513 : decode cL_law 2513 = .ok (.aload_n 2, 1) := by decide +kernel
theorem dL_law_2514 : decode cL_law 2514 = .ok (.aload_n 0, 1) := by decide +kernel
theorem dL_law_2515 : decode cL_law 2515 = .ok (.iload 4, 2) := by decide +kernel
theorem dL_law_2517 : decode cL_law 2517 = .ok (.iconst 1, 1) := by decide +kernel
theorem dL_law_2518 : decode cL_law 2518 = .ok (.iadd, 1) := by decide +kernel
theorem dL_law_2519 : decode cL_law 2519 = .ok (.iaload, 1) := by decide +kernel
theorem dL_law_2520 : decode cL_law 2520 = .ok (.aload_n 0, 1) := by decide +kernel
theorem dL_law_2521 : decode cL_law 2521 = .ok (.iload 4, 2) := by decide +kernel
theorem dL_law_2523 : decode cL_law 2523 = .ok (.iconst 2, 1) := by decide +kernel
theorem dL_law_2524 : decode cL_law 2524 = .ok (.iadd, 1) := by decide +kernel
theorem dL_law_2525 : decode cL_law 2525 = .ok (.iaload, 1) := by decide +kernel
