theorem dL_law_2275 : decode cL_law 2275 = .ok (.iload 22, 2) := by decide +kernel
theorem dL_law_2277 : decode cL_law 2277 = .ok (.iadd, 1) := by decide +kernel
theorem dL_law_2278 : decode cL_law 2278 = .ok (.iaload, 1) := by decide +kernel
theorem dL_law_2279 : decode cL_law 2279 = .ok (.ishr, 1) := by decide +kernel
theorem dL_law_2280 : decode cL_law 2280 = .ok (.iconst 1, 1) := by decide +kernel
theorem dL_law_2281 : decode cL_law 2281 = .ok (.iand, 1) := by decide +kernel
theorem dL_law_2282 : decode cL_law 2282 = .ok (.iconst 1, 1) := by decide +kernel
theorem dL_law_2283 : decode cL_law 2283 = .ok (.if_icmp .ne 86, 3) := by decide +kernel
theorem dL_law_2286 : decode cL_law 2286 = .ok (.iload 25, 2) := by decide +kernel
theorem dL_law_2288 : decode cL_law 2288 = .ok (.bipush 63, 2) := by decide +kernel
theorem dL_law_2290 : decode cL_law 2290 = .ok (.if_icmp .gt 79, 3) := by decide +kernel
theorem dL_law_2293 : decode cL_law 2293 = .ok (.iload 26, 2) := by decide +kernel
theorem dL_law_2295 : decode cL_law 2295 = .ok (.ifCond .lt 74, 3) := by decide +kernel
theorem dL_law_2298 : decode cL_law 2298 = .ok (.iload 26, 2) := by decide +kernel
theorem dL_law_2300 : decode cL_law 2300 = .ok (.bipush 9, 2) := by decide +kernel
theorem dL_law_2302 : decode cL_law 2302 = .ok (.if_icmp .gt 67, 3) := by decide +kernel
theorem dL_law_2305 : decode cL_law 2305 = .ok (.iload 27, 2) := by decide +kernel
theorem dL_law_2307 : decode cL_law 2307 = .ok (.iconst 1, 1) := by decide +kernel
theorem dL_law_2308 : decode cL_law 2308 = .ok (.if_icmp .lt 61, 3) := by decide +kernel
theorem dL_law_2311 : decode cL_law 2311 = .ok (.iload 27, 2) := by decide +kernel
theorem dL_law_2313 : decode cL_law 2313 = .ok (.iload 25, 2) := by decide +kernel
theorem dL_law_2315 : decode cL_law 2315 = .ok (.invokestatic 66, 3) := by decide +kernel
theorem dL_law_2318 : decode cL_law 2318 = .ok (.if_icmp .gt 51, 3) := by decide +kernel
theorem dL_law_2321 : decode cL_law 2321 = .ok (.aload_n 1, 1) := by decide +kernel
theorem dL_law_2322 : decode cL_law 2322 = .ok (.iload 22, 2) := by decide +kernel
theorem dL_law_2324 : decode cL_law 2324 = .ok (.iload 24, 2) := by decide +kernel
theorem dL_law_2326 : decode cL_law 2326 = .ok (.invokevirtual 144, 3) := by decide +kernel
theorem dL_law_2329 : decode cL_law 2329 = .ok (.iload 23, 2) := by decide +kernel
theorem dL_law_2331 : decode cL_law 2331 = .ok (.ishr, 1) := by decide +kernel
theorem dL_law_2332 : decode cL_law 2332 = .ok (.iconst 1, 1) := by decide +kernel
theorem dL_law_2333 : decode cL_law 2333 = .ok (.iand, 1) := by decide +kernel
theorem dL_law_2334 : decode cL_law 2334 = .ok (.iconst 1, 1) := by decide +kernel
theorem dL_law_2335 : decode cL_law 2335 = .ok (.if_icmp .ne 34, 3) := by decide +kernel
theorem dL_law_2338 : decode cL_law 2338 = .ok (.aload_n 1, 1) := by decide +kernel
theorem dL_law_2339 : decode cL_law 2339 = .ok (.aload_n 1, 1) := by decide +kernel
theorem dL_law_2340 : decode cL_law 2340 = .ok (.iload 22, 2) := by decide +kernel
theorem dL_law_2342 : decode cL_law 2342 = .ok (.aload_n 2, 1) := by decide +kernel
theorem dL_law_2343 : decode cL_law 2343 = .ok (.bipush 25, 2) := by decide +kernel
theorem dL_law_2345 : decode cL_law 2345 = .ok (.iload 22, 2) := by decide +kernel
theorem dL_law_2347 : decode cL_law 2347 = .ok (.iadd, 1) := by decide +kernel
theorem dL_law_2348 : decode cL_law 2348 = .ok (.iaload, 1) := by decide +kernel
theorem dL_law_2349 : decode cL_law 2349 = .ok (.invokevirtual 136, 3) := by decide +kernel
theorem dL_law_2352 : decode cL_law 2352 = .ok (.invokestatic 91, 3) := by decide +kernel
theorem dL_law_2355 : decode cL_law 2355 = .ok (.aload_n 1, 1) := by decide +kernel
theorem dL_law_2356 : decode cL_law 2356 = .ok (.aload_n 1, 1) := by decide +kernel
theorem dL_law_2357 : decode cL_law 2357 = .ok (.iload 22, 2) := by decide +kernel
theorem dL_law_2359 : decode cL_law 2359 = .ok (.iconst 5, 1) := by decide +kernel
theorem dL_law_2360 : decode cL_law 2360 = .ok (.invokevirtual 88, 3) := by decide +kernel
theorem dL_law_2363 : decode cL_law 2363 = .ok (.invokestatic 91, 3) := by decide +kernel
theorem dL_law_2366 : decode cL_law 2366 = .ok (.if_icmp .eq 5, 3) := by decide +kernel
theorem dL_law_2369 : decode cL_law 2369 = .ok (.iconst 0, 1) := by decide +kernel
theorem dL_law_2370 : decode cL_law 2370 = .ok (.ireturn, 1) := by decide +kernel
theorem dL_law_2371 : decode cL_law 2371 = .ok (.iinc 22 1, 3) := by decide +kernel
theorem dL_law_2374 : decode cL_law 2374 = .ok (.goto (-202), 3) := by decide +kernel
theorem dL_law_2377 : decode cL_law 2377 = .ok (.aload_n 1, 1) := by decide +kernel
theorem dL_law_2378 : decode cL_law 2378 = .ok (.iconst 0, 1) := by decide +kernel
theorem dL_law_2379 : decode cL_law 2379 = .ok (.invokevirtual 147, 3) := by decide +kernel
theorem dL_law_2382 : decode cL_law 2382 = .ok (.sipush 500, 3) := by decide +kernel
theorem dL_law_2385 : decode cL_law 2385 = .ok (.if_icmp .ne 53, 3) := by decide +kernel
theorem dL_law_2388 : decode cL_law 2388 = .ok (.aload_n 1, 1) := by decide +kernel
theorem dL_law_2389 : decode cL_law 2389 = .ok (.iconst 1, 1) := by decide +kernel
theorem dL_law_2390 : decode cL_law 2390 = .ok (.invokevirtual 147, 3) := by decide +kernel
theorem dL_law_2393 : decode cL_law 2393 = .ok (.sipush 500, 3) := by decide +kernel
theorem dL_law_2396 : decode cL_law 2396 = .ok (.if_icmp .lt 42, 3) := by decide +kernel
theorem dL_law_2399 : decode cL_law 2399 = .ok (.aload_n 1, 1) := by decide +kernel
theorem dL_law_2400 : decode cL_law 2400 = .ok (.iconst 2, 1) := by decide +kernel
theorem dL_law_2401 : decode cL_law 2401 = .ok (.invokevirtual 147, 3) := by decide +kernel
theorem dL_law_2404 : decode cL_law 2404 = .ok (.aload_n 1, 1) := by decide +kernel
theorem dL_law_2405 : decode cL_law 2405 = .ok (.iconst 1, 1) := by decide +kernel
theorem dL_law_2406 : decode cL_law 2406 = .ok (.invokevirtual 147, 3) := by decide +kernel
theorem dL_law_2409 : decode cL_law 2409 = .ok (.if_icmp .gt 29, 3) := by decide +kernel
theorem dL_law_2412 : decode cL_law 2412 = .ok (.aload_n 1, 1) := by decide +kernel
theorem dL_law_2413 : decode cL_law 2413 = .ok (.iconst 3, 1) := by decide +kernel
theorem dL_law_2414 : decode cL_law 2414 = .ok (.invokevirtual 147, 3) := by decide +kernel
theorem dL_law_2417 : decode cL_law 2417 = .ok (.aload_n 1, 1) := by decide +kernel
theorem dL_law_2418 : decode cL_law 2418 = .ok (.iconst 2, 1) := by decide +kernel
theorem dL_law_2419 : decode cL_law 2419 = .ok (.invokevirtual 147, 3) := by decide +kernel
theorem dL_law_2422 : decode cL_law 2422 = .ok (.if_icmp .lt 16, 3) := by decide +kernel
theorem dL_law_2425 : decode cL_law 2425 = .ok (.aload_n 1, 1) := by decide +kernel
theorem dL_law_2426 : decode cL_law 2426 = .ok (.iconst 4, 1) := by decide +kernel
theorem dL_law_2427 : decode cL_law 2427 = .ok (.invokevirtual 147, 3) := by decide +kernel
theorem dL_law_2430 : decode cL_law 2430 = .ok (.aload_n 1, 1) := by decide +kernel
theorem dL_law_2431 : decode cL_law 2431 = .ok (.iconst 3, 1) := by decide +kernel
theorem dL_law_2432 : decode cL_law 2432 = .ok (.invokevirtual 147, 3) := by decide +kernel
theorem dL_law_2435 : decode cL_law 2435 = .ok (.if_icmp .le 5, 3) := by decide +kernel
theorem dL_law_2438 : decode cL_law 2438 = .ok (.iconst 0, 1) := by decide +kernel
theorem dL_law_2439 : decode cL_law 2439 = .ok (.ireturn, 1) := by decide +kernel
theorem dL_law_2440 : decode cL_law 2440 = .ok (.aload_n 0, 1) := by decide +kernel
theorem dL_law_2441 : decode cL_law 2441 = .ok (.bipush 43, 2) := by decide +kernel
theorem dL_law_2443 : decode cL_law 2443 = .ok (.invokestatic 15, 3) := by decide +kernel
theorem dL_law_2446 : decode cL_law 2446 = .ok (.bipush 13, 2) := by decide +kernel
theorem dL_law_2448 : decode cL_law 2448 = .ok (.invokestatic 21, 3) := by decide +kernel
theorem dL_law_2451 : decode cL_law 2451 = .ok (.istore 22, 2) := by decide +kernel
theorem dL_law_2453 : decode cL_law 2453 = .ok (.lconst 1, 1) := by decide +kernel
theorem dL_law_2454 : decode cL_law 2454 = .ok (.lstore 23, 2) := by decide +kernel
theorem dL_law_2456 : decode cL_law 2456 = .ok (.lconst 1, 1) := by decide +kernel
theorem dL_law_2457 : decode cL_law 2457 = .ok (.lstore 25, 2) := by decide +kernel
theorem dL_law_2459 : decode cL_law 2459 = .ok (.iconst 0, 1) := by decide +kernel
theorem dL_law_2460 : decode cL_law 2460 = .ok (.istore 27, 2) := by decide +kernel
theorem dL_law_2462 : decode cL_law 2462 = .ok (.iload 27, 2) := by decide +kernel
theorem dL_law_2464 : decode cL_law 2464 = .ok (.sipush 201, 3) := by decide +kernel
theorem dL_law_2467 : decode cL_law 2467 = .ok (.if_icmp .ge 158, 3) := by decide +kernel
theorem dL_law_2470 : decode cL_law 2470 = .ok (.aload_n 1, 1) := by decide +kernel
theorem dL_law_2471 : decode cL_law 2471 = .ok (.iload 27, 2) := by decide +kernel
theorem dL_law_2473 : decode cL_law 2473 = .ok (.iload 22, 2) := by decide +kernel
theorem dL_law_2475 : decode cL_law 2475 = .ok (.invokevirtual 150, 3) := by decide +kernel
theorem dL_law_2478 : decode cL_law 2478 = .ok (.iconst 1, 1) := by decide +kernel
theorem dL_law_2479 : decode cL_law 2479 = .ok (.if_icmp .ne 84, 3) := by decide +kernel
theorem dL_law_2482 : decode cL_law 2482 = .ok (.aload_n 1, 1) := by decide +kernel
theorem dL_law_2483 : decode cL_law 2483 = .ok (.invokevirtual 153, 3) := by decide +kernel
theorem dL_law_2486 : decode cL_law 2486 = .ok (.lconst 0, 1) := by decide +kernel
theorem dL_law_2487 : decode cL_law 2487 = .ok (.lcmp, 1) := by decide +kernel
theorem dL_law_2488 : decode cL_law 2488 = .ok (.ifCond .lt 75, 3) := by decide +kernel
theorem dL_law_2491 : decode cL_law 2491 = .ok (.aload_n 1, 1) := by decide +kernel
theorem dL_law_2492 : decode cL_law 2492 = .ok (.invokevirtual 157, 3) := by decide +kernel
theorem dL_law_2495 : decode cL_law 2495 = .ok (.lconst 1, 1) := by decide +kernel
theorem dL_law_2496 : decode cL_law 2496 = .ok (.lcmp, 1) := by decide +kernel
theorem dL_law_2497 : decode cL_law 2497 = .ok (.ifCond .lt 66, 3) := by decide +kernel
theorem dL_law_2500 : decode cL_law 2500 = .ok (.aload_n 1, 1) := by decide +kernel
theorem dL_law_2501 : decode cL_law 2501 = .ok (.invokevirtual 153, 3) := by decide +kernel
theorem dL_law_2504 : decode cL_law 2504 = .ok (.aload_n 1, 1) := by decide +kernel
theorem dL_law_2505 : decode cL_law 2505 = .ok (.invokevirtual 157, 3) := by decide +kernel
theorem dL_law_2508 : decode cL_law 2508 = .ok (.lcmp, 1) := by decide +kernel
theorem dL_law_2509 : decode cL_law 2509 = .ok (.ifCond .gt 54, 3) := by decide +kernel
theorem dL_law_2512 : decode cL_law 2512 = .ok (.aload_n 1, 1) := by decide +kernel
theorem dL_law_2513 : decode cL_law 2513 = .ok (.invokevirtual 153, 3) := by decide +kernel
theorem dL_law_2516 : decode cL_law 2516 = .ok (.lload 25, 2) := by decide +kernel
theorem dL_law_2518 : decode cL_law 2518 = .ok (.lmul, 1) := by decide +kernel
theorem dL_law_2519 : decode cL_law 2519 = .ok (.lload 23, 2) := by decide +kernel
theorem dL_law_2521 : decode cL_law 2521 = .ok (.aload_n 1, 1) := by decide +kernel
theorem dL_law_2522 : decode cL_law 2522 = .ok (.invokevirtual 157, 3) := by decide +kernel
theorem dL_law_2525 : decode cL_law 2525 = .ok (.lmul, 1) := by decide +kernel
theorem dL_law_2526 : decode cL_law 2526 = .ok (.lcmp, 1) := by decide +kernel
theorem dL_law_2527 : decode cL_law 2527 = .ok (.ifCond .gt 36, 3) := by decide +kernel
theorem dL_law_2530 : decode cL_law 2530 = .ok (.iload 27, 2) := by decide +kernel
theorem dL_law_2532 : decode cL_law 2532 = .ok (.ifCond .ne 15, 3) := by decide +kernel
theorem dL_law_2535 : decode cL_law 2535 = .ok (.aload_n 1, 1) := by decide +kernel
theorem dL_law_2536 : decode cL_law 2536 = .ok (.invokevirtual 153, 3) := by decide +kernel
theorem dL_law_2539 : decode cL_law 2539 = .ok (.aload_n 1, 1) := by decide +kernel
theorem dL_law_2540 : decode cL_law 2540 = .ok (.invokevirtual 157, 3) := by decide +kernel
theorem dL_law_2543 : decode cL_law 2543 = .ok (.lcmp, 1) := by decide +kernel
theorem dL_law_2544 : decode cL_law 2544 = .ok (.ifCond .ne 19, 3) := by decide +kernel
theorem dL_law_2547 : decode cL_law 2547 = .ok (.iload 27, 2) := by decide +kernel
theorem dL_law_2549 : decode cL_law 2549 = .ok (.iload 15, 2) := by decide +kernel
theorem dL_law_2551 : decode cL_law 2551 = .ok (.if_icmp .le 14, 3) := by decide +kernel
theorem dL_law_2554 : decode cL_law 2554 = .ok (.aload_n 1, 1) := by decide +kernel
theorem dL_law_2555 : decode cL_law 2555 = .ok (.invokevirtual 153, 3) := by decide +kernel
theorem dL_law_2558 : decode cL_law 2558 = .ok (.lconst 0, 1) := by decide +kernel
theorem dL_law_2559 : decode cL_law 2559 = .ok (.lcmp, 1) := by decide +kernel
theorem dL_law_2560 : decode cL_law 2560 = .ok (.ifCond .eq 5, 3) := by decide +kernel
theorem dL_law_2563 : decode cL_law 2563 = .ok (.iconst 0, 1) := by decide +kernel
theorem dL_law_2564 : decode cL_law 2564 = .ok (.ireturn, 1) := by decide +kernel
theorem dL_law_2565 : decode cL_law 2565 = .ok (.aload_n 1, 1) := by decide +kernel
theorem dL_law_2566 : decode cL_law 2566 = .ok (.invokevirtual 153, 3) := by decide +kernel
theorem dL_law_2569 : decode cL_law 2569 = .ok (.lstore 23, 2) := by decide +kernel
theorem dL_law_2571 : decode cL_law 2571 = .ok (.aload_n 1, 1) := by decide +kernel
theorem dL_law_2572 : decode cL_law 2572 = .ok (.invokevirtual 157, 3) := by decide +kernel
theorem dL_law_2575 : decode cL_law 2575 = .ok (.lstore 25, 2) := by decide +kernel
theorem dL_law_2577 : decode cL_law 2577 = .ok (.aload_n 1, 1) := by decide +kernel
theorem dL_law_2578 : decode cL_law 2578 = .ok (.iload 27, 2) := by decide +kernel
theorem dL_law_2580 : decode cL_law 2580 = .ok (.iconst 0, 1) := by decide +kernel
theorem dL_law_2581 : decode cL_law 2581 = .ok (.invokevirtual 150, 3) := by decide +kernel
theorem dL_law_2584 : decode cL_law 2584 = .ok (.iconst 1, 1) := by decide +kernel
theorem dL_law_2585 : decode cL_law 2585 = .ok (.if_icmp .ne 32, 3) := by decide +kernel
theorem dL_law_2588 : decode cL_law 2588 = .ok (.aload_n 1, 1) := by decide +kernel
theorem dL_law_2589 : decode cL_law 2589 = .ok (.invokevirtual 153, 3) := by decide +kernel
theorem dL_law_2592 : decode cL_law 2592 = .ok (.iload 15, 2) := by decide +kernel
theorem dL_law_2594 : decode cL_law 2594 = .ok (.iload 27, 2) := by decide +kernel
theorem dL_law_2596 : decode cL_law 2596 = .ok (.if_icmp .lt 7, 3) := by decide +kernel
theorem dL_law_2599 : decode cL_law 2599 = .ok (.lconst 1, 1) := by decide +kernel
theorem dL_law_2600 : decode cL_law 2600 = .ok (.goto 4, 3) := by decide +kernel
theorem dL_law_2603 : decode cL_law 2603 = .ok (.lconst 0, 1) := by decide +kernel
theorem dL_law_2604 : decode cL_law 2604 = .ok (.lcmp, 1) := by decide +kernel
theorem dL_law_2605 : decode cL_law 2605 = .ok (.ifCond .ne 12, 3) := by decide +kernel
theorem dL_law_2608 : decode cL_law 2608 = .ok (.aload_n 1, 1) := by decide +kernel
theorem dL_law_2609 : decode cL_law 2609 = .ok (.invokevirtual 157, 3) := by decide +kernel
theorem dL_law_2612 : decode cL_law 2612 = .ok (.lconst 1, 1) := by decide +kernel
theorem dL_law_2613 : decode cL_law 2613 = .ok (.lcmp, 1) := by decide +kernel
theorem dL_law_2614 : decode cL_law 2614 = .ok (.ifCond .eq 5, 3) := by decide +kernel
theorem dL_law_2617 : decode cL_law 2617 = .ok (.iconst 0, 1) := by decide +kernel
theorem dL_law_2618 : decode cL_law 2618 = .ok (.ireturn, 1) := by decide +kernel
theorem dL_law_2619 : decode cL_law 2619 = .ok (.iinc 27 4, 3) := by decide +kernel
theorem dL_law_2622 : decode cL_law 2622 = .ok (.goto (-160), 3) := by decide +kernel
theorem dL_law_2625 : decode cL_law 2625 = .ok (.aload_n 1, 1) := by decide +kernel
theorem dL_law_2626 : decode cL_law 2626 = .ok (.iconst 0, 1) := by decide +kernel
theorem dL_law_2627 : decode cL_law 2627 = .ok (.invokevirtual 160, 3) := by decide +kernel
theorem dL_law_2630 : decode cL_law 2630 = .ok (.iconst 1, 1) := by decide +kernel
theorem dL_law_2631 : decode cL_law 2631 = .ok (.if_icmp .ne 58, 3) := by decide +kernel
theorem dL_law_2634 : decode cL_law 2634 = .ok (.aload_n 1, 1) := by decide +kernel
theorem dL_law_2635 : decode cL_law 2635 = .ok (.invokevirtual 153, 3) := by decide +kernel
theorem dL_law_2638 : decode cL_law 2638 = .ok (.iload 15, 2) := by decide +kernel
theorem dL_law_2640 : decode cL_law 2640 = .ok (.i2l, 1) := by decide +kernel
theorem dL_law_2641 : decode cL_law 2641 = .ok (.lcmp, 1) := by decide +kernel
theorem dL_law_2642 : decode cL_law 2642 = .ok (.ifCond .ne 47, 3) := by decide +kernel
theorem dL_law_2645 : decode cL_law 2645 = .ok (.aload_n 1, 1) := by decide +kernel
theorem dL_law_2646 : decode cL_law 2646 = .ok (.invokevirtual 157, 3) := by decide +kernel
theorem dL_law_2649 : decode cL_law 2649 = .ok (.lconst 1, 1) := by decide +kernel
theorem dL_law_2650 : decode cL_law 2650 = .ok (.lcmp, 1) := by decide +kernel
theorem dL_law_2651 : decode cL_law 2651 = .ok (.ifCond .ne 38, 3) := by decide +kernel
theorem dL_law_2654 : decode cL_law 2654 = .ok (.aload_n 1, 1) := by decide +kernel
theorem dL_law_2655 : decode cL_law 2655 = .ok (.iload 22, 2) := by decide +kernel
theorem dL_law_2657 : decode cL_law 2657 = .ok (.invokevirtual 160, 3) := by decide +kernel
theorem dL_law_2660 : decode cL_law 2660 = .ok (.iconst 1, 1) := by decide +kernel
theorem dL_law_2661 : decode cL_law 2661 = .ok (.if_icmp .ne 28, 3) := by decide +kernel
theorem dL_law_2664 : decode cL_law 2664 = .ok (.aload_n 1, 1) := by decide +kernel
theorem dL_law_2665 : decode cL_law 2665 = .ok (.invokevirtual 153, 3) := by decide +kernel
theorem dL_law_2668 : decode cL_law 2668 = .ok (.lconst 0, 1) := by decide +kernel
theorem dL_law_2669 : decode cL_law 2669 = .ok (.lcmp, 1) := by decide +kernel
theorem dL_law_2670 : decode cL_law 2670 = .ok (.ifCond .lt 19, 3) := by decide +kernel
theorem dL_law_2673 : decode cL_law 2673 = .ok (.aload_n 1, 1) := by decide +kernel
theorem dL_law_2674 : decode cL_law 2674 = .ok (.invokevirtual 153, 3) := by decide +kernel
theorem dL_law_2677 : decode cL_law 2677 = .ok (.iload 15, 2) := by decide +kernel
theorem dL_law_2679 : decode cL_law 2679 = .ok (.i2l, 1) := by decide +kernel
theorem dL_law_2680 : decode cL_law 2680 = .ok (.aload_n 1, 1) := by decide +kernel
theorem dL_law_2681 : decode cL_law 2681 = .ok (.invokevirtual 157, 3) := by decide +kernel
theorem dL_law_2684 : decode cL_law 2684 = .ok (.lmul, 1) := by decide +kernel
theorem dL_law_2685 : decode cL_law 2685 = .ok (.lcmp, 1) := by decide +kernel
theorem dL_law_2686 : decode cL_law 2686 = .ok (.ifCond .le 5, 3) := by decide +kernel
theorem dL_law_2689 : decode cL_law 2689 = .ok (.iconst 0, 1) := by decide +kernel
theorem dL_law_2690 : decode cL_law 2690 = .ok (.ireturn, 1) := by decide +kernel
theorem dL_law_2691 : decode cL_law 2691 = .ok (.iconst 1, 1) := by decide +kernel
theorem dL_law_2692 : decode cL_law 2692 = .ok (.aload_n 0, 1) := by decide +kernel
theorem dL_law_2693 : decode cL_law 2693 = .ok (.bipush 44, 2) := by decide +kernel
theorem dL_law_2695 : decode cL_law 2695 = .ok (.invokestatic 15, 3) := by decide +kernel
theorem dL_law_2698 : decode cL_law 2698 = .ok (.bipush 18, 2) := by decide +kernel
theorem dL_law_2700 : decode cL_law 2700 = .ok (.invokestatic 21, 3) := by decide +kernel
theorem dL_law_2703 : decode cL_law 2703 = .ok (.iadd, 1) := by decide +kernel
theorem dL_law_2704 : decode cL_law 2704 = .ok (.istore 27, 2) := by decide +kernel
theorem dL_law_2706 : decode cL_law 2706 = .ok (.iconst 1, 1) := by decide +kernel
theorem dL_law_2707 : decode cL_law 2707 = .ok (.aload_n 0, 1) := by decide +kernel
theorem dL_law_2708 : decode cL_law 2708 = .ok (.bipush 45, 2) := by decide +kernel
theorem dL_law_2710 : decode cL_law 2710 = .ok (.invokestatic 15, 3) := by decide +kernel
theorem dL_law_2713 : decode cL_law 2713 = .ok (.ldc 163, 2) := by decide +kernel
theorem dL_law_2715 : decode cL_law 2715 = .ok (.invokestatic 21, 3) := by decide +kernel
theorem dL_law_2718 : decode cL_law 2718 = .ok (.iadd, 1) := by decide +kernel
theorem dL_law_2719 : decode cL_law 2719 = .ok (.istore 28, 2) := by decide +kernel
theorem dL_law_2721 : decode cL_law 2721 = .ok (.aload_n 1, 1) := by decide +kernel
theorem dL_law_2722 : decode cL_law 2722 = .ok (.iload 27, 2) := by decide +kernel
theorem dL_law_2724 : decode cL_law 2724 = .ok (.iload 28, 2) := by decide +kernel
theorem dL_law_2726 : decode cL_law 2726 = .ok (.invokevirtual 164, 3) := by decide +kernel
theorem dL_law_2729 : decode cL_law 2729 = .ok (.istore 29, 2) := by decide +kernel
theorem dL_law_2731 : decode cL_law 2731 = .ok (.iload 7, 2) := by decide +kernel
theorem dL_law_2733 : decode cL_law 2733 = .ok (.iload 27, 2) := by decide +kernel
theorem dL_law_2735 : decode cL_law 2735 = .ok (.iadd, 1) := by decide +kernel
theorem dL_law_2736 : decode cL_law 2736 = .ok (.bipush 40, 2) := by decide +kernel
theorem dL_law_2738 : decode cL_law 2738 = .ok (.if_icmp .le 13, 3) := by decide +kernel
theorem dL_law_2741 : decode cL_law 2741 = .ok (.iload 29, 2) := by decide +kernel
theorem dL_law_2743 : decode cL_law 2743 = .ok (.bipush (-2), 2) := by decide +kernel
theorem dL_law_2745 : decode cL_law 2745 = .ok (.if_icmp .eq 85, 3) := by decide +kernel
theorem dL_law_2748 : decode cL_law 2748 = .ok (.goto 80, 3) := by decide +kernel
theorem dL_law_2751 : decode cL_law 2751 = .ok (.iload 29, 2) := by decide +kernel
theorem dL_law_2753 : decode cL_law 2753 = .ok (.aload_n 1, 1) := by decide +kernel
theorem dL_law_2754 : decode cL_law 2754 = .ok (.iconst 1, 1) := by decide +kernel
theorem dL_law_2755 : decode cL_law 2755 = .ok (.invokevirtual 42, 3) := by decide +kernel
theorem dL_law_2758 : decode cL_law 2758 = .ok (.if_icmp .ne 70, 3) := by decide +kernel
theorem dL_law_2761 : decode cL_law 2761 = .ok (.aload_n 1, 1) := by decide +kernel
theorem dL_law_2762 : decode cL_law 2762 = .ok (.iconst 2, 1) := by decide +kernel
theorem dL_law_2763 : decode cL_law 2763 = .ok (.invokevirtual 42, 3) := by decide +kernel
theorem dL_law_2766 : decode cL_law 2766 = .ok (.iload 7, 2) := by decide +kernel
theorem dL_law_2768 : decode cL_law 2768 = .ok (.iload 27, 2) := by decide +kernel
theorem dL_law_2770 : decode cL_law 2770 = .ok (.iadd, 1) := by decide +kernel
theorem dL_law_2771 : decode cL_law 2771 = .ok (.if_icmp .ne 57, 3) := by decide +kernel
theorem dL_law_2774 : decode cL_law 2774 = .ok (.aload_n 1, 1) := by decide +kernel
theorem dL_law_2775 : decode cL_law 2775 = .ok (.iconst 5, 1) := by decide +kernel
theorem dL_law_2776 : decode cL_law 2776 = .ok (.invokevirtual 42, 3) := by decide +kernel
theorem dL_law_2779 : decode cL_law 2779 = .ok (.iload 11, 2) := by decide +kernel
theorem dL_law_2781 : decode cL_law 2781 = .ok (.if_icmp .ne 47, 3) := by decide +kernel
theorem dL_law_2784 : decode cL_law 2784 = .ok (.aload_n 1, 1) := by decide +kernel
theorem dL_law_2785 : decode cL_law 2785 = .ok (.iload 7, 2) := by decide +kernel
theorem dL_law_2787 : decode cL_law 2787 = .ok (.invokevirtual 107, 3) := by decide +kernel
theorem dL_law_2790 : decode cL_law 2790 = .ok (.iload 27, 2) := by decide +kernel
theorem dL_law_2792 : decode cL_law 2792 = .ok (.if_icmp .ne 36, 3) := by decide +kernel
theorem dL_law_2795 : decode cL_law 2795 = .ok (.aload_n 1, 1) := by decide +kernel
theorem dL_law_2796 : decode cL_law 2796 = .ok (.iconst 1, 1) := by decide +kernel
theorem dL_law_2797 : decode cL_law 2797 = .ok (.invokevirtual 42, 3) := by decide +kernel
theorem dL_law_2800 : decode cL_law 2800 = .ok (.iload 8, 2) := by decide +kernel
theorem dL_law_2802 : decode cL_law 2802 = .ok (.if_icmp .ne 26, 3) := by decide +kernel
theorem dL_law_2805 : decode cL_law 2805 = .ok (.aload_n 1, 1) := by decide +kernel
theorem dL_law_2806 : decode cL_law 2806 = .ok (.iload 27, 2) := by decide +kernel
theorem dL_law_2808 : decode cL_law 2808 = .ok (.iload 28, 2) := by decide +kernel
theorem dL_law_2810 : decode cL_law 2810 = .ok (.invokevirtual 164, 3) := by decide +kernel
theorem dL_law_2813 : decode cL_law 2813 = .ok (.iload 29, 2) := by decide +kernel
theorem dL_law_2815 : decode cL_law 2815 = .ok (.if_icmp .ne 13, 3) := by decide +kernel
theorem dL_law_2818 : decode cL_law 2818 = .ok (.aload_n 1, 1) := by decide +kernel
theorem dL_law_2819 : decode cL_law 2819 = .ok (.iconst 1, 1) := by decide +kernel
theorem dL_law_2820 : decode cL_law 2820 = .ok (.invokevirtual 113, 3) := by decide +kernel
theorem dL_law_2823 : decode cL_law 2823 = .ok (.iload 7, 2) := by decide +kernel
theorem dL_law_2825 : decode cL_law 2825 = .ok (.if_icmp .eq 5, 3) := by decide +kernel
theorem dL_law_2828 : decode cL_law 2828 = .ok (.iconst 0, 1) := by decide +kernel
theorem dL_law_2829 : decode cL_law 2829 = .ok (.ireturn, 1) := by decide +kernel
theorem dL_law_2830 : decode cL_law 2830 = .ok (.aload_n 1, 1) := by decide +kernel
theorem dL_law_2831 : decode cL_law 2831 = .ok (.iconst 1, 1) := by decide +kernel
theorem dL_law_2832 : decode cL_law 2832 = .ok (.invokevirtual 42, 3) := by decide +kernel
theorem dL_law_2835 : decode cL_law 2835 = .ok (.iload 8, 2) := by decide +kernel
theorem dL_law_2837 : decode cL_law 2837 = .ok (.if_icmp .ne 89, 3) := by decide +kernel
theorem dL_law_2840 : decode cL_law 2840 = .ok (.aload_n 1, 1) := by decide +kernel
theorem dL_law_2841 : decode cL_law 2841 = .ok (.iconst 3, 1) := by decide +kernel
theorem dL_law_2842 : decode cL_law 2842 = .ok (.invokevirtual 42, 3) := by decide +kernel
theorem dL_law_2845 : decode cL_law 2845 = .ok (.iload 9, 2) := by decide +kernel
theorem dL_law_2847 : decode cL_law 2847 = .ok (.if_icmp .ne 79, 3) := by decide +kernel
