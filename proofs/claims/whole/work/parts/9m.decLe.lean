theorem dL_law_2465 : decode cL_law 2465 = .ok (.ifCond .ne 15, 3) := by decide +kernel
theorem dL_law_2468 : decode cL_law 2468 = .ok (.aload_n 3, 1) := by decide +kernel
theorem dL_law_2469 : decode cL_law 2469 = .ok (.iconst 0, 1) := by decide +kernel
theorem dL_law_2470 : decode cL_law 2470 = .ok (.laload, 1) := by decide +kernel
theorem dL_law_2471 : decode cL_law 2471 = .ok (.iload 6, 2) := by decide +kernel
theorem dL_law_2473 : decode cL_law 2473 = .ok (.i2l, 1) := by decide +kernel
theorem dL_law_2474 : decode cL_law 2474 = .ok (.lcmp, 1) := by decide +kernel
theorem dL_law_2475 : decode cL_law 2475 = .ok (.ifCond .eq 5, 3) := by decide +kernel
theorem dL_law_2478 : decode cL_law 2478 = .ok (.iconst 0, 1) := by decide +kernel
theorem dL_law_2479 : decode cL_law 2479 = .ok (.ireturn, 1) := by decide +kernel
theorem dL_law_2480 : decode cL_law 2480 = .ok (.goto 1070, 3) := by decide +kernel
theorem dL_law_2483 : decode cL_law 2483 = .ok (.aload_n 1, 1) := by decide +kernel
theorem dL_law_2484 : decode cL_law 2484 = .ok (.aload_n 0, 1) := by decide +kernel
theorem dL_law_2485 : decode cL_law 2485 = .ok (.iload 4, 2) := by decide +kernel
theorem dL_law_2487 : decode cL_law 2487 = .ok (.iconst 1, 1) := by decide +kernel
theorem dL_law_2488 : decode cL_law 2488 = .ok (.iadd, 1) := by decide +kernel
theorem dL_law_2489 : decode cL_law 2489 = .ok (.iaload, 1) := by decide +kernel
theorem dL_law_2490 : decode cL_law 2490 = .ok (.aload_n 0, 1) := by decide +kernel
theorem dL_law_2491 : decode cL_law 2491 = .ok (.iload 4, 2) := by decide +kernel
theorem dL_law_2493 : decode cL_law 2493 = .ok (.iconst 2, 1) := by decide +kernel
theorem dL_law_2494 : decode cL_law 2494 = .ok (.iadd, 1) := by decide +kernel
theorem dL_law_2495 : decode cL_law 2495 = .ok (.iaload, 1) := by decide +kernel
theorem dL_law_2496 : decode cL_law 2496 = .ok (.aload_n 0, 1) := by decide +kernel
theorem dL_law_2497 : decode cL_law 2497 = .ok (.iload 4, 2) := by decide +kernel
theorem dL_law_2499 : decode cL_law 2499 = .ok (.iconst 3, 1) := by decide +kernel
theorem dL_law_2500 : decode cL_law 2500 = .ok (.iadd, 1) := by decide +kernel
theorem dL_law_2501 : decode cL_law 2501 = .ok (.iaload, 1) := by decide +kernel
theorem dL_law_2502 : decode cL_law 2502 = .ok (.aload_n 0, 1) := by decide +kernel
theorem dL_law_2503 : decode cL_law 2503 = .ok (.iload 4, 2) := by decide +kernel
theorem dL_law_2505 : decode cL_law 2505 = .ok (.iconst 4, 1) := by decide +kernel
theorem dL_law_2506 : decode cL_law 2506 = .ok (.iadd, 1) := by decide +kernel
theorem dL_law_2507 : decode cL_law 2507 = .ok (.iaload, 1) := by decide +kernel
theorem dL_law_2508 : decode cL_law 2508 = .ok (.aload_n 3, 1) := by decide +kernel
theorem dL_law_2509 : decode cL_law 2509 = .ok (.invokestatic 273, 3) := by decide +kernel
theorem dL_law_2512 : decode cL_law 2512 = .ok (.istore 5, 2) := by decide +kernel
theorem dL_law_2514 : decode cL_law 2514 = .ok (.aload_n 2, 1) := by decide +kernel
theorem dL_law_2515 : decode cL_law 2515 = .ok (.aload_n 0, 1) := by decide +kernel
theorem dL_law_2516 : decode cL_law 2516 = .ok (.iload 4, 2) := by decide +kernel
theorem dL_law_2518 : decode cL_law 2518 = .ok (.iconst 1, 1) := by decide +kernel
theorem dL_law_2519 : decode cL_law 2519 = .ok (.iadd, 1) := by decide +kernel
theorem dL_law_2520 : decode cL_law 2520 = .ok (.iaload, 1) := by decide +kernel
theorem dL_law_2521 : decode cL_law 2521 = .ok (.aload_n 0, 1) := by decide +kernel
theorem dL_law_2522 : decode cL_law 2522 = .ok (.iload 4, 2) := by decide +kernel
theorem dL_law_2524 : decode cL_law 2524 = .ok (.iconst 2, 1) := by decide +kernel
theorem dL_law_2525 : decode cL_law 2525 = .ok (.iadd, 1) := by decide +kernel
theorem dL_law_2526 : decode cL_law 2526 = .ok (.iaload, 1) := by decide +kernel
theorem dL_law_2527 : decode cL_law 2527 = .ok (.aload_n 0, 1) := by decide +kernel
theorem dL_law_2528 : decode cL_law 2528 = .ok (.iload 4, 2) := by decide +kernel
theorem dL_law_2530 : decode cL_law 2530 = .ok (.iconst 3, 1) := by decide +kernel
theorem dL_law_2531 : decode cL_law 2531 = .ok (.iadd, 1) := by decide +kernel
theorem dL_law_2532 : decode cL_law 2532 = .ok (.iaload, 1) := by decide +kernel
theorem dL_law_2533 : decode cL_law 2533 = .ok (.aload_n 0, 1) := by decide +kernel
theorem dL_law_2534 : decode cL_law 2534 = .ok (.iload 4, 2) := by decide +kernel
theorem dL_law_2536 : decode cL_law 2536 = .ok (.iconst 4, 1) := by decide +kernel
theorem dL_law_2537 : decode cL_law 2537 = .ok (.iadd, 1) := by decide +kernel
theorem dL_law_2538 : decode cL_law 2538 = .ok (.iaload, 1) := by decide +kernel
theorem dL_law_2539 : decode cL_law 2539 = .ok (.invokevirtual 275, 3) := by decide +kernel
theorem dL_law_2542 : decode cL_law 2542 = .ok (.istore 6, 2) := by decide +kernel
theorem dL_law_2544 : decode cL_law 2544 = .ok (.aload_n 2, 1) := by decide +kernel
theorem dL_law_2545 : decode cL_law 2545 = .ok (.invokevirtual 170, 3) := by decide +kernel
theorem dL_law_2548 : decode cL_law 2548 = .ok (.iload 5, 2) := by decide +kernel
theorem dL_law_2550 : decode cL_law 2550 = .ok (.if_icmp .eq 5, 3) := by decide +kernel
theorem dL_law_2553 : decode cL_law 2553 = .ok (.iconst 0, 1) := by decide +kernel
theorem dL_law_2554 : decode cL_law 2554 = .ok (.ireturn, 1) := by decide +kernel
theorem dL_law_2555 : decode cL_law 2555 = .ok (.iload 5, 2) := by decide +kernel
theorem dL_law_2557 : decode cL_law 2557 = .ok (.ifCond .ne 15, 3) := by decide +kernel
theorem dL_law_2560 : decode cL_law 2560 = .ok (.aload_n 3, 1) := by decide +kernel
theorem dL_law_2561 : decode cL_law 2561 = .ok (.iconst 0, 1) := by decide +kernel
theorem dL_law_2562 : decode cL_law 2562 = .ok (.laload, 1) := by decide +kernel
theorem dL_law_2563 : decode cL_law 2563 = .ok (.iload 6, 2) := by decide +kernel
theorem dL_law_2565 : decode cL_law 2565 = .ok (.i2l, 1) := by decide +kernel
theorem dL_law_2566 : decode cL_law 2566 = .ok (.lcmp, 1) := by decide +kernel
theorem dL_law_2567 : decode cL_law 2567 = .ok (.ifCond .eq 5, 3) := by decide +kernel
theorem dL_law_2570 : decode cL_law 2570 = .ok (.iconst 0, 1) := by decide +kernel
theorem dL_law_2571 : decode cL_law 2571 = .ok (.ireturn, 1) := by decide +kernel
theorem dL_law_2572 : decode cL_law 2572 = .ok (.goto 978, 3) := by decide +kernel
theorem dL_law_2575 : decode cL_law 2575 = .ok (.aload_n 1, 1) := by decide +kernel
theorem dL_law_2576 : decode cL_law 2576 = .ok (.aload_n 0, 1) := by decide +kernel
theorem dL_law_2577 : decode cL_law 2577 = .ok (.iload 4, 2) := by decide +kernel
theorem dL_law_2579 : decode cL_law 2579 = .ok (.iconst 1, 1) := by decide +kernel
theorem dL_law_2580 : decode cL_law 2580 = .ok (.iadd, 1) := by decide +kernel
theorem dL_law_2581 : decode cL_law 2581 = .ok (.iaload, 1) := by decide +kernel
theorem dL_law_2582 : decode cL_law 2582 = .ok (.aload_n 0, 1) := by decide +kernel
theorem dL_law_2583 : decode cL_law 2583 = .ok (.iload 4, 2) := by decide +kernel
theorem dL_law_2585 : decode cL_law 2585 = .ok (.iconst 2, 1) := by decide +kernel
theorem dL_law_2586 : decode cL_law 2586 = .ok (.iadd, 1) := by decide +kernel
theorem dL_law_2587 : decode cL_law 2587 = .ok (.iaload, 1) := by decide +kernel
theorem dL_law_2588 : decode cL_law 2588 = .ok (.aload_n 0, 1) := by decide +kernel
theorem dL_law_2589 : decode cL_law 2589 = .ok (.iload 4, 2) := by decide +kernel
theorem dL_law_2591 : decode cL_law 2591 = .ok (.iconst 3, 1) := by decide +kernel
theorem dL_law_2592 : decode cL_law 2592 = .ok (.iadd, 1) := by decide +kernel
theorem dL_law_2593 : decode cL_law 2593 = .ok (.iaload, 1) := by decide +kernel
theorem dL_law_2594 : decode cL_law 2594 = .ok (.aload_n 0, 1) := by decide +kernel
theorem dL_law_2595 : decode cL_law 2595 = .ok (.iload 4, 2) := by decide +kernel
theorem dL_law_2597 : decode cL_law 2597 = .ok (.iconst 4, 1) := by decide +kernel
theorem dL_law_2598 : decode cL_law 2598 = .ok (.iadd, 1) := by decide +kernel
theorem dL_law_2599 : decode cL_law 2599 = .ok (.iaload, 1) := by decide +kernel
theorem dL_law_2600 : decode cL_law 2600 = .ok (.aload_n 3, 1) := by decide +kernel
theorem dL_law_2601 : decode cL_law 2601 = .ok (.invokestatic 276, 3) := by decide +kernel
theorem dL_law_2604 : decode cL_law 2604 = .ok (.istore 5, 2) := by decide +kernel
theorem dL_law_2606 : decode cL_law 2606 = .ok (.aload_n 2, 1) := by decide +kernel
theorem dL_law_2607 : decode cL_law 2607 = .ok (.aload_n 0, 1) := by decide +kernel
theorem dL_law_2608 : decode cL_law 2608 = .ok (.iload 4, 2) := by decide +kernel
theorem dL_law_2610 : decode cL_law 2610 = .ok (.iconst 1, 1) := by decide +kernel
theorem dL_law_2611 : decode cL_law 2611 = .ok (.iadd, 1) := by decide +kernel
theorem dL_law_2612 : decode cL_law 2612 = .ok (.iaload, 1) := by decide +kernel
theorem dL_law_2613 : decode cL_law 2613 = .ok (.aload_n 0, 1) := by decide +kernel
theorem dL_law_2614 : decode cL_law 2614 = .ok (.iload 4, 2) := by decide +kernel
theorem dL_law_2616 : decode cL_law 2616 = .ok (.iconst 2, 1) := by decide +kernel
theorem dL_law_2617 : decode cL_law 2617 = .ok (.iadd, 1) := by decide +kernel
theorem dL_law_2618 : decode cL_law 2618 = .ok (.iaload, 1) := by decide +kernel
theorem dL_law_2619 : decode cL_law 2619 = .ok (.aload_n 0, 1) := by decide +kernel
theorem dL_law_2620 : decode cL_law 2620 = .ok (.iload 4, 2) := by decide +kernel
theorem dL_law_2622 : decode cL_law 2622 = .ok (.iconst 3, 1) := by decide +kernel
theorem dL_law_2623 : decode cL_law 2623 = .ok (.iadd, 1) := by decide +kernel
theorem dL_law_2624 : decode cL_law 2624 = .ok (.iaload, 1) := by decide +kernel
theorem dL_law_2625 : decode cL_law 2625 = .ok (.aload_n 0, 1) := by decide +kernel
theorem dL_law_2626 : decode cL_law 2626 = .ok (.iload 4, 2) := by decide +kernel
theorem dL_law_2628 : decode cL_law 2628 = .ok (.iconst 4, 1) := by decide +kernel
theorem dL_law_2629 : decode cL_law 2629 = .ok (.iadd, 1) := by decide +kernel
theorem dL_law_2630 : decode cL_law 2630 = .ok (.iaload, 1) := by decide +kernel
theorem dL_law_2631 : decode cL_law 2631 = .ok (.invokevirtual 278, 3) := by decide +kernel
theorem dL_law_2634 : decode cL_law 2634 = .ok (.istore 6, 2) := by decide +kernel
theorem dL_law_2636 : decode cL_law 2636 = .ok (.aload_n 2, 1) := by decide +kernel
theorem dL_law_2637 : decode cL_law 2637 = .ok (.invokevirtual 170, 3) := by decide +kernel
theorem dL_law_2640 : decode cL_law 2640 = .ok (.iload 5, 2) := by decide +kernel
theorem dL_law_2642 : decode cL_law 2642 = .ok (.if_icmp .eq 5, 3) := by decide +kernel
theorem dL_law_2645 : decode cL_law 2645 = .ok (.iconst 0, 1) := by decide +kernel
theorem dL_law_2646 : decode cL_law 2646 = .ok (.ireturn, 1) := by decide +kernel
theorem dL_law_2647 : decode cL_law 2647 = .ok (.iload 5, 2) := by decide +kernel
theorem dL_law_2649 : decode cL_law 2649 = .ok (.ifCond .ne 15, 3) := by decide +kernel
theorem dL_law_2652 : decode cL_law 2652 = .ok (.aload_n 3, 1) := by decide +kernel
theorem dL_law_2653 : decode cL_law 2653 = .ok (.iconst 0, 1) := by decide +kernel
theorem dL_law_2654 : decode cL_law 2654 = .ok (.laload, 1) := by decide +kernel
theorem dL_law_2655 : decode cL_law 2655 = .ok (.iload 6, 2) := by decide +kernel
theorem dL_law_2657 : decode cL_law 2657 = .ok (.i2l, 1) := by decide +kernel
theorem dL_law_2658 : decode cL_law 2658 = .ok (.lcmp, 1) := by decide +kernel
theorem dL_law_2659 : decode cL_law 2659 = .ok (.ifCond .eq 5, 3) := by decide +kernel
theorem dL_law_2662 : decode cL_law 2662 = .ok (.iconst 0, 1) := by decide +kernel
theorem dL_law_2663 : decode cL_law 2663 = .ok (.ireturn, 1) := by decide +kernel
theorem dL_law_2664 : decode cL_law 2664 = .ok (.goto 886, 3) := by decide +kernel
theorem dL_law_2667 : decode cL_law 2667 = .ok (.aload_n 1, 1) := by decide +kernel
theorem dL_law_2668 : decode cL_law 2668 = .ok (.aload_n 0, 1) := by decide +kernel
theorem dL_law_2669 : decode cL_law 2669 = .ok (.iload 4, 2) := by decide +kernel
theorem dL_law_2671 : decode cL_law 2671 = .ok (.iconst 1, 1) := by decide +kernel
theorem dL_law_2672 : decode cL_law 2672 = .ok (.iadd, 1) := by decide +kernel
theorem dL_law_2673 : decode cL_law 2673 = .ok (.iaload, 1) := by decide +kernel
theorem dL_law_2674 : decode cL_law 2674 = .ok (.aload_n 0, 1) := by decide +kernel
theorem dL_law_2675 : decode cL_law 2675 = .ok (.iload 4, 2) := by decide +kernel
theorem dL_law_2677 : decode cL_law 2677 = .ok (.iconst 2, 1) := by decide +kernel
theorem dL_law_2678 : decode cL_law 2678 = .ok (.iadd, 1) := by decide +kernel
theorem dL_law_2679 : decode cL_law 2679 = .ok (.iaload, 1) := by decide +kernel
theorem dL_law_2680 : decode cL_law 2680 = .ok (.aload_n 0, 1) := by decide +kernel
theorem dL_law_2681 : decode cL_law 2681 = .ok (.iload 4, 2) := by decide +kernel
theorem dL_law_2683 : decode cL_law 2683 = .ok (.iconst 3, 1) := by decide +kernel
theorem dL_law_2684 : decode cL_law 2684 = .ok (.iadd, 1) := by decide +kernel
theorem dL_law_2685 : decode cL_law 2685 = .ok (.iaload, 1) := by decide +kernel
theorem dL_law_2686 : decode cL_law 2686 = .ok (.aload_n 0, 1) := by decide +kernel
theorem dL_law_2687 : decode cL_law 2687 = .ok (.iload 4, 2) := by decide +kernel
theorem dL_law_2689 : decode cL_law 2689 = .ok (.iconst 4, 1) := by decide +kernel
theorem dL_law_2690 : decode cL_law 2690 = .ok (.iadd, 1) := by decide +kernel
theorem dL_law_2691 : decode cL_law 2691 = .ok (.iaload, 1) := by decide +kernel
theorem dL_law_2692 : decode cL_law 2692 = .ok (.aload_n 3, 1) := by decide +kernel
theorem dL_law_2693 : decode cL_law 2693 = .ok (.invokestatic 279, 3) := by decide +kernel
theorem dL_law_2696 : decode cL_law 2696 = .ok (.istore 5, 2) := by decide +kernel
theorem dL_law_2698 : decode cL_law 2698 = .ok (.aload_n 2, 1) := by decide +kernel
theorem dL_law_2699 : decode cL_law 2699 = .ok (.aload_n 0, 1) := by decide +kernel
theorem dL_law_2700 : decode cL_law 2700 = .ok (.iload 4, 2) := by decide +kernel
theorem dL_law_2702 : decode cL_law 2702 = .ok (.iconst 1, 1) := by decide +kernel
theorem dL_law_2703 : decode cL_law 2703 = .ok (.iadd, 1) := by decide +kernel
theorem dL_law_2704 : decode cL_law 2704 = .ok (.iaload, 1) := by decide +kernel
theorem dL_law_2705 : decode cL_law 2705 = .ok (.aload_n 0, 1) := by decide +kernel
theorem dL_law_2706 : decode cL_law 2706 = .ok (.iload 4, 2) := by decide +kernel
theorem dL_law_2708 : decode cL_law 2708 = .ok (.iconst 2, 1) := by decide +kernel
theorem dL_law_2709 : decode cL_law 2709 = .ok (.iadd, 1) := by decide +kernel
theorem dL_law_2710 : decode cL_law 2710 = .ok (.iaload, 1) := by decide +kernel
theorem dL_law_2711 : decode cL_law 2711 = .ok (.aload_n 0, 1) := by decide +kernel
theorem dL_law_2712 : decode cL_law 2712 = .ok (.iload 4, 2) := by decide +kernel
theorem dL_law_2714 : decode cL_law 2714 = .ok (.iconst 3, 1) := by decide +kernel
theorem dL_law_2715 : decode cL_law 2715 = .ok (.iadd, 1) := by decide +kernel
theorem dL_law_2716 : decode cL_law 2716 = .ok (.iaload, 1) := by decide +kernel
theorem dL_law_2717 : decode cL_law 2717 = .ok (.aload_n 0, 1) := by decide +kernel
theorem dL_law_2718 : decode cL_law 2718 = .ok (.iload 4, 2) := by decide +kernel
theorem dL_law_2720 : decode cL_law 2720 = .ok (.iconst 4, 1) := by decide +kernel
theorem dL_law_2721 : decode cL_law 2721 = .ok (.iadd, 1) := by decide +kernel
theorem dL_law_2722 : decode cL_law 2722 = .ok (.iaload, 1) := by decide +kernel
theorem dL_law_2723 : decode cL_law 2723 = .ok (.invokevirtual 281, 3) := by decide +kernel
theorem dL_law_2726 : decode cL_law 2726 = .ok (.lstore 6, 2) := by decide +kernel
theorem dL_law_2728 : decode cL_law 2728 = .ok (.aload_n 2, 1) := by decide +kernel
theorem dL_law_2729 : decode cL_law 2729 = .ok (.invokevirtual 170, 3) := by decide +kernel
theorem dL_law_2732 : decode cL_law 2732 = .ok (.iload 5, 2) := by decide +kernel
theorem dL_law_2734 : decode cL_law 2734 = .ok (.if_icmp .eq 5, 3) := by decide +kernel
theorem dL_law_2737 : decode cL_law 2737 = .ok (.iconst 0, 1) := by decide +kernel
theorem dL_law_2738 : decode cL_law 2738 = .ok (.ireturn, 1) := by decide +kernel
theorem dL_law_2739 : decode cL_law 2739 = .ok (.iload 5, 2) := by decide +kernel
theorem dL_law_2741 : decode cL_law 2741 = .ok (.ifCond .ne 14, 3) := by decide +kernel
theorem dL_law_2744 : decode cL_law 2744 = .ok (.aload_n 3, 1) := by decide +kernel
theorem dL_law_2745 : decode cL_law 2745 = .ok (.iconst 0, 1) := by decide +kernel
theorem dL_law_2746 : decode cL_law 2746 = .ok (.laload, 1) := by decide +kernel
theorem dL_law_2747 : decode cL_law 2747 = .ok (.lload 6, 2) := by decide +kernel
theorem dL_law_2749 : decode cL_law 2749 = .ok (.lcmp, 1) := by decide +kernel
theorem dL_law_2750 : decode cL_law 2750 = .ok (.ifCond .eq 5, 3) := by decide +kernel
theorem dL_law_2753 : decode cL_law 2753 = .ok (.iconst 0, 1) := by decide +kernel
theorem dL_law_2754 : decode cL_law 2754 = .ok (.ireturn, 1) := by decide +kernel
theorem dL_law_2755 : decode cL_law 2755 = .ok (.goto 795, 3) := by decide +kernel
theorem dL_law_2758 : decode cL_law 2758 = .ok (.aload_n 1, 1) := by decide +kernel
theorem dL_law_2759 : decode cL_law 2759 = .ok (.aload_n 0, 1) := by decide +kernel
theorem dL_law_2760 : decode cL_law 2760 = .ok (.iload 4, 2) := by decide +kernel
theorem dL_law_2762 : decode cL_law 2762 = .ok (.iconst 1, 1) := by decide +kernel
theorem dL_law_2763 : decode cL_law 2763 = .ok (.iadd, 1) := by decide +kernel
theorem dL_law_2764 : decode cL_law 2764 = .ok (.iaload, 1) := by decide +kernel
theorem dL_law_2765 : decode cL_law 2765 = .ok (.aload_n 0, 1) := by decide +kernel
theorem dL_law_2766 : decode cL_law 2766 = .ok (.iload 4, 2) := by decide +kernel
theorem dL_law_2768 : decode cL_law 2768 = .ok (.iconst 2, 1) := by decide +kernel
theorem dL_law_2769 : decode cL_law 2769 = .ok (.iadd, 1) := by decide +kernel
theorem dL_law_2770 : decode cL_law 2770 = .ok (.iaload, 1) := by decide +kernel
theorem dL_law_2771 : decode cL_law 2771 = .ok (.aload_n 0, 1) := by decide +kernel
theorem dL_law_2772 : decode cL_law 2772 = .ok (.iload 4, 2) := by decide +kernel
theorem dL_law_2774 : decode cL_law 2774 = .ok (.iconst 3, 1) := by decide +kernel
theorem dL_law_2775 : decode cL_law 2775 = .ok (.iadd, 1) := by decide +kernel
theorem dL_law_2776 : decode cL_law 2776 = .ok (.iaload, 1) := by decide +kernel
theorem dL_law_2777 : decode cL_law 2777 = .ok (.aload_n 3, 1) := by decide +kernel
theorem dL_law_2778 : decode cL_law 2778 = .ok (.invokestatic 282, 3) := by decide +kernel
theorem dL_law_2781 : decode cL_law 2781 = .ok (.istore 5, 2) := by decide +kernel
theorem dL_law_2783 : decode cL_law 2783 = .ok (.aload_n 2, 1) := by decide +kernel
theorem dL_law_2784 : decode cL_law 2784 = .ok (.aload_n 0, 1) := by decide +kernel
theorem dL_law_2785 : decode cL_law 2785 = .ok (.iload 4, 2) := by decide +kernel
theorem dL_law_2787 : decode cL_law 2787 = .ok (.iconst 1, 1) := by decide +kernel
theorem dL_law_2788 : decode cL_law 2788 = .ok (.iadd, 1) := by decide +kernel
theorem dL_law_2789 : decode cL_law 2789 = .ok (.iaload, 1) := by decide +kernel
theorem dL_law_2790 : decode cL_law 2790 = .ok (.aload_n 0, 1) := by decide +kernel
theorem dL_law_2791 : decode cL_law 2791 = .ok (.iload 4, 2) := by decide +kernel
theorem dL_law_2793 : decode cL_law 2793 = .ok (.iconst 2, 1) := by decide +kernel
theorem dL_law_2794 : decode cL_law 2794 = .ok (.iadd, 1) := by decide +kernel
theorem dL_law_2795 : decode cL_law 2795 = .ok (.iaload, 1) := by decide +kernel
theorem dL_law_2796 : decode cL_law 2796 = .ok (.aload_n 0, 1) := by decide +kernel
theorem dL_law_2797 : decode cL_law 2797 = .ok (.iload 4, 2) := by decide +kernel
theorem dL_law_2799 : decode cL_law 2799 = .ok (.iconst 3, 1) := by decide +kernel
theorem dL_law_2800 : decode cL_law 2800 = .ok (.iadd, 1) := by decide +kernel
theorem dL_law_2801 : decode cL_law 2801 = .ok (.iaload, 1) := by decide +kernel
theorem dL_law_2802 : decode cL_law 2802 = .ok (.invokevirtual 284, 3) := by decide +kernel
theorem dL_law_2805 : decode cL_law 2805 = .ok (.istore 6, 2) := by decide +kernel
theorem dL_law_2807 : decode cL_law 2807 = .ok (.aload_n 2, 1) := by decide +kernel
theorem dL_law_2808 : decode cL_law 2808 = .ok (.invokevirtual 170, 3) := by decide +kernel
theorem dL_law_2811 : decode cL_law 2811 = .ok (.iload 5, 2) := by decide +kernel
theorem dL_law_2813 : decode cL_law 2813 = .ok (.if_icmp .eq 5, 3) := by decide +kernel
theorem dL_law_2816 : decode cL_law 2816 = .ok (.iconst 0, 1) := by decide +kernel
theorem dL_law_2817 : decode cL_law 2817 = .ok (.ireturn, 1) := by decide +kernel
theorem dL_law_2818 : decode cL_law 2818 = .ok (.iload 5, 2) := by decide +kernel
theorem dL_law_2820 : decode cL_law 2820 = .ok (.ifCond .ne 15, 3) := by decide +kernel
theorem dL_law_2823 : decode cL_law 2823 = .ok (.aload_n 3, 1) := by decide +kernel
theorem dL_law_2824 : decode cL_law 2824 = .ok (.iconst 0, 1) := by decide +kernel
theorem dL_law_2825 : decode cL_law 2825 = .ok (.laload, 1) := by decide +kernel
theorem dL_law_2826 : decode cL_law 2826 = .ok (.iload 6, 2) := by decide +kernel
theorem dL_law_2828 : decode cL_law 2828 = .ok (.i2l, 1) := by decide +kernel
theorem dL_law_2829 : decode cL_law 2829 = .ok (.lcmp, 1) := by decide +kernel
theorem dL_law_2830 : decode cL_law 2830 = .ok (.ifCond .eq 5, 3) := by decide +kernel
theorem dL_law_2833 : decode cL_law 2833 = .ok (.iconst 0, 1) := by decide +kernel
theorem dL_law_2834 : decode cL_law 2834 = .ok (.ireturn, 1) := by decide +kernel
theorem dL_law_2835 : decode cL_law 2835 = .ok (.goto 715, 3) := by decide +kernel
theorem dL_law_2838 : decode cL_law 2838 = .ok (.aload_n 1, 1) := by decide +kernel
theorem dL_law_2839 : decode cL_law 2839 = .ok (.aload_n 0, 1) := by decide +kernel
theorem dL_law_2840 : decode cL_law 2840 = .ok (.iload 4, 2) := by decide +kernel
theorem dL_law_2842 : decode cL_law 2842 = .ok (.iconst 1, 1) := by decide +kernel
theorem dL_law_2843 : decode cL_law 2843 = .ok (.iadd, 1) := by decide +kernel
theorem dL_law_2844 : decode cL_law 2844 = .ok (.iaload, 1) := by decide +kernel
theorem dL_law_2845 : decode cL_law 2845 = .ok (.aload_n 3, 1) := by decide +kernel
theorem dL_law_2846 : decode cL_law 2846 = .ok (.invokestatic 285, 3) := by decide +kernel
theorem dL_law_2849 : decode cL_law 2849 = .ok (.istore 5, 2) := by decide +kernel
theorem dL_law_2851 : decode cL_law 2851 = .ok (.aload_n 2, 1) := by decide +kernel
theorem dL_law_2852 : decode cL_law 2852 = .ok (.aload_n 0, 1) := by decide +kernel
theorem dL_law_2853 : decode cL_law 2853 = .ok (.iload 4, 2) := by decide +kernel
theorem dL_law_2855 : decode cL_law 2855 = .ok (.iconst 1, 1) := by decide +kernel
theorem dL_law_2856 : decode cL_law 2856 = .ok (.iadd, 1) := by decide +kernel
theorem dL_law_2857 : decode cL_law 2857 = .ok (.iaload, 1) := by decide +kernel
theorem dL_law_2858 : decode cL_law 2858 = .ok (.invokevirtual 287, 3) := by decide +kernel
theorem dL_law_2861 : decode cL_law 2861 = .ok (.istore 6, 2) := by decide +kernel
theorem dL_law_2863 : decode cL_law 2863 = .ok (.aload_n 2, 1) := by decide +kernel
theorem dL_law_2864 : decode cL_law 2864 = .ok (.invokevirtual 170, 3) := by decide +kernel
theorem dL_law_2867 : decode cL_law 2867 = .ok (.iload 5, 2) := by decide +kernel
theorem dL_law_2869 : decode cL_law 2869 = .ok (.if_icmp .eq 5, 3) := by decide +kernel
theorem dL_law_2872 : decode cL_law 2872 = .ok (.iconst 0, 1) := by decide +kernel
theorem dL_law_2873 : decode cL_law 2873 = .ok (.ireturn, 1) := by decide +kernel
theorem dL_law_2874 : decode cL_law 2874 = .ok (.iload 5, 2) := by decide +kernel
theorem dL_law_2876 : decode cL_law 2876 = .ok (.ifCond .ne 15, 3) := by decide +kernel
theorem dL_law_2879 : decode cL_law 2879 = .ok (.aload_n 3, 1) := by decide +kernel
theorem dL_law_2880 : decode cL_law 2880 = .ok (.iconst 0, 1) := by decide +kernel
theorem dL_law_2881 : decode cL_law 2881 = .ok (.laload, 1) := by decide +kernel
theorem dL_law_2882 : decode cL_law 2882 = .ok (.iload 6, 2) := by decide +kernel
theorem dL_law_2884 : decode cL_law 2884 = .ok (.i2l, 1) := by decide +kernel
theorem dL_law_2885 : decode cL_law 2885 = .ok (.lcmp, 1) := by decide +kernel
theorem dL_law_2886 : decode cL_law 2886 = .ok (.ifCond .eq 5, 3) := by decide +kernel
theorem dL_law_2889 : decode cL_law 2889 = .ok (.iconst 0, 1) := by decide +kernel
theorem dL_law_2890 : decode cL_law 2890 = .ok (.ireturn, 1) := by decide +kernel
theorem dL_law_2891 : decode cL_law 2891 = .ok (.goto 659, 3) := by decide +kernel
theorem dL_law_2894 : decode cL_law 2894 = .ok (.aload_n 1, 1) := by decide +kernel
theorem dL_law_2895 : decode cL_law 2895 = .ok (.aload_n 0, 1) := by decide +kernel
theorem dL_law_2896 : decode cL_law 2896 = .ok (.iload 4, 2) := by decide +kernel
theorem dL_law_2898 : decode cL_law 2898 = .ok (.iconst 1, 1) := by decide +kernel
theorem dL_law_2899 : decode cL_law 2899 = .ok (.iadd, 1) := by decide +kernel
theorem dL_law_2900 : decode cL_law 2900 = .ok (.iaload, 1) := by decide +kernel
theorem dL_law_2901 : decode cL_law 2901 = .ok (.aload_n 0, 1) := by decide +kernel
theorem dL_law_2902 : decode cL_law 2902 = .ok (.iload 4, 2) := by decide +kernel
theorem dL_law_2904 : decode cL_law 2904 = .ok (.iconst 2, 1) := by decide +kernel
theorem dL_law_2905 : decode cL_law 2905 = .ok (.iadd, 1) := by decide +kernel
theorem dL_law_2906 : decode cL_law 2906 = .ok (.iaload, 1) := by decide +kernel
theorem dL_law_2907 : decode cL_law 2907 = .ok (.aload_n 3, 1) := by decide +kernel
theorem dL_law_2908 : decode cL_law 2908 = .ok (.invokestatic 288, 3) := by decide +kernel
theorem dL_law_2911 : decode cL_law 2911 = .ok (.istore 5, 2) := by decide +kernel
theorem dL_law_2913 : decode cL_law 2913 = .ok (.aload_n 2, 1) := by decide +kernel
theorem dL_law_2914 : decode cL_law 2914 = .ok (.aload_n 0, 1) := by decide +kernel
theorem dL_law_2915 : decode cL_law 2915 = .ok (.iload 4, 2) := by decide +kernel
theorem dL_law_2917 : decode cL_law 2917 = .ok (.iconst 1, 1) := by decide +kernel
theorem dL_law_2918 : decode cL_law 2918 = .ok (.iadd, 1) := by decide +kernel
theorem dL_law_2919 : decode cL_law 2919 = .ok (.iaload, 1) := by decide +kernel
theorem dL_law_2920 : decode cL_law 2920 = .ok (.aload_n 0, 1) := by decide +kernel
theorem dL_law_2921 : decode cL_law 2921 = .ok (.iload 4, 2) := by decide +kernel
theorem dL_law_2923 : decode cL_law 2923 = .ok (.iconst 2, 1) := by decide +kernel
theorem dL_law_2924 : decode cL_law 2924 = .ok (.iadd, 1) := by decide +kernel
theorem dL_law_2925 : decode cL_law 2925 = .ok (.iaload, 1) := by decide +kernel
theorem dL_law_2926 : decode cL_law 2926 = .ok (.invokevirtual 290, 3) := by decide +kernel
theorem dL_law_2929 : decode cL_law 2929 = .ok (.istore 6, 2) := by decide +kernel
theorem dL_law_2931 : decode cL_law 2931 = .ok (.aload_n 2, 1) := by decide +kernel
theorem dL_law_2932 : decode cL_law 2932 = .ok (.invokevirtual 170, 3) := by decide +kernel
theorem dL_law_2935 : decode cL_law 2935 = .ok (.iload 5, 2) := by decide +kernel
theorem dL_law_2937 : decode cL_law 2937 = .ok (.if_icmp .eq 5, 3) := by decide +kernel
theorem dL_law_2940 : decode cL_law 2940 = .ok (.iconst 0, 1) := by decide +kernel
theorem dL_law_2941 : decode cL_law 2941 = .ok (.ireturn, 1) := by decide +kernel
theorem dL_law_2942 : decode cL_law 2942 = .ok (.iload 5, 2) := by decide +kernel
theorem dL_law_2944 : decode cL_law 2944 = .ok (.ifCond .ne 15, 3) := by decide +kernel
theorem dL_law_2947 : decode cL_law 2947 = .ok (.aload_n 3, 1) := by decide +kernel
theorem dL_law_2948 : decode cL_law 2948 = .ok (.iconst 0, 1) := by decide +kernel
theorem dL_law_2949 : decode cL_law 2949 = .ok (.laload, 1) := by decide +kernel
theorem dL_law_2950 : decode cL_law 2950 = .ok (.iload 6, 2) := by decide +kernel
theorem dL_law_2952 : decode cL_law 2952 = .ok (.i2l, 1) := by decide +kernel
theorem dL_law_2953 : decode cL_law 2953 = .ok (.lcmp, 1) := by decide +kernel
theorem dL_law_2954 : decode cL_law 2954 = .ok (.ifCond .eq 5, 3) := by decide +kernel
theorem dL_law_2957 : decode cL_law 2957 = .ok (.iconst 0, 1) := by decide +kernel
theorem dL_law_2958 : decode cL_law 2958 = .ok (.ireturn, 1) := by decide +kernel
theorem dL_law_2959 : decode cL_law 2959 = .ok (.goto 591, 3) := by decide +kernel
theorem dL_law_2962 : decode cL_law 2962 = .ok (.aload_n 1, 1) := by decide +kernel
theorem dL_law_2963 : decode cL_law 2963 = .ok (.aload_n 0, 1) := by decide +kernel
theorem dL_law_2964 : decode cL_law 2964 = .ok (.iload 4, 2) := by decide +kernel
theorem dL_law_2966 : decode cL_law 2966 = .ok (.iconst 1, 1) := by decide +kernel
theorem dL_law_2967 : decode cL_law 2967 = .ok (.iadd, 1) := by decide +kernel
theorem dL_law_2968 : decode cL_law 2968 = .ok (.iaload, 1) := by decide +kernel
theorem dL_law_2969 : decode cL_law 2969 = .ok (.aload_n 0, 1) := by decide +kernel
theorem dL_law_2970 : decode cL_law 2970 = .ok (.iload 4, 2) := by decide +kernel
theorem dL_law_2972 : decode cL_law 2972 = .ok (.iconst 2, 1) := by decide +kernel
theorem dL_law_2973 : decode cL_law 2973 = .ok (.iadd, 1) := by decide +kernel
theorem dL_law_2974 : decode cL_law 2974 = .ok (.iaload, 1) := by decide +kernel
theorem dL_law_2975 : decode cL_law 2975 = .ok (.aload_n 0, 1) := by decide +kernel
theorem dL_law_2976 : decode cL_law 2976 = .ok (.iload 4, 2) := by decide +kernel
theorem dL_law_2978 : decode cL_law 2978 = .ok (.iconst 3, 1) := by decide +kernel
theorem dL_law_2979 : decode cL_law 2979 = .ok (.iadd, 1) := by decide +kernel
theorem dL_law_2980 : decode cL_law 2980 = .ok (.iaload, 1) := by decide +kernel
theorem dL_law_2981 : decode cL_law 2981 = .ok (.aload_n 3, 1) := by decide +kernel
theorem dL_law_2982 : decode cL_law 2982 = .ok (.invokestatic 291, 3) := by decide +kernel
theorem dL_law_2985 : decode cL_law 2985 = .ok (.istore 5, 2) := by decide +kernel
theorem dL_law_2987 : decode cL_law 2987 = .ok (.aload_n 2, 1) := by decide +kernel
theorem dL_law_2988 : decode cL_law 2988 = .ok (.aload_n 0, 1) := by decide +kernel
theorem dL_law_2989 : decode cL_law 2989 = .ok (.iload 4, 2) := by decide +kernel
theorem dL_law_2991 : decode cL_law 2991 = .ok (.iconst 1, 1) := by decide +kernel
theorem dL_law_2992 : decode cL_law 2992 = .ok (.iadd, 1) := by decide +kernel
theorem dL_law_2993 : decode cL_law 2993 = .ok (.iaload, 1) := by decide +kernel
theorem dL_law_2994 : decode cL_law 2994 = .ok (.aload_n 0, 1) := by decide +kernel
theorem dL_law_2995 : decode cL_law 2995 = .ok (.iload 4, 2) := by decide +kernel
theorem dL_law_2997 : decode cL_law 2997 = .ok (.iconst 2, 1) := by decide +kernel
theorem dL_law_2998 : decode cL_law 2998 = .ok (.iadd, 1) := by decide +kernel
theorem dL_law_2999 : decode cL_law 2999 = .ok (.iaload, 1) := by decide +kernel
theorem dL_law_3000 : decode cL_law 3000 = .ok (.aload_n 0, 1) := by decide +kernel
theorem dL_law_3001 : decode cL_law 3001 = .ok (.iload 4, 2) := by decide +kernel
theorem dL_law_3003 : decode cL_law 3003 = .ok (.iconst 3, 1) := by decide +kernel
theorem dL_law_3004 : decode cL_law 3004 = .ok (.iadd, 1) := by decide +kernel
theorem dL_law_3005 : decode cL_law 3005 = .ok (.iaload, 1) := by decide +kernel
theorem dL_law_3006 : decode cL_law 3006 = .ok (.invokevirtual 293, 3) := by decide +kernel
theorem dL_law_3009 : decode cL_law 3009 = .ok (.istore 6, 2) := by decide +kernel
theorem dL_law_3011 : decode cL_law 3011 = .ok (.aload_n 2, 1) := by decide +kernel
theorem dL_law_3012 : decode cL_law 3012 = .ok (.invokevirtual 170, 3) := by decide +kernel
theorem dL_law_3015 : decode cL_law 3015 = .ok (.iload 5, 2) := by decide +kernel
