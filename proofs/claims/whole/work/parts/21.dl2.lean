theorem dL_law_2470 : decode cL_law 2470 = .ok (.i2l, 1) := by decide +kernel
theorem dL_law_2471 : decode cL_law 2471 = .ok (.lcmp, 1) := by decide +kernel
theorem dL_law_2472 : decode cL_law 2472 = .ok (.ifCond .eq 5, 3) := by decide +kernel
theorem dL_law_2475 : decode cL_law 2475 = .ok (.iconst 0, 1) := by decide +kernel
theorem dL_law_2476 : decode cL_law 2476 = .ok (.ireturn, 1) := by decide +kernel
theorem dL_law_2477 : decode cL_law 2477 = .ok (.goto 2184, 3) := by decide +kernel
theorem dL_law_2480 : decode cL_law 2480 = .ok (.aload_n 1, 1) := by decide +kernel
theorem dL_law_2481 : decode cL_law 2481 = .ok (.aload_n 0, 1) := by decide +kernel
theorem dL_law_2482 : decode cL_law 2482 = .ok (.iload 4, 2) := by decide +kernel
theorem dL_law_2484 : decode cL_law 2484 = .ok (.iconst 1, 1) := by decide +kernel
theorem dL_law_2485 : decode cL_law 2485 = .ok (.iadd, 1) := by decide +kernel
theorem dL_law_2486 : decode cL_law 2486 = .ok (.iaload, 1) := by decide +kernel
theorem dL_law_2487 : decode cL_law 2487 = .ok (.aload_n 0, 1) := by decide +kernel
theorem dL_law_2488 : decode cL_law 2488 = .ok (.iload 4, 2) := by decide +kernel
theorem dL_law_2490 : decode cL_law 2490 = .ok (.iconst 2, 1) := by decide +kernel
theorem dL_law_2491 : decode cL_law 2491 = .ok (.iadd, 1) := by decide +kernel
theorem dL_law_2492 : decode cL_law 2492 = .ok (.iaload, 1) := by decide +kernel
theorem dL_law_2493 : decode cL_law 2493 = .ok (.aload_n 3, 1) := by decide +kernel
theorem dL_law_2494 : decode cL_law 2494 = .ok (.invokestatic 303, 3) := by decide +kernel
theorem dL_law_2497 : decode cL_law 2497 = .ok (.istore 5, 2) := by decide +kernel
theorem dL_law_2499 : decode cL_law 2499 = .ok (.aload_n 2, 1) := by decide +kernel
theorem dL_law_2500 : decode cL_law 2500 = .ok (.aload_n 0, 1) := by decide +kernel
theorem dL_law_2501 : decode cL_law 2501 = .ok (.iload 4, 2) := by decide +kernel
theorem dL_law_2503 : decode cL_law 2503 = .ok (.iconst 1, 1) := by decide +kernel
theorem dL_law_2504 : decode cL_law 2504 = .ok (.iadd, 1) := by decide +kernel
theorem dL_law_2505 : decode cL_law 2505 = .ok (.iaload, 1) := by decide +kernel
theorem dL_law_2506 : decode cL_law 2506 = .ok (.aload_n 0, 1) := by decide +kernel
theorem dL_law_2507 : decode cL_law 2507 = .ok (.iload 4, 2) := by decide +kernel
theorem dL_law_2509 : decode cL_law 2509 = .ok (.iconst 2, 1) := by decide +kernel
theorem dL_law_2510 : decode cL_law 2510 = .ok (.iadd, 1) := by decide +kernel
theorem dL_law_2511 : decode cL_law 2511 = .ok (.iaload, 1) := by decide +kernel
theorem dL_law_2512 : decode cL_law 2512 = .ok (.invokevirtual 305, 3) := by decide +kernel
theorem dL_law_2515 : decode cL_law 2515 = .ok (.istore 6, 2) := by decide +kernel
theorem dL_law_2517 : decode cL_law 2517 = .ok (.aload_n 2, 1) := by decide +kernel
theorem dL_law_2518 : decode cL_law 2518 = .ok (.invokevirtual 212, 3) := by decide +kernel
theorem dL_law_2521 : decode cL_law 2521 = .ok (.iload 5, 2) := by decide +kernel
theorem dL_law_2523 : decode cL_law 2523 = .ok (.if_icmp .eq 5, 3) := by decide +kernel
theorem dL_law_2526 : decode cL_law 2526 = .ok (.iconst 0, 1) := by decide +kernel
theorem dL_law_2527 : decode cL_law 2527 = .ok (.ireturn, 1) := by decide +kernel
theorem dL_law_2528 : decode cL_law 2528 = .ok (.iload 5, 2) := by decide +kernel
theorem dL_law_2530 : decode cL_law 2530 = .ok (.ifCond .ne 15, 3) := by decide +kernel
theorem dL_law_2533 : decode cL_law 2533 = .ok (.aload_n 3, 1) := by decide +kernel
theorem dL_law_2534 : decode cL_law 2534 = .ok (.iconst 0, 1) := by decide +kernel
theorem dL_law_2535 : decode cL_law 2535 = .ok (.laload, 1) := by decide +kernel
theorem dL_law_2536 : decode cL_law 2536 = .ok (.iload 6, 2) := by decide +kernel
theorem dL_law_2538 : decode cL_law 2538 = .ok (.i2l, 1) := by decide +kernel
theorem dL_law_2539 : decode cL_law 2539 = .ok (.lcmp, 1) := by decide +kernel
theorem dL_law_2540 : decode cL_law 2540 = .ok (.ifCond .eq 5, 3) := by decide +kernel
theorem dL_law_2543 : decode cL_law 2543 = .ok (.iconst 0, 1) := by decide +kernel
theorem dL_law_2544 : decode cL_law 2544 = .ok (.ireturn, 1) := by decide +kernel
theorem dL_law_2545 : decode cL_law 2545 = .ok (.goto 2116, 3) := by decide +kernel
theorem dL_law_2548 : decode cL_law 2548 = .ok (.aload_n 1, 1) := by decide +kernel
theorem dL_law_2549 : decode cL_law 2549 = .ok (.aload_n 0, 1) := by decide +kernel
theorem dL_law_2550 : decode cL_law 2550 = .ok (.iload 4, 2) := by decide +kernel
theorem dL_law_2552 : decode cL_law 2552 = .ok (.iconst 1, 1) := by decide +kernel
theorem dL_law_2553 : decode cL_law 2553 = .ok (.iadd, 1) := by decide +kernel
theorem dL_law_2554 : decode cL_law 2554 = .ok (.iaload, 1) := by decide +kernel
theorem dL_law_2555 : decode cL_law 2555 = .ok (.aload_n 3, 1) := by decide +kernel
theorem dL_law_2556 : decode cL_law 2556 = .ok (.invokestatic 306, 3) := by decide +kernel
theorem dL_law_2559 : decode cL_law 2559 = .ok (.istore 5, 2) := by decide +kernel
theorem dL_law_2561 : decode cL_law 2561 = .ok (.aload_n 2, 1) := by decide +kernel
theorem dL_law_2562 : decode cL_law 2562 = .ok (.aload_n 0, 1) := by decide +kernel
theorem dL_law_2563 : decode cL_law 2563 = .ok (.iload 4, 2) := by decide +kernel
theorem dL_law_2565 : decode cL_law 2565 = .ok (.iconst 1, 1) := by decide +kernel
theorem dL_law_2566 : decode cL_law 2566 = .ok (.iadd, 1) := by decide +kernel
theorem dL_law_2567 : decode cL_law 2567 = .ok (.iaload, 1) := by decide +kernel
theorem dL_law_2568 : decode cL_law 2568 = .ok (.invokevirtual 308, 3) := by decide +kernel
theorem dL_law_2571 : decode cL_law 2571 = .ok (.istore 6, 2) := by decide +kernel
theorem dL_law_2573 : decode cL_law 2573 = .ok (.aload_n 2, 1) := by decide +kernel
theorem dL_law_2574 : decode cL_law 2574 = .ok (.invokevirtual 212, 3) := by decide +kernel
theorem dL_law_2577 : decode cL_law 2577 = .ok (.iload 5, 2) := by decide +kernel
theorem dL_law_2579 : decode cL_law 2579 = .ok (.if_icmp .eq 5, 3) := by decide +kernel
theorem dL_law_2582 : decode cL_law 2582 = .ok (.iconst 0, 1) := by decide +kernel
theorem dL_law_2583 : decode cL_law 2583 = .ok (.ireturn, 1) := by decide +kernel
theorem dL_law_2584 : decode cL_law 2584 = .ok (.iload 5, 2) := by decide +kernel
theorem dL_law_2586 : decode cL_law 2586 = .ok (.ifCond .ne 15, 3) := by decide +kernel
theorem dL_law_2589 : decode cL_law 2589 = .ok (.aload_n 3, 1) := by decide +kernel
theorem dL_law_2590 : decode cL_law 2590 = .ok (.iconst 0, 1) := by decide +kernel
theorem dL_law_2591 : decode cL_law 2591 = .ok (.laload, 1) := by decide +kernel
theorem dL_law_2592 : decode cL_law 2592 = .ok (.iload 6, 2) := by decide +kernel
theorem dL_law_2594 : decode cL_law 2594 = .ok (.i2l, 1) := by decide +kernel
theorem dL_law_2595 : decode cL_law 2595 = .ok (.lcmp, 1) := by decide +kernel
theorem dL_law_2596 : decode cL_law 2596 = .ok (.ifCond .eq 5, 3) := by decide +kernel
theorem dL_law_2599 : decode cL_law 2599 = .ok (.iconst 0, 1) := by decide +kernel
theorem dL_law_2600 : decode cL_law 2600 = .ok (.ireturn, 1) := by decide +kernel
theorem dL_law_2601 : decode cL_law 2601 = .ok (.goto 2060, 3) := by decide +kernel
theorem dL_law_2604 : decode cL_law 2604 = .ok (.aload_n 1, 1) := by decide +kernel
theorem dL_law_2605 : decode cL_law 2605 = .ok (.aload_n 0, 1) := by decide +kernel
theorem dL_law_2606 : decode cL_law 2606 = .ok (.iload 4, 2) := by decide +kernel
theorem dL_law_2608 : decode cL_law 2608 = .ok (.iconst 1, 1) := by decide +kernel
theorem dL_law_2609 : decode cL_law 2609 = .ok (.iadd, 1) := by decide +kernel
theorem dL_law_2610 : decode cL_law 2610 = .ok (.iaload, 1) := by decide +kernel
theorem dL_law_2611 : decode cL_law 2611 = .ok (.aload_n 0, 1) := by decide +kernel
theorem dL_law_2612 : decode cL_law 2612 = .ok (.iload 4, 2) := by decide +kernel
theorem dL_law_2614 : decode cL_law 2614 = .ok (.iconst 2, 1) := by decide +kernel
theorem dL_law_2615 : decode cL_law 2615 = .ok (.iadd, 1) := by decide +kernel
theorem dL_law_2616 : decode cL_law 2616 = .ok (.iaload, 1) := by decide +kernel
theorem dL_law_2617 : decode cL_law 2617 = .ok (.aload_n 3, 1) := by decide +kernel
theorem dL_law_2618 : decode cL_law 2618 = .ok (.invokestatic 309, 3) := by decide +kernel
theorem dL_law_2621 : decode cL_law 2621 = .ok (.istore 5, 2) := by decide +kernel
theorem dL_law_2623 : decode cL_law 2623 = .ok (.aload_n 2, 1) := by decide +kernel
theorem dL_law_2624 : decode cL_law 2624 = .ok (.aload_n 0, 1) := by decide +kernel
theorem dL_law_2625 : decode cL_law 2625 = .ok (.iload 4, 2) := by decide +kernel
theorem dL_law_2627 : decode cL_law 2627 = .ok (.iconst 1, 1) := by decide +kernel
theorem dL_law_2628 : decode cL_law 2628 = .ok (.iadd, 1) := by decide +kernel
theorem dL_law_2629 : decode cL_law 2629 = .ok (.iaload, 1) := by decide +kernel
theorem dL_law_2630 : decode cL_law 2630 = .ok (.aload_n 0, 1) := by decide +kernel
theorem dL_law_2631 : decode cL_law 2631 = .ok (.iload 4, 2) := by decide +kernel
theorem dL_law_2633 : decode cL_law 2633 = .ok (.iconst 2, 1) := by decide +kernel
theorem dL_law_2634 : decode cL_law 2634 = .ok (.iadd, 1) := by decide +kernel
theorem dL_law_2635 : decode cL_law 2635 = .ok (.iaload, 1) := by decide +kernel
theorem dL_law_2636 : decode cL_law 2636 = .ok (.invokevirtual 311, 3) := by decide +kernel
theorem dL_law_2639 : decode cL_law 2639 = .ok (.istore 6, 2) := by decide +kernel
theorem dL_law_2641 : decode cL_law 2641 = .ok (.aload_n 2, 1) := by decide +kernel
theorem dL_law_2642 : decode cL_law 2642 = .ok (.invokevirtual 212, 3) := by decide +kernel
theorem dL_law_2645 : decode cL_law 2645 = .ok (.iload 5, 2) := by decide +kernel
theorem dL_law_2647 : decode cL_law 2647 = .ok (.if_icmp .eq 5, 3) := by decide +kernel
theorem dL_law_2650 : decode cL_law 2650 = .ok (.iconst 0, 1) := by decide +kernel
theorem dL_law_2651 : decode cL_law 2651 = .ok (.ireturn, 1) := by decide +kernel
theorem dL_law_2652 : decode cL_law 2652 = .ok (.iload 5, 2) := by decide +kernel
theorem dL_law_2654 : decode cL_law 2654 = .ok (.ifCond .ne 15, 3) := by decide +kernel
theorem dL_law_2657 : decode cL_law 2657 = .ok (.aload_n 3, 1) := by decide +kernel
theorem dL_law_2658 : decode cL_law 2658 = .ok (.iconst 0, 1) := by decide +kernel
theorem dL_law_2659 : decode cL_law 2659 = .ok (.laload, 1) := by decide +kernel
theorem dL_law_2660 : decode cL_law 2660 = .ok (.iload 6, 2) := by decide +kernel
theorem dL_law_2662 : decode cL_law 2662 = .ok (.i2l, 1) := by decide +kernel
theorem dL_law_2663 : decode cL_law 2663 = .ok (.lcmp, 1) := by decide +kernel
theorem dL_law_2664 : decode cL_law 2664 = .ok (.ifCond .eq 5, 3) := by decide +kernel
theorem dL_law_2667 : decode cL_law 2667 = .ok (.iconst 0, 1) := by decide +kernel
theorem dL_law_2668 : decode cL_law 2668 = .ok (.ireturn, 1) := by decide +kernel
theorem dL_law_2669 : decode cL_law 2669 = .ok (.goto 1992, 3) := by decide +kernel
theorem dL_law_2672 : decode cL_law 2672 = .ok (.aload_n 1, 1) := by decide +kernel
theorem dL_law_2673 : decode cL_law 2673 = .ok (.aload_n 0, 1) := by decide +kernel
theorem dL_law_2674 : decode cL_law 2674 = .ok (.iload 4, 2) := by decide +kernel
theorem dL_law_2676 : decode cL_law 2676 = .ok (.iconst 1, 1) := by decide +kernel
theorem dL_law_2677 : decode cL_law 2677 = .ok (.iadd, 1) := by decide +kernel
theorem dL_law_2678 : decode cL_law 2678 = .ok (.iaload, 1) := by decide +kernel
theorem dL_law_2679 : decode cL_law 2679 = .ok (.aload_n 3, 1) := by decide +kernel
theorem dL_law_2680 : decode cL_law 2680 = .ok (.invokestatic 312, 3) := by decide +kernel
theorem dL_law_2683 : decode cL_law 2683 = .ok (.istore 5, 2) := by decide +kernel
theorem dL_law_2685 : decode cL_law 2685 = .ok (.aload_n 2, 1) := by decide +kernel
theorem dL_law_2686 : decode cL_law 2686 = .ok (.aload_n 0, 1) := by decide +kernel
theorem dL_law_2687 : decode cL_law 2687 = .ok (.iload 4, 2) := by decide +kernel
theorem dL_law_2689 : decode cL_law 2689 = .ok (.iconst 1, 1) := by decide +kernel
theorem dL_law_2690 : decode cL_law 2690 = .ok (.iadd, 1) := by decide +kernel
theorem dL_law_2691 : decode cL_law 2691 = .ok (.iaload, 1) := by decide +kernel
theorem dL_law_2692 : decode cL_law 2692 = .ok (.invokevirtual 314, 3) := by decide +kernel
theorem dL_law_2695 : decode cL_law 2695 = .ok (.istore 6, 2) := by decide +kernel
theorem dL_law_2697 : decode cL_law 2697 = .ok (.aload_n 2, 1) := by decide +kernel
theorem dL_law_2698 : decode cL_law 2698 = .ok (.invokevirtual 212, 3) := by decide +kernel
theorem dL_law_2701 : decode cL_law 2701 = .ok (.iload 5, 2) := by decide +kernel
theorem dL_law_2703 : decode cL_law 2703 = .ok (.if_icmp .eq 5, 3) := by decide +kernel
theorem dL_law_2706 : decode cL_law 2706 = .ok (.iconst 0, 1) := by decide +kernel
theorem dL_law_2707 : decode cL_law 2707 = .ok (.ireturn, 1) := by decide +kernel
theorem dL_law_2708 : decode cL_law 2708 = .ok (.iload 5, 2) := by decide +kernel
theorem dL_law_2710 : decode cL_law 2710 = .ok (.ifCond .ne 15, 3) := by decide +kernel
theorem dL_law_2713 : decode cL_law 2713 = .ok (.aload_n 3, 1) := by decide +kernel
theorem dL_law_2714 : decode cL_law 2714 = .ok (.iconst 0, 1) := by decide +kernel
theorem dL_law_2715 : decode cL_law 2715 = .ok (.laload, 1) := by decide +kernel
theorem dL_law_2716 : decode cL_law 2716 = .ok (.iload 6, 2) := by decide +kernel
theorem dL_law_2718 : decode cL_law 2718 = .ok (.i2l, 1) := by decide +kernel
theorem dL_law_2719 : decode cL_law 2719 = .ok (.lcmp, 1) := by decide +kernel
theorem dL_law_2720 : decode cL_law 2720 = .ok (.ifCond .eq 5, 3) := by decide +kernel
theorem dL_law_2723 : decode cL_law 2723 = .ok (.iconst 0, 1) := by decide +kernel
theorem dL_law_2724 : decode cL_law 2724 = .ok (.ireturn, 1) := by decide +kernel
theorem dL_law_2725 : decode cL_law 2725 = .ok (.goto 1936, 3) := by decide +kernel
theorem dL_law_2728 : decode cL_law 2728 = .ok (.aload_n 1, 1) := by decide +kernel
theorem dL_law_2729 : decode cL_law 2729 = .ok (.aload_n 0, 1) := by decide +kernel
theorem dL_law_2730 : decode cL_law 2730 = .ok (.iload 4, 2) := by decide +kernel
theorem dL_law_2732 : decode cL_law 2732 = .ok (.iconst 1, 1) := by decide +kernel
theorem dL_law_2733 : decode cL_law 2733 = .ok (.iadd, 1) := by decide +kernel
theorem dL_law_2734 : decode cL_law 2734 = .ok (.iaload, 1) := by decide +kernel
theorem dL_law_2735 : decode cL_law 2735 = .ok (.aload_n 3, 1) := by decide +kernel
theorem dL_law_2736 : decode cL_law 2736 = .ok (.invokestatic 315, 3) := by decide +kernel
theorem dL_law_2739 : decode cL_law 2739 = .ok (.istore 5, 2) := by decide +kernel
theorem dL_law_2741 : decode cL_law 2741 = .ok (.aload_n 2, 1) := by decide +kernel
theorem dL_law_2742 : decode cL_law 2742 = .ok (.aload_n 0, 1) := by decide +kernel
theorem dL_law_2743 : decode cL_law 2743 = .ok (.iload 4, 2) := by decide +kernel
theorem dL_law_2745 : decode cL_law 2745 = .ok (.iconst 1, 1) := by decide +kernel
theorem dL_law_2746 : decode cL_law 2746 = .ok (.iadd, 1) := by decide +kernel
theorem dL_law_2747 : decode cL_law 2747 = .ok (.iaload, 1) := by decide +kernel
theorem dL_law_2748 : decode cL_law 2748 = .ok (.invokevirtual 317, 3) := by decide +kernel
theorem dL_law_2751 : decode cL_law 2751 = .ok (.istore 6, 2) := by decide +kernel
theorem dL_law_2753 : decode cL_law 2753 = .ok (.aload_n 2, 1) := by decide +kernel
theorem dL_law_2754 : decode cL_law 2754 = .ok (.invokevirtual 212, 3) := by decide +kernel
theorem dL_law_2757 : decode cL_law 2757 = .ok (.iload 5, 2) := by decide +kernel
theorem dL_law_2759 : decode cL_law 2759 = .ok (.if_icmp .eq 5, 3) := by decide +kernel
theorem dL_law_2762 : decode cL_law 2762 = .ok (.iconst 0, 1) := by decide +kernel
theorem dL_law_2763 : decode cL_law 2763 = .ok (.ireturn, 1) := by decide +kernel
theorem dL_law_2764 : decode cL_law 2764 = .ok (.iload 5, 2) := by decide +kernel
theorem dL_law_2766 : decode cL_law 2766 = .ok (.ifCond .ne 15, 3) := by decide +kernel
theorem dL_law_2769 : decode cL_law 2769 = .ok (.aload_n 3, 1) := by decide +kernel
theorem dL_law_2770 : decode cL_law 2770 = .ok (.iconst 0, 1) := by decide +kernel
theorem dL_law_2771 : decode cL_law 2771 = .ok (.laload, 1) := by decide +kernel
theorem dL_law_2772 : decode cL_law 2772 = .ok (.iload 6, 2) := by decide +kernel
theorem dL_law_2774 : decode cL_law 2774 = .ok (.i2l, 1) := by decide +kernel
theorem dL_law_2775 : decode cL_law 2775 = .ok (.lcmp, 1) := by decide +kernel
theorem dL_law_2776 : decode cL_law 2776 = .ok (.ifCond .eq 5, 3) := by decide +kernel
theorem dL_law_2779 : decode cL_law 2779 = .ok (.iconst 0, 1) := by decide +kernel
theorem dL_law_2780 : decode cL_law 2780 = .ok (.ireturn, 1) := by decide +kernel
theorem dL_law_2781 : decode cL_law 2781 = .ok (.goto 1880, 3) := by decide +kernel
theorem dL_law_2784 : decode cL_law 2784 = .ok (.aload_n 1, 1) := by decide +kernel
theorem dL_law_2785 : decode cL_law 2785 = .ok (.aload_n 3, 1) := by decide +kernel
theorem dL_law_2786 : decode cL_law 2786 = .ok (.invokestatic 318, 3) := by decide +kernel
theorem dL_law_2789 : decode cL_law 2789 = .ok (.istore 5, 2) := by decide +kernel
theorem dL_law_2791 : decode cL_law 2791 = .ok (.aload_n 2, 1) := by decide +kernel
theorem dL_law_2792 : decode cL_law 2792 = .ok (.invokevirtual 321, 3) := by decide +kernel
theorem dL_law_2795 : decode cL_law 2795 = .ok (.istore 6, 2) := by decide +kernel
theorem dL_law_2797 : decode cL_law 2797 = .ok (.aload_n 2, 1) := by decide +kernel
theorem dL_law_2798 : decode cL_law 2798 = .ok (.invokevirtual 212, 3) := by decide +kernel
theorem dL_law_2801 : decode cL_law 2801 = .ok (.iload 5, 2) := by decide +kernel
theorem dL_law_2803 : decode cL_law 2803 = .ok (.if_icmp .eq 5, 3) := by decide +kernel
theorem dL_law_2806 : decode cL_law 2806 = .ok (.iconst 0, 1) := by decide +kernel
theorem dL_law_2807 : decode cL_law 2807 = .ok (.ireturn, 1) := by decide +kernel
theorem dL_law_2808 : decode cL_law 2808 = .ok (.iload 5, 2) := by decide +kernel
theorem dL_law_2810 : decode cL_law 2810 = .ok (.ifCond .ne 15, 3) := by decide +kernel
theorem dL_law_2813 : decode cL_law 2813 = .ok (.aload_n 3, 1) := by decide +kernel
theorem dL_law_2814 : decode cL_law 2814 = .ok (.iconst 0, 1) := by decide +kernel
theorem dL_law_2815 : decode cL_law 2815 = .ok (.laload, 1) := by decide +kernel
theorem dL_law_2816 : decode cL_law 2816 = .ok (.iload 6, 2) := by decide +kernel
theorem dL_law_2818 : decode cL_law 2818 = .ok (.i2l, 1) := by decide +kernel
theorem dL_law_2819 : decode cL_law 2819 = .ok (.lcmp, 1) := by decide +kernel
theorem dL_law_2820 : decode cL_law 2820 = .ok (.ifCond .eq 5, 3) := by decide +kernel
theorem dL_law_2823 : decode cL_law 2823 = .ok (.iconst 0, 1) := by decide +kernel
theorem dL_law_2824 : decode cL_law 2824 = .ok (.ireturn, 1) := by decide +kernel
theorem dL_law_2825 : decode cL_law 2825 = .ok (.goto 1836, 3) := by decide +kernel
theorem dL_law_2828 : decode cL_law 2828 = .ok (.aload_n 1, 1) := by decide +kernel
theorem dL_law_2829 : decode cL_law 2829 = .ok (.aload_n 0, 1) := by decide +kernel
theorem dL_law_2830 : decode cL_law 2830 = .ok (.iload 4, 2) := by decide +kernel
theorem dL_law_2832 : decode cL_law 2832 = .ok (.iconst 1, 1) := by decide +kernel
theorem dL_law_2833 : decode cL_law 2833 = .ok (.iadd, 1) := by decide +kernel
theorem dL_law_2834 : decode cL_law 2834 = .ok (.iaload, 1) := by decide +kernel
theorem dL_law_2835 : decode cL_law 2835 = .ok (.ifCond .eq 7, 3) := by decide +kernel
theorem dL_law_2838 : decode cL_law 2838 = .ok (.iconst 1, 1) := by decide +kernel
theorem dL_law_2839 : decode cL_law 2839 = .ok (.goto 4, 3) := by decide +kernel
theorem dL_law_2842 : decode cL_law 2842 = .ok (.iconst 0, 1) := by decide +kernel
theorem dL_law_2843 : decode cL_law 2843 = .ok (.aload_n 3, 1) := by decide +kernel
theorem dL_law_2844 : decode cL_law 2844 = .ok (.invokestatic 322, 3) := by decide +kernel
theorem dL_law_2847 : decode cL_law 2847 = .ok (.istore 5, 2) := by decide +kernel
theorem dL_law_2849 : decode cL_law 2849 = .ok (.aload_n 2, 1) := by decide +kernel
theorem dL_law_2850 : decode cL_law 2850 = .ok (.aload_n 0, 1) := by decide +kernel
theorem dL_law_2851 : decode cL_law 2851 = .ok (.iload 4, 2) := by decide +kernel
theorem dL_law_2853 : decode cL_law 2853 = .ok (.iconst 1, 1) := by decide +kernel
theorem dL_law_2854 : decode cL_law 2854 = .ok (.iadd, 1) := by decide +kernel
theorem dL_law_2855 : decode cL_law 2855 = .ok (.iaload, 1) := by decide +kernel
theorem dL_law_2856 : decode cL_law 2856 = .ok (.ifCond .eq 7, 3) := by decide +kernel
theorem dL_law_2859 : decode cL_law 2859 = .ok (.iconst 1, 1) := by decide +kernel
theorem dL_law_2860 : decode cL_law 2860 = .ok (.goto 4, 3) := by decide +kernel
theorem dL_law_2863 : decode cL_law 2863 = .ok (.iconst 0, 1) := by decide +kernel
theorem dL_law_2864 : decode cL_law 2864 = .ok (.invokevirtual 325, 3) := by decide +kernel
theorem dL_law_2867 : decode cL_law 2867 = .ok (.istore 6, 2) := by decide +kernel
theorem dL_law_2869 : decode cL_law 2869 = .ok (.aload_n 2, 1) := by decide +kernel
theorem dL_law_2870 : decode cL_law 2870 = .ok (.invokevirtual 212, 3) := by decide +kernel
theorem dL_law_2873 : decode cL_law 2873 = .ok (.iload 5, 2) := by decide +kernel
theorem dL_law_2875 : decode cL_law 2875 = .ok (.if_icmp .eq 5, 3) := by decide +kernel
theorem dL_law_2878 : decode cL_law 2878 = .ok (.iconst 0, 1) := by decide +kernel
theorem dL_law_2879 : decode cL_law 2879 = .ok (.ireturn, 1) := by decide +kernel
theorem dL_law_2880 : decode cL_law 2880 = .ok (.iload 5, 2) := by decide +kernel
theorem dL_law_2882 : decode cL_law 2882 = .ok (.ifCond .ne 15, 3) := by decide +kernel
theorem dL_law_2885 : decode cL_law 2885 = .ok (.aload_n 3, 1) := by decide +kernel
theorem dL_law_2886 : decode cL_law 2886 = .ok (.iconst 0, 1) := by decide +kernel
theorem dL_law_2887 : decode cL_law 2887 = .ok (.laload, 1) := by decide +kernel
theorem dL_law_2888 : decode cL_law 2888 = .ok (.iload 6, 2) := by decide +kernel
theorem dL_law_2890 : decode cL_law 2890 = .ok (.i2l, 1) := by decide +kernel
theorem dL_law_2891 : decode cL_law 2891 = .ok (.lcmp, 1) := by decide +kernel
theorem dL_law_2892 : decode cL_law 2892 = .ok (.ifCond .eq 5, 3) := by decide +kernel
theorem dL_law_2895 : decode cL_law 2895 = .ok (.iconst 0, 1) := by decide +kernel
theorem dL_law_2896 : decode cL_law 2896 = .ok (.ireturn, 1) := by decide +kernel
theorem dL_law_2897 : decode cL_law 2897 = .ok (.goto 1764, 3) := by decide +kernel
theorem dL_law_2900 : decode cL_law 2900 = .ok (.aload_n 1, 1) := by decide +kernel
theorem dL_law_2901 : decode cL_law 2901 = .ok (.aload_n 3, 1) := by decide +kernel
theorem dL_law_2902 : decode cL_law 2902 = .ok (.invokestatic 326, 3) := by decide +kernel
theorem dL_law_2905 : decode cL_law 2905 = .ok (.istore 5, 2) := by decide +kernel
theorem dL_law_2907 : decode cL_law 2907 = .ok (.aload_n 2, 1) := by decide +kernel
theorem dL_law_2908 : decode cL_law 2908 = .ok (.invokevirtual 328, 3) := by decide +kernel
theorem dL_law_2911 : decode cL_law 2911 = .ok (.istore 6, 2) := by decide +kernel
theorem dL_law_2913 : decode cL_law 2913 = .ok (.aload_n 2, 1) := by decide +kernel
theorem dL_law_2914 : decode cL_law 2914 = .ok (.invokevirtual 212, 3) := by decide +kernel
theorem dL_law_2917 : decode cL_law 2917 = .ok (.iload 5, 2) := by decide +kernel
theorem dL_law_2919 : decode cL_law 2919 = .ok (.if_icmp .eq 5, 3) := by decide +kernel
theorem dL_law_2922 : decode cL_law 2922 = .ok (.iconst 0, 1) := by decide +kernel
theorem dL_law_2923 : decode cL_law 2923 = .ok (.ireturn, 1) := by decide +kernel
theorem dL_law_2924 : decode cL_law 2924 = .ok (.iload 5, 2) := by decide +kernel
theorem dL_law_2926 : decode cL_law 2926 = .ok (.ifCond .ne 15, 3) := by decide +kernel
theorem dL_law_2929 : decode cL_law 2929 = .ok (.aload_n 3, 1) := by decide +kernel
theorem dL_law_2930 : decode cL_law 2930 = .ok (.iconst 0, 1) := by decide +kernel
theorem dL_law_2931 : decode cL_law 2931 = .ok (.laload, 1) := by decide +kernel
theorem dL_law_2932 : decode cL_law 2932 = .ok (.iload 6, 2) := by decide +kernel
theorem dL_law_2934 : decode cL_law 2934 = .ok (.i2l, 1) := by decide +kernel
theorem dL_law_2935 : decode cL_law 2935 = .ok (.lcmp, 1) := by decide +kernel
theorem dL_law_2936 : decode cL_law 2936 = .ok (.ifCond .eq 5, 3) := by decide +kernel
theorem dL_law_2939 : decode cL_law 2939 = .ok (.iconst 0, 1) := by decide +kernel
theorem dL_law_2940 : decode cL_law 2940 = .ok (.ireturn, 1) := by decide +kernel
theorem dL_law_2941 : decode cL_law 2941 = .ok (.goto 1720, 3) := by decide +kernel
theorem dL_law_2944 : decode cL_law 2944 = .ok (.aload_n 1, 1) := by decide +kernel
theorem dL_law_2945 : decode cL_law 2945 = .ok (.aload_n 0, 1) := by decide +kernel
theorem dL_law_2946 : decode cL_law 2946 = .ok (.iload 4, 2) := by decide +kernel
theorem dL_law_2948 : decode cL_law 2948 = .ok (.iconst 1, 1) := by decide +kernel
theorem dL_law_2949 : decode cL_law 2949 = .ok (.iadd, 1) := by decide +kernel
theorem dL_law_2950 : decode cL_law 2950 = .ok (.iaload, 1) := by decide +kernel
theorem dL_law_2951 : decode cL_law 2951 = .ok (.aload_n 3, 1) := by decide +kernel
theorem dL_law_2952 : decode cL_law 2952 = .ok (.invokestatic 329, 3) := by decide +kernel
theorem dL_law_2955 : decode cL_law 2955 = .ok (.istore 5, 2) := by decide +kernel
theorem dL_law_2957 : decode cL_law 2957 = .ok (.aload_n 2, 1) := by decide +kernel
theorem dL_law_2958 : decode cL_law 2958 = .ok (.aload_n 0, 1) := by decide +kernel
theorem dL_law_2959 : decode cL_law 2959 = .ok (.iload 4, 2) := by decide +kernel
theorem dL_law_2961 : decode cL_law 2961 = .ok (.iconst 1, 1) := by decide +kernel
theorem dL_law_2962 : decode cL_law 2962 = .ok (.iadd, 1) := by decide +kernel
theorem dL_law_2963 : decode cL_law 2963 = .ok (.iaload, 1) := by decide +kernel
theorem dL_law_2964 : decode cL_law 2964 = .ok (.invokevirtual 331, 3) := by decide +kernel
theorem dL_law_2967 : decode cL_law 2967 = .ok (.istore 6, 2) := by decide +kernel
theorem dL_law_2969 : decode cL_law 2969 = .ok (.aload_n 2, 1) := by decide +kernel
theorem dL_law_2970 : decode cL_law 2970 = .ok (.invokevirtual 212, 3) := by decide +kernel
theorem dL_law_2973 : decode cL_law 2973 = .ok (.iload 5, 2) := by decide +kernel
theorem dL_law_2975 : decode cL_law 2975 = .ok (.if_icmp .eq 5, 3) := by decide +kernel
theorem dL_law_2978 : decode cL_law 2978 = .ok (.iconst 0, 1) := by decide +kernel
theorem dL_law_2979 : decode cL_law 2979 = .ok (.ireturn, 1) := by decide +kernel
theorem dL_law_2980 : decode cL_law 2980 = .ok (.iload 5, 2) := by decide +kernel
theorem dL_law_2982 : decode cL_law 2982 = .ok (.ifCond .ne 15, 3) := by decide +kernel
theorem dL_law_2985 : decode cL_law 2985 = .ok (.aload_n 3, 1) := by decide +kernel
theorem dL_law_2986 : decode cL_law 2986 = .ok (.iconst 0, 1) := by decide +kernel
theorem dL_law_2987 : decode cL_law 2987 = .ok (.laload, 1) := by decide +kernel
theorem dL_law_2988 : decode cL_law 2988 = .ok (.iload 6, 2) := by decide +kernel
theorem dL_law_2990 : decode cL_law 2990 = .ok (.i2l, 1) := by decide +kernel
theorem dL_law_2991 : decode cL_law 2991 = .ok (.lcmp, 1) := by decide +kernel
theorem dL_law_2992 : decode cL_law 2992 = .ok (.ifCond .eq 5, 3) := by decide +kernel
theorem dL_law_2995 : decode cL_law 2995 = .ok (.iconst 0, 1) := by decide +kernel
theorem dL_law_2996 : decode cL_law 2996 = .ok (.ireturn, 1) := by decide +kernel
theorem dL_law_2997 : decode cL_law 2997 = .ok (.goto 1664, 3) := by decide +kernel
theorem dL_law_3000 : decode cL_law 3000 = .ok (.aload_n 1, 1) := by decide +kernel
theorem dL_law_3001 : decode cL_law 3001 = .ok (.invokevirtual 332, 3) := by decide +kernel
theorem dL_law_3004 : decode cL_law 3004 = .ok (.aload_n 2, 1) := by decide +kernel
theorem dL_law_3005 : decode cL_law 3005 = .ok (.invokevirtual 335, 3) := by decide +kernel
theorem dL_law_3008 : decode cL_law 3008 = .ok (.if_icmp .eq 1653, 3) := by decide +kernel
theorem dL_law_3011 : decode cL_law 3011 = .ok (.iconst 0, 1) := by decide +kernel
theorem dL_law_3012 : decode cL_law 3012 = .ok (.ireturn, 1) := by decide +kernel
theorem dL_law_3013 : decode cL_law 3013 = .ok (.aload_n 1, 1) := by decide +kernel
theorem dL_law_3014 : decode cL_law 3014 = .ok (.invokevirtual 336, 3) := by decide +kernel
theorem dL_law_3017 : decode cL_law 3017 = .ok (.aload_n 2, 1) := by decide +kernel
theorem dL_law_3018 : decode cL_law 3018 = .ok (.invokevirtual 339, 3) := by decide +kernel
theorem dL_law_3021 : decode cL_law 3021 = .ok (.if_icmp .eq 1640, 3) := by decide +kernel
theorem dL_law_3024 : decode cL_law 3024 = .ok (.iconst 0, 1) := by decide +kernel
theorem dL_law_3025 : decode cL_law 3025 = .ok (.ireturn, 1) := by decide +kernel
theorem dL_law_3026 : decode cL_law 3026 = .ok (.aload_n 1, 1) := by decide +kernel
theorem dL_law_3027 : decode cL_law 3027 = .ok (.invokevirtual 340, 3) := by decide +kernel
theorem dL_law_3030 : decode cL_law 3030 = .ok (.aload_n 2, 1) := by decide +kernel
theorem dL_law_3031 : decode cL_law 3031 = .ok (.invokevirtual 343, 3) := by decide +kernel
theorem dL_law_3034 : decode cL_law 3034 = .ok (.if_icmp .eq 1627, 3) := by decide +kernel
theorem dL_law_3037 : decode cL_law 3037 = .ok (.iconst 0, 1) := by decide +kernel
theorem dL_law_3038 : decode cL_law 3038 = .ok (.ireturn, 1) := by decide +kernel
theorem dL_law_3039 : decode cL_law 3039 = .ok (.aload_n 1, 1) := by decide +kernel
theorem dL_law_3040 : decode cL_law 3040 = .ok (.aload_n 0, 1) := by decide +kernel
theorem dL_law_3041 : decode cL_law 3041 = .ok (.iload 4, 2) := by decide +kernel
theorem dL_law_3043 : decode cL_law 3043 = .ok (.iconst 1, 1) := by decide +kernel
theorem dL_law_3044 : decode cL_law 3044 = .ok (.iadd, 1) := by decide +kernel
theorem dL_law_3045 : decode cL_law 3045 = .ok (.iaload, 1) := by decide +kernel
theorem dL_law_3046 : decode cL_law 3046 = .ok (.aload_n 3, 1) := by decide +kernel
theorem dL_law_3047 : decode cL_law 3047 = .ok (.invokestatic 344, 3) := by decide +kernel
theorem dL_law_3050 : decode cL_law 3050 = .ok (.istore 5, 2) := by decide +kernel
theorem dL_law_3052 : decode cL_law 3052 = .ok (.aload_n 2, 1) := by decide +kernel
theorem dL_law_3053 : decode cL_law 3053 = .ok (.aload_n 0, 1) := by decide +kernel
theorem dL_law_3054 : decode cL_law 3054 = .ok (.iload 4, 2) := by decide +kernel
theorem dL_law_3056 : decode cL_law 3056 = .ok (.iconst 1, 1) := by decide +kernel
theorem dL_law_3057 : decode cL_law 3057 = .ok (.iadd, 1) := by decide +kernel
theorem dL_law_3058 : decode cL_law 3058 = .ok (.iaload, 1) := by decide +kernel
theorem dL_law_3059 : decode cL_law 3059 = .ok (.invokevirtual 346, 3) := by decide +kernel
theorem dL_law_3062 : decode cL_law 3062 = .ok (.istore 6, 2) := by decide +kernel
theorem dL_law_3064 : decode cL_law 3064 = .ok (.aload_n 2, 1) := by decide +kernel
theorem dL_law_3065 : decode cL_law 3065 = .ok (.invokevirtual 212, 3) := by decide +kernel
theorem dL_law_3068 : decode cL_law 3068 = .ok (.iload 5, 2) := by decide +kernel
theorem dL_law_3070 : decode cL_law 3070 = .ok (.if_icmp .eq 5, 3) := by decide +kernel
theorem dL_law_3073 : decode cL_law 3073 = .ok (.iconst 0, 1) := by decide +kernel
theorem dL_law_3074 : decode cL_law 3074 = .ok (.ireturn, 1) := by decide +kernel
theorem dL_law_3075 : decode cL_law 3075 = .ok (.iload 5, 2) := by decide +kernel
theorem dL_law_3077 : decode cL_law 3077 = .ok (.ifCond .ne 15, 3) := by decide +kernel
theorem dL_law_3080 : decode cL_law 3080 = .ok (.aload_n 3, 1) := by decide +kernel
theorem dL_law_3081 : decode cL_law 3081 = .ok (.iconst 0, 1) := by decide +kernel
theorem dL_law_3082 : decode cL_law 3082 = .ok (.laload, 1) := by decide +kernel
theorem dL_law_3083 : decode cL_law 3083 = .ok (.iload 6, 2) := by decide +kernel
theorem dL_law_3085 : decode cL_law 3085 = .ok (.i2l, 1) := by decide +kernel
theorem dL_law_3086 : decode cL_law 3086 = .ok (.lcmp, 1) := by decide +kernel
theorem dL_law_3087 : decode cL_law 3087 = .ok (.ifCond .eq 5, 3) := by decide +kernel
theorem dL_law_3090 : decode cL_law 3090 = .ok (.iconst 0, 1) := by decide +kernel
theorem dL_law_3091 : decode cL_law 3091 = .ok (.ireturn, 1) := by decide +kernel
theorem dL_law_3092 : decode cL_law 3092 = .ok (.goto 1569, 3) := by decide +kernel
theorem dL_law_3095 : decode cL_law 3095 = .ok (.aload_n 1, 1) := by decide +kernel
theorem dL_law_3096 : decode cL_law 3096 = .ok (.aload_n 0, 1) := by decide +kernel
theorem dL_law_3097 : decode cL_law 3097 = .ok (.iload 4, 2) := by decide +kernel
theorem dL_law_3099 : decode cL_law 3099 = .ok (.iconst 1, 1) := by decide +kernel
theorem dL_law_3100 : decode cL_law 3100 = .ok (.iadd, 1) := by decide +kernel
theorem dL_law_3101 : decode cL_law 3101 = .ok (.iaload, 1) := by decide +kernel
theorem dL_law_3102 : decode cL_law 3102 = .ok (.aload_n 3, 1) := by decide +kernel
theorem dL_law_3103 : decode cL_law 3103 = .ok (.invokestatic 347, 3) := by decide +kernel
theorem dL_law_3106 : decode cL_law 3106 = .ok (.istore 5, 2) := by decide +kernel
theorem dL_law_3108 : decode cL_law 3108 = .ok (.aload_n 2, 1) := by decide +kernel
theorem dL_law_3109 : decode cL_law 3109 = .ok (.aload_n 0, 1) := by decide +kernel
theorem dL_law_3110 : decode cL_law 3110 = .ok (.iload 4, 2) := by decide +kernel
theorem dL_law_3112 : decode cL_law 3112 = .ok (.iconst 1, 1) := by decide +kernel
theorem dL_law_3113 : decode cL_law 3113 = .ok (.iadd, 1) := by decide +kernel
theorem dL_law_3114 : decode cL_law 3114 = .ok (.iaload, 1) := by decide +kernel
theorem dL_law_3115 : decode cL_law 3115 = .ok (.invokevirtual 349, 3) := by decide +kernel
theorem dL_law_3118 : decode cL_law 3118 = .ok (.istore 6, 2) := by decide +kernel
theorem dL_law_3120 : decode cL_law 3120 = .ok (.aload_n 2, 1) := by decide +kernel
theorem dL_law_3121 : decode cL_law 3121 = .ok (.invokevirtual 212, 3) := by decide +kernel
theorem dL_law_3124 : decode cL_law 3124 = .ok (.iload 5, 2) := by decide +kernel
theorem dL_law_3126 : decode cL_law 3126 = .ok (.if_icmp .eq 5, 3) := by decide +kernel
theorem dL_law_3129 : decode cL_law 3129 = .ok (.iconst 0, 1) := by decide +kernel
theorem dL_law_3130 : decode cL_law 3130 = .ok (.ireturn, 1) := by decide +kernel
theorem dL_law_3131 : decode cL_law 3131 = .ok (.iload 5, 2) := by decide +kernel
theorem dL_law_3133 : decode cL_law 3133 = .ok (.ifCond .ne 15, 3) := by decide +kernel
theorem dL_law_3136 : decode cL_law 3136 = .ok (.aload_n 3, 1) := by decide +kernel
theorem dL_law_3137 : decode cL_law 3137 = .ok (.iconst 0, 1) := by decide +kernel
theorem dL_law_3138 : decode cL_law 3138 = .ok (.laload, 1) := by decide +kernel
theorem dL_law_3139 : decode cL_law 3139 = .ok (.iload 6, 2) := by decide +kernel
theorem dL_law_3141 : decode cL_law 3141 = .ok (.i2l, 1) := by decide +kernel
theorem dL_law_3142 : decode cL_law 3142 = .ok (.lcmp, 1) := by decide +kernel
theorem dL_law_3143 : decode cL_law 3143 = .ok (.ifCond .eq 5, 3) := by decide +kernel
theorem dL_law_3146 : decode cL_law 3146 = .ok (.iconst 0, 1) := by decide +kernel
theorem dL_law_3147 : decode cL_law 3147 = .ok (.ireturn, 1) := by decide +kernel
theorem dL_law_3148 : decode cL_law 3148 = .ok (.goto 1513, 3) := by decide +kernel
theorem dL_law_3151 : decode cL_law 3151 = .ok (.aload_n 1, 1) := by decide +kernel
theorem dL_law_3152 : decode cL_law 3152 = .ok (.aload_n 0, 1) := by decide +kernel
theorem dL_law_3153 : decode cL_law 3153 = .ok (.iload 4, 2) := by decide +kernel
theorem dL_law_3155 : decode cL_law 3155 = .ok (.iconst 1, 1) := by decide +kernel
theorem dL_law_3156 : decode cL_law 3156 = .ok (.iadd, 1) := by decide +kernel
theorem dL_law_3157 : decode cL_law 3157 = .ok (.iaload, 1) := by decide +kernel
theorem dL_law_3158 : decode cL_law 3158 = .ok (.aload_n 3, 1) := by decide +kernel
theorem dL_law_3159 : decode cL_law 3159 = .ok (.invokestatic 350, 3) := by decide +kernel
theorem dL_law_3162 : decode cL_law 3162 = .ok (.istore 5, 2) := by decide +kernel
theorem dL_law_3164 : decode cL_law 3164 = .ok (.aload_n 2, 1) := by decide +kernel
theorem dL_law_3165 : decode cL_law 3165 = .ok (.aload_n 0, 1) := by decide +kernel
theorem dL_law_3166 : decode cL_law 3166 = .ok (.iload 4, 2) := by decide +kernel
theorem dL_law_3168 : decode cL_law 3168 = .ok (.iconst 1, 1) := by decide +kernel
theorem dL_law_3169 : decode cL_law 3169 = .ok (.iadd, 1) := by decide +kernel
theorem dL_law_3170 : decode cL_law 3170 = .ok (.iaload, 1) := by decide +kernel
theorem dL_law_3171 : decode cL_law 3171 = .ok (.invokevirtual 352, 3) := by decide +kernel
theorem dL_law_3174 : decode cL_law 3174 = .ok (.istore 6, 2) := by decide +kernel
theorem dL_law_3176 : decode cL_law 3176 = .ok (.aload_n 2, 1) := by decide +kernel
theorem dL_law_3177 : decode cL_law 3177 = .ok (.invokevirtual 212, 3) := by decide +kernel
theorem dL_law_3180 : decode cL_law 3180 = .ok (.iload 5, 2) := by decide +kernel
theorem dL_law_3182 : decode cL_law 3182 = .ok (.if_icmp .eq 5, 3) := by decide +kernel
theorem dL_law_3185 : decode cL_law 3185 = .ok (.iconst 0, 1) := by decide +kernel
theorem dL_law_3186 : decode cL_law 3186 = .ok (.ireturn, 1) := by decide +kernel
theorem dL_law_3187 : decode cL_law 3187 = .ok (.iload 5, 2) := by decide +kernel
theorem dL_law_3189 : decode cL_law 3189 = .ok (.ifCond .ne 22, 3) := by decide +kernel
theorem dL_law_3192 : decode cL_law 3192 = .ok (.aload_n 3, 1) := by decide +kernel
theorem dL_law_3193 : decode cL_law 3193 = .ok (.iconst 0, 1) := by decide +kernel
theorem dL_law_3194 : decode cL_law 3194 = .ok (.laload, 1) := by decide +kernel
theorem dL_law_3195 : decode cL_law 3195 = .ok (.iload 6, 2) := by decide +kernel
theorem dL_law_3197 : decode cL_law 3197 = .ok (.ifCond .eq 7, 3) := by decide +kernel
theorem dL_law_3200 : decode cL_law 3200 = .ok (.lconst 1, 1) := by decide +kernel
theorem dL_law_3201 : decode cL_law 3201 = .ok (.goto 4, 3) := by decide +kernel
theorem dL_law_3204 : decode cL_law 3204 = .ok (.lconst 0, 1) := by decide +kernel
theorem dL_law_3205 : decode cL_law 3205 = .ok (.lcmp, 1) := by decide +kernel
theorem dL_law_3206 : decode cL_law 3206 = .ok (.ifCond .eq 5, 3) := by decide +kernel
theorem dL_law_3209 : decode cL_law 3209 = .ok (.iconst 0, 1) := by decide +kernel
theorem dL_law_3210 : decode cL_law 3210 = .ok (.ireturn, 1) := by decide +kernel
theorem dL_law_3211 : decode cL_law 3211 = .ok (.goto 1450, 3) := by decide +kernel
theorem dL_law_3214 : decode cL_law 3214 = .ok (.aload_n 1, 1) := by decide +kernel
theorem dL_law_3215 : decode cL_law 3215 = .ok (.aload_n 0, 1) := by decide +kernel
theorem dL_law_3216 : decode cL_law 3216 = .ok (.iload 4, 2) := by decide +kernel
theorem dL_law_3218 : decode cL_law 3218 = .ok (.iconst 1, 1) := by decide +kernel
theorem dL_law_3219 : decode cL_law 3219 = .ok (.iadd, 1) := by decide +kernel
theorem dL_law_3220 : decode cL_law 3220 = .ok (.iaload, 1) := by decide +kernel
theorem dL_law_3221 : decode cL_law 3221 = .ok (.aload_n 0, 1) := by decide +kernel
theorem dL_law_3222 : decode cL_law 3222 = .ok (.iload 4, 2) := by decide +kernel
theorem dL_law_3224 : decode cL_law 3224 = .ok (.iconst 2, 1) := by decide +kernel
theorem dL_law_3225 : decode cL_law 3225 = .ok (.iadd, 1) := by decide +kernel
theorem dL_law_3226 : decode cL_law 3226 = .ok (.iaload, 1) := by decide +kernel
theorem dL_law_3227 : decode cL_law 3227 = .ok (.aload_n 3, 1) := by decide +kernel
theorem dL_law_3228 : decode cL_law 3228 = .ok (.invokestatic 353, 3) := by decide +kernel
theorem dL_law_3231 : decode cL_law 3231 = .ok (.istore 5, 2) := by decide +kernel
theorem dL_law_3233 : decode cL_law 3233 = .ok (.aload_n 2, 1) := by decide +kernel
theorem dL_law_3234 : decode cL_law 3234 = .ok (.aload_n 0, 1) := by decide +kernel
theorem dL_law_3235 : decode cL_law 3235 = .ok (.iload 4, 2) := by decide +kernel
theorem dL_law_3237 : decode cL_law 3237 = .ok (.iconst 1, 1) := by decide +kernel
theorem dL_law_3238 : decode cL_law 3238 = .ok (.iadd, 1) := by decide +kernel
theorem dL_law_3239 : decode cL_law 3239 = .ok (.iaload, 1) := by decide +kernel
theorem dL_law_3240 : decode cL_law 3240 = .ok (.aload_n 0, 1) := by decide +kernel
theorem dL_law_3241 : decode cL_law 3241 = .ok (.iload 4, 2) := by decide +kernel
theorem dL_law_3243 : decode cL_law 3243 = .ok (.iconst 2, 1) := by decide +kernel
theorem dL_law_3244 : decode cL_law 3244 = .ok (.iadd, 1) := by decide +kernel
theorem dL_law_3245 : decode cL_law 3245 = .ok (.iaload, 1) := by decide +kernel
theorem dL_law_3246 : decode cL_law 3246 = .ok (.invokevirtual 355, 3) := by decide +kernel
theorem dL_law_3249 : decode cL_law 3249 = .ok (.istore 6, 2) := by decide +kernel
theorem dL_law_3251 : decode cL_law 3251 = .ok (.aload_n 2, 1) := by decide +kernel
theorem dL_law_3252 : decode cL_law 3252 = .ok (.invokevirtual 212, 3) := by decide +kernel
theorem dL_law_3255 : decode cL_law 3255 = .ok (.iload 5, 2) := by decide +kernel
theorem dL_law_3257 : decode cL_law 3257 = .ok (.if_icmp .eq 5, 3) := by decide +kernel
theorem dL_law_3260 : decode cL_law 3260 = .ok (.iconst 0, 1) := by decide +kernel
theorem dL_law_3261 : decode cL_law 3261 = .ok (.ireturn, 1) := by decide +kernel
theorem dL_law_3262 : decode cL_law 3262 = .ok (.iload 5, 2) := by decide +kernel
theorem dL_law_3264 : decode cL_law 3264 = .ok (.ifCond .ne 22, 3) := by decide +kernel
theorem dL_law_3267 : decode cL_law 3267 = .ok (.aload_n 3, 1) := by decide +kernel
theorem dL_law_3268 : decode cL_law 3268 = .ok (.iconst 0, 1) := by decide +kernel
theorem dL_law_3269 : decode cL_law 3269 = .ok (.laload, 1) := by decide +kernel
theorem dL_law_3270 : decode cL_law 3270 = .ok (.iload 6, 2) := by decide +kernel
theorem dL_law_3272 : decode cL_law 3272 = .ok (.ifCond .eq 7, 3) := by decide +kernel
theorem dL_law_3275 : decode cL_law 3275 = .ok (.lconst 1, 1) := by decide +kernel
theorem dL_law_3276 : decode cL_law 3276 = .ok (.goto 4, 3) := by decide +kernel
theorem dL_law_3279 : decode cL_law 3279 = .ok (.lconst 0, 1) := by decide +kernel
theorem dL_law_3280 : decode cL_law 3280 = .ok (.lcmp, 1) := by decide +kernel
theorem dL_law_3281 : decode cL_law 3281 = .ok (.ifCond .eq 5, 3) := by decide +kernel
theorem dL_law_3284 : decode cL_law 3284 = .ok (.iconst 0, 1) := by decide +kernel
theorem dL_law_3285 : decode cL_law 3285 = .ok (.ireturn, 1) := by decide +kernel
theorem dL_law_3286 : decode cL_law 3286 = .ok (.goto 1375, 3) := by decide +kernel
theorem dL_law_3289 : decode cL_law 3289 = .ok (.aload_n 1, 1) := by decide +kernel
theorem dL_law_3290 : decode cL_law 3290 = .ok (.aload_n 0, 1) := by decide +kernel
theorem dL_law_3291 : decode cL_law 3291 = .ok (.iload 4, 2) := by decide +kernel
theorem dL_law_3293 : decode cL_law 3293 = .ok (.iconst 1, 1) := by decide +kernel
theorem dL_law_3294 : decode cL_law 3294 = .ok (.iadd, 1) := by decide +kernel
theorem dL_law_3295 : decode cL_law 3295 = .ok (.iaload, 1) := by decide +kernel
theorem dL_law_3296 : decode cL_law 3296 = .ok (.aload_n 3, 1) := by decide +kernel
theorem dL_law_3297 : decode cL_law 3297 = .ok (.invokestatic 356, 3) := by decide +kernel
theorem dL_law_3300 : decode cL_law 3300 = .ok (.istore 5, 2) := by decide +kernel
theorem dL_law_3302 : decode cL_law 3302 = .ok (.aload_n 2, 1) := by decide +kernel
theorem dL_law_3303 : decode cL_law 3303 = .ok (.aload_n 0, 1) := by decide +kernel
theorem dL_law_3304 : decode cL_law 3304 = .ok (.iload 4, 2) := by decide +kernel
theorem dL_law_3306 : decode cL_law 3306 = .ok (.iconst 1, 1) := by decide +kernel
theorem dL_law_3307 : decode cL_law 3307 = .ok (.iadd, 1) := by decide +kernel
theorem dL_law_3308 : decode cL_law 3308 = .ok (.iaload, 1) := by decide +kernel
theorem dL_law_3309 : decode cL_law 3309 = .ok (.invokevirtual 358, 3) := by decide +kernel
theorem dL_law_3312 : decode cL_law 3312 = .ok (.istore 6, 2) := by decide +kernel
theorem dL_law_3314 : decode cL_law 3314 = .ok (.aload_n 2, 1) := by decide +kernel
theorem dL_law_3315 : decode cL_law 3315 = .ok (.invokevirtual 212, 3) := by decide +kernel
theorem dL_law_3318 : decode cL_law 3318 = .ok (.iload 5, 2) := by decide +kernel
theorem dL_law_3320 : decode cL_law 3320 = .ok (.if_icmp .eq 5, 3) := by decide +kernel
theorem dL_law_3323 : decode cL_law 3323 = .ok (.iconst 0, 1) := by decide +kernel
theorem dL_law_3324 : decode cL_law 3324 = .ok (.ireturn, 1) := by decide +kernel
theorem dL_law_3325 : decode cL_law 3325 = .ok (.iload 5, 2) := by decide +kernel
theorem dL_law_3327 : decode cL_law 3327 = .ok (.ifCond .ne 15, 3) := by decide +kernel
theorem dL_law_3330 : decode cL_law 3330 = .ok (.aload_n 3, 1) := by decide +kernel
theorem dL_law_3331 : decode cL_law 3331 = .ok (.iconst 0, 1) := by decide +kernel
theorem dL_law_3332 : decode cL_law 3332 = .ok (.laload, 1) := by decide +kernel
theorem dL_law_3333 : decode cL_law 3333 = .ok (.iload 6, 2) := by decide +kernel
theorem dL_law_3335 : decode cL_law 3335 = .ok (.i2l, 1) := by decide +kernel
theorem dL_law_3336 : decode cL_law 3336 = .ok (.lcmp, 1) := by decide +kernel
theorem dL_law_3337 : decode cL_law 3337 = .ok (.ifCond .eq 5, 3) := by decide +kernel
theorem dL_law_3340 : decode cL_law 3340 = .ok (.iconst 0, 1) := by decide +kernel
theorem dL_law_3341 : decode cL_law 3341 = .ok (.ireturn, 1) := by decide +kernel
theorem dL_law_3342 : decode cL_law 3342 = .ok (.goto 1319, 3) := by decide +kernel
theorem dL_law_3345 : decode cL_law 3345 = .ok (.aload_n 1, 1) := by decide +kernel
theorem dL_law_3346 : decode cL_law 3346 = .ok (.aload_n 0, 1) := by decide +kernel
theorem dL_law_3347 : decode cL_law 3347 = .ok (.iload 4, 2) := by decide +kernel
theorem dL_law_3349 : decode cL_law 3349 = .ok (.iconst 1, 1) := by decide +kernel
theorem dL_law_3350 : decode cL_law 3350 = .ok (.iadd, 1) := by decide +kernel
theorem dL_law_3351 : decode cL_law 3351 = .ok (.iaload, 1) := by decide +kernel
theorem dL_law_3352 : decode cL_law 3352 = .ok (.aload_n 3, 1) := by decide +kernel
theorem dL_law_3353 : decode cL_law 3353 = .ok (.invokestatic 359, 3) := by decide +kernel
theorem dL_law_3356 : decode cL_law 3356 = .ok (.istore 5, 2) := by decide +kernel
theorem dL_law_3358 : decode cL_law 3358 = .ok (.aload_n 2, 1) := by decide +kernel
theorem dL_law_3359 : decode cL_law 3359 = .ok (.aload_n 0, 1) := by decide +kernel
theorem dL_law_3360 : decode cL_law 3360 = .ok (.iload 4, 2) := by decide +kernel
theorem dL_law_3362 : decode cL_law 3362 = .ok (.iconst 1, 1) := by decide +kernel
theorem dL_law_3363 : decode cL_law 3363 = .ok (.iadd, 1) := by decide +kernel
theorem dL_law_3364 : decode cL_law 3364 = .ok (.iaload, 1) := by decide +kernel
theorem dL_law_3365 : decode cL_law 3365 = .ok (.invokevirtual 361, 3) := by decide +kernel
theorem dL_law_3368 : decode cL_law 3368 = .ok (.istore 6, 2) := by decide +kernel
theorem dL_law_3370 : decode cL_law 3370 = .ok (.aload_n 2, 1) := by decide +kernel
theorem dL_law_3371 : decode cL_law 3371 = .ok (.invokevirtual 212, 3) := by decide +kernel
theorem dL_law_3374 : decode cL_law 3374 = .ok (.iload 5, 2) := by decide +kernel
theorem dL_law_3376 : decode cL_law 3376 = .ok (.if_icmp .eq 5, 3) := by decide +kernel
theorem dL_law_3379 : decode cL_law 3379 = .ok (.iconst 0, 1) := by decide +kernel
theorem dL_law_3380 : decode cL_law 3380 = .ok (.ireturn, 1) := by decide +kernel
theorem dL_law_3381 : decode cL_law 3381 = .ok (.iload 5, 2) := by decide +kernel
theorem dL_law_3383 : decode cL_law 3383 = .ok (.ifCond .ne 15, 3) := by decide +kernel
theorem dL_law_3386 : decode cL_law 3386 = .ok (.aload_n 3, 1) := by decide +kernel
theorem dL_law_3387 : decode cL_law 3387 = .ok (.iconst 0, 1) := by decide +kernel
theorem dL_law_3388 : decode cL_law 3388 = .ok (.laload, 1) := by decide +kernel
theorem dL_law_3389 : decode cL_law 3389 = .ok (.iload 6, 2) := by decide +kernel
theorem dL_law_3391 : decode cL_law 3391 = .ok (.i2l, 1) := by decide +kernel
theorem dL_law_3392 : decode cL_law 3392 = .ok (.lcmp, 1) := by decide +kernel
theorem dL_law_3393 : decode cL_law 3393 = .ok (.ifCond .eq 5, 3) := by decide +kernel
theorem dL_law_3396 : decode cL_law 3396 = .ok (.iconst 0, 1) := by decide +kernel
theorem dL_law_3397 : decode cL_law 3397 = .ok (.ireturn, 1) := by decide +kernel
theorem dL_law_3398 : decode cL_law 3398 = .ok (.goto 1263, 3) := by decide +kernel
theorem dL_law_3401 : decode cL_law 3401 = .ok (.aload_n 1, 1) := by decide +kernel
theorem dL_law_3402 : decode cL_law 3402 = .ok (.aload_n 0, 1) := by decide +kernel
theorem dL_law_3403 : decode cL_law 3403 = .ok (.iload 4, 2) := by decide +kernel
theorem dL_law_3405 : decode cL_law 3405 = .ok (.iconst 1, 1) := by decide +kernel
theorem dL_law_3406 : decode cL_law 3406 = .ok (.iadd, 1) := by decide +kernel
theorem dL_law_3407 : decode cL_law 3407 = .ok (.iaload, 1) := by decide +kernel
theorem dL_law_3408 : decode cL_law 3408 = .ok (.aload_n 3, 1) := by decide +kernel
theorem dL_law_3409 : decode cL_law 3409 = .ok (.invokestatic 362, 3) := by decide +kernel
theorem dL_law_3412 : decode cL_law 3412 = .ok (.istore 5, 2) := by decide +kernel
theorem dL_law_3414 : decode cL_law 3414 = .ok (.aload_n 2, 1) := by decide +kernel
theorem dL_law_3415 : decode cL_law 3415 = .ok (.aload_n 0, 1) := by decide +kernel
theorem dL_law_3416 : decode cL_law 3416 = .ok (.iload 4, 2) := by decide +kernel
theorem dL_law_3418 : decode cL_law 3418 = .ok (.iconst 1, 1) := by decide +kernel
theorem dL_law_3419 : decode cL_law 3419 = .ok (.iadd, 1) := by decide +kernel
theorem dL_law_3420 : decode cL_law 3420 = .ok (.iaload, 1) := by decide +kernel
theorem dL_law_3421 : decode cL_law 3421 = .ok (.invokevirtual 364, 3) := by decide +kernel
theorem dL_law_3424 : decode cL_law 3424 = .ok (.istore 6, 2) := by decide +kernel
theorem dL_law_3426 : decode cL_law 3426 = .ok (.aload_n 2, 1) := by decide +kernel
theorem dL_law_3427 : decode cL_law 3427 = .ok (.invokevirtual 212, 3) := by decide +kernel
theorem dL_law_3430 : decode cL_law 3430 = .ok (.iload 5, 2) := by decide +kernel
theorem dL_law_3432 : decode cL_law 3432 = .ok (.if_icmp .eq 5, 3) := by decide +kernel
theorem dL_law_3435 : decode cL_law 3435 = .ok (.iconst 0, 1) := by decide +kernel
theorem dL_law_3436 : decode cL_law 3436 = .ok (.ireturn, 1) := by decide +kernel
theorem dL_law_3437 : decode cL_law 3437 = .ok (.iload 5, 2) := by decide +kernel
theorem dL_law_3439 : decode cL_law 3439 = .ok (.ifCond .ne 15, 3) := by decide +kernel
theorem dL_law_3442 : decode cL_law 3442 = .ok (.aload_n 3, 1) := by decide +kernel
theorem dL_law_3443 : decode cL_law 3443 = .ok (.iconst 0, 1) := by decide +kernel
theorem dL_law_3444 : decode cL_law 3444 = .ok (.laload, 1) := by decide +kernel
theorem dL_law_3445 : decode cL_law 3445 = .ok (.iload 6, 2) := by decide +kernel
theorem dL_law_3447 : decode cL_law 3447 = .ok (.i2l, 1) := by decide +kernel
theorem dL_law_3448 : decode cL_law 3448 = .ok (.lcmp, 1) := by decide +kernel
theorem dL_law_3449 : decode cL_law 3449 = .ok (.ifCond .eq 5, 3) := by decide +kernel
theorem dL_law_3452 : decode cL_law 3452 = .ok (.iconst 0, 1) := by decide +kernel
theorem dL_law_3453 : decode cL_law 3453 = .ok (.ireturn, 1) := by decide +kernel
theorem dL_law_3454 : decode cL_law 3454 = .ok (.goto 1207, 3) := by decide +kernel
theorem dL_law_3457 : decode cL_law 3457 = .ok (.aload_n 1, 1) := by decide +kernel
theorem dL_law_3458 : decode cL_law 3458 = .ok (.aload_n 0, 1) := by decide +kernel
theorem dL_law_3459 : decode cL_law 3459 = .ok (.iload 4, 2) := by decide +kernel
theorem dL_law_3461 : decode cL_law 3461 = .ok (.iconst 1, 1) := by decide +kernel
theorem dL_law_3462 : decode cL_law 3462 = .ok (.iadd, 1) := by decide +kernel
theorem dL_law_3463 : decode cL_law 3463 = .ok (.iaload, 1) := by decide +kernel
theorem dL_law_3464 : decode cL_law 3464 = .ok (.aload_n 3, 1) := by decide +kernel
theorem dL_law_3465 : decode cL_law 3465 = .ok (.invokestatic 365, 3) := by decide +kernel
theorem dL_law_3468 : decode cL_law 3468 = .ok (.istore 5, 2) := by decide +kernel
theorem dL_law_3470 : decode cL_law 3470 = .ok (.aload_n 2, 1) := by decide +kernel
theorem dL_law_3471 : decode cL_law 3471 = .ok (.aload_n 0, 1) := by decide +kernel
theorem dL_law_3472 : decode cL_law 3472 = .ok (.iload 4, 2) := by decide +kernel
theorem dL_law_3474 : decode cL_law 3474 = .ok (.iconst 1, 1) := by decide +kernel
theorem dL_law_3475 : decode cL_law 3475 = .ok (.iadd, 1) := by decide +kernel
theorem dL_law_3476 : decode cL_law 3476 = .ok (.iaload, 1) := by decide +kernel
theorem dL_law_3477 : decode cL_law 3477 = .ok (.invokevirtual 367, 3) := by decide +kernel
theorem dL_law_3480 : decode cL_law 3480 = .ok (.istore 6, 2) := by decide +kernel
theorem dL_law_3482 : decode cL_law 3482 = .ok (.aload_n 2, 1) := by decide +kernel
theorem dL_law_3483 : decode cL_law 3483 = .ok (.invokevirtual 212, 3) := by decide +kernel
theorem dL_law_3486 : decode cL_law 3486 = .ok (.iload 5, 2) := by decide +kernel
theorem dL_law_3488 : decode cL_law 3488 = .ok (.if_icmp .eq 5, 3) := by decide +kernel
theorem dL_law_3491 : decode cL_law 3491 = .ok (.iconst 0, 1) := by decide +kernel
theorem dL_law_3492 : decode cL_law 3492 = .ok (.ireturn, 1) := by decide +kernel
theorem dL_law_3493 : decode cL_law 3493 = .ok (.iload 5, 2) := by decide +kernel
theorem dL_law_3495 : decode cL_law 3495 = .ok (.ifCond .ne 15, 3) := by decide +kernel
theorem dL_law_3498 : decode cL_law 3498 = .ok (.aload_n 3, 1) := by decide +kernel
theorem dL_law_3499 : decode cL_law 3499 = .ok (.iconst 0, 1) := by decide +kernel
theorem dL_law_3500 : decode cL_law 3500 = .ok (.laload, 1) := by decide +kernel
theorem dL_law_3501 : decode cL_law 3501 = .ok (.iload 6, 2) := by decide +kernel
theorem dL_law_3503 : decode cL_law 3503 = .ok (.i2l, 1) := by decide +kernel
theorem dL_law_3504 : decode cL_law 3504 = .ok (.lcmp, 1) := by decide +kernel
theorem dL_law_3505 : decode cL_law 3505 = .ok (.ifCond .eq 5, 3) := by decide +kernel
theorem dL_law_3508 : decode cL_law 3508 = .ok (.iconst 0, 1) := by decide +kernel
theorem dL_law_3509 : decode cL_law 3509 = .ok (.ireturn, 1) := by decide +kernel
theorem dL_law_3510 : decode cL_law 3510 = .ok (.goto 1151, 3) := by decide +kernel
theorem dL_law_3513 : decode cL_law 3513 = .ok (.aload_n 1, 1) := by decide +kernel
theorem dL_law_3514 : decode cL_law 3514 = .ok (.aload_n 0, 1) := by decide +kernel
theorem dL_law_3515 : decode cL_law 3515 = .ok (.iload 4, 2) := by decide +kernel
theorem dL_law_3517 : decode cL_law 3517 = .ok (.iconst 1, 1) := by decide +kernel
theorem dL_law_3518 : decode cL_law 3518 = .ok (.iadd, 1) := by decide +kernel
theorem dL_law_3519 : decode cL_law 3519 = .ok (.iaload, 1) := by decide +kernel
theorem dL_law_3520 : decode cL_law 3520 = .ok (.aload_n 3, 1) := by decide +kernel
theorem dL_law_3521 : decode cL_law 3521 = .ok (.invokestatic 368, 3) := by decide +kernel
theorem dL_law_3524 : decode cL_law 3524 = .ok (.istore 5, 2) := by decide +kernel
theorem dL_law_3526 : decode cL_law 3526 = .ok (.aload_n 2, 1) := by decide +kernel
theorem dL_law_3527 : decode cL_law 3527 = .ok (.aload_n 0, 1) := by decide +kernel
theorem dL_law_3528 : decode cL_law 3528 = .ok (.iload 4, 2) := by decide +kernel
theorem dL_law_3530 : decode cL_law 3530 = .ok (.iconst 1, 1) := by decide +kernel
theorem dL_law_3531 : decode cL_law 3531 = .ok (.iadd, 1) := by decide +kernel
theorem dL_law_3532 : decode cL_law 3532 = .ok (.iaload, 1) := by decide +kernel
theorem dL_law_3533 : decode cL_law 3533 = .ok (.invokevirtual 370, 3) := by decide +kernel
theorem dL_law_3536 : decode cL_law 3536 = .ok (.istore 6, 2) := by decide +kernel
theorem dL_law_3538 : decode cL_law 3538 = .ok (.aload_n 2, 1) := by decide +kernel
theorem dL_law_3539 : decode cL_law 3539 = .ok (.invokevirtual 212, 3) := by decide +kernel
theorem dL_law_3542 : decode cL_law 3542 = .ok (.iload 5, 2) := by decide +kernel
theorem dL_law_3544 : decode cL_law 3544 = .ok (.if_icmp .eq 5, 3) := by decide +kernel
theorem dL_law_3547 : decode cL_law 3547 = .ok (.iconst 0, 1) := by decide +kernel
theorem dL_law_3548 : decode cL_law 3548 = .ok (.ireturn, 1) := by decide +kernel
theorem dL_law_3549 : decode cL_law 3549 = .ok (.iload 5, 2) := by decide +kernel
theorem dL_law_3551 : decode cL_law 3551 = .ok (.ifCond .ne 15, 3) := by decide +kernel
theorem dL_law_3554 : decode cL_law 3554 = .ok (.aload_n 3, 1) := by decide +kernel
theorem dL_law_3555 : decode cL_law 3555 = .ok (.iconst 0, 1) := by decide +kernel
theorem dL_law_3556 : decode cL_law 3556 = .ok (.laload, 1) := by decide +kernel
theorem dL_law_3557 : decode cL_law 3557 = .ok (.iload 6, 2) := by decide +kernel
theorem dL_law_3559 : decode cL_law 3559 = .ok (.i2l, 1) := by decide +kernel
theorem dL_law_3560 : decode cL_law 3560 = .ok (.lcmp, 1) := by decide +kernel
theorem dL_law_3561 : decode cL_law 3561 = .ok (.ifCond .eq 5, 3) := by decide +kernel
theorem dL_law_3564 : decode cL_law 3564 = .ok (.iconst 0, 1) := by decide +kernel
theorem dL_law_3565 : decode cL_law 3565 = .ok (.ireturn, 1) := by decide +kernel
theorem dL_law_3566 : decode cL_law 3566 = .ok (.goto 1095, 3) := by decide +kernel
theorem dL_law_3569 : decode cL_law 3569 = .ok (.aload_n 1, 1) := by decide +kernel
theorem dL_law_3570 : decode cL_law 3570 = .ok (.aload_n 0, 1) := by decide +kernel
theorem dL_law_3571 : decode cL_law 3571 = .ok (.iload 4, 2) := by decide +kernel
theorem dL_law_3573 : decode cL_law 3573 = .ok (.iconst 1, 1) := by decide +kernel
theorem dL_law_3574 : decode cL_law 3574 = .ok (.iadd, 1) := by decide +kernel
theorem dL_law_3575 : decode cL_law 3575 = .ok (.iaload, 1) := by decide +kernel
theorem dL_law_3576 : decode cL_law 3576 = .ok (.aload_n 3, 1) := by decide +kernel
theorem dL_law_3577 : decode cL_law 3577 = .ok (.invokestatic 371, 3) := by decide +kernel
theorem dL_law_3580 : decode cL_law 3580 = .ok (.istore 5, 2) := by decide +kernel
theorem dL_law_3582 : decode cL_law 3582 = .ok (.aload_n 2, 1) := by decide +kernel
theorem dL_law_3583 : decode cL_law 3583 = .ok (.aload_n 0, 1) := by decide +kernel
theorem dL_law_3584 : decode cL_law 3584 = .ok (.iload 4, 2) := by decide +kernel
theorem dL_law_3586 : decode cL_law 3586 = .ok (.iconst 1, 1) := by decide +kernel
theorem dL_law_3587 : decode cL_law 3587 = .ok (.iadd, 1) := by decide +kernel
theorem dL_law_3588 : decode cL_law 3588 = .ok (.iaload, 1) := by decide +kernel
theorem dL_law_3589 : decode cL_law 3589 = .ok (.invokevirtual 373, 3) := by decide +kernel
theorem dL_law_3592 : decode cL_law 3592 = .ok (.istore 6, 2) := by decide +kernel
theorem dL_law_3594 : decode cL_law 3594 = .ok (.aload_n 2, 1) := by decide +kernel
theorem dL_law_3595 : decode cL_law 3595 = .ok (.invokevirtual 212, 3) := by decide +kernel
