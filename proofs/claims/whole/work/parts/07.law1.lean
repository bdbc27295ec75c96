theorem cvL_13 : CV RL 13 yX4_row cX4_row 3 (some .int) 2 4 := ⟨good_at 216 (by decide +kernel) rfl, good_at 217 (by decide +kernel) rfl, good_at 218 (by decide +kernel) rfl, good_at 48 (by decide +kernel) rfl, good_at 219 (by decide +kernel) rfl, ⟨by decide +kernel, by decide +kernel, by decide +kernel⟩, TX4, 9, rfl⟩
theorem cvL_17 : CV RL 17 yX5_row cX5_row 4 (some .int) 2 5 := ⟨good_at 754 (by decide +kernel) rfl, good_at 755 (by decide +kernel) rfl, good_at 756 (by decide +kernel) rfl, good_at 53 (by decide +kernel) rfl, good_at 757 (by decide +kernel) rfl, ⟨by decide +kernel, by decide +kernel, by decide +kernel⟩, TX5, 27, rfl⟩
theorem cvL_18 : CV RL 18 yX4_lay cX4_lay 6 (some .int) 3 4 := ⟨good_at 239 (by decide +kernel) rfl, good_at 240 (by decide +kernel) rfl, good_at 241 (by decide +kernel) rfl, good_at 48 (by decide +kernel) rfl, good_at 242 (by decide +kernel) rfl, ⟨by decide +kernel, by decide +kernel, by decide +kernel⟩, TX4, 9, rfl⟩
theorem cvL_22 : CV RL 22 yX5_lay cX5_lay 5 (some .int) 3 5 := ⟨good_at 769 (by decide +kernel) rfl, good_at 770 (by decide +kernel) rfl, good_at 771 (by decide +kernel) rfl, good_at 53 (by decide +kernel) rfl, good_at 772 (by decide +kernel) rfl, ⟨by decide +kernel, by decide +kernel, by decide +kernel⟩, TX5, 27, rfl⟩
theorem cvL_23 : CV RL 23 yX4_at cX4_at 5 (some .int) 2 4 := ⟨good_at 267 (by decide +kernel) rfl, good_at 268 (by decide +kernel) rfl, good_at 269 (by decide +kernel) rfl, good_at 48 (by decide +kernel) rfl, good_at 270 (by decide +kernel) rfl, ⟨by decide +kernel, by decide +kernel, by decide +kernel⟩, TX4, 9, rfl⟩
theorem cvL_26 : CV RL 26 yX5_at cX5_at 3 (some .int) 2 5 := ⟨good_at 777 (by decide +kernel) rfl, good_at 778 (by decide +kernel) rfl, good_at 779 (by decide +kernel) rfl, good_at 53 (by decide +kernel) rfl, good_at 780 (by decide +kernel) rfl, ⟨by decide +kernel, by decide +kernel, by decide +kernel⟩, TX5, 27, rfl⟩
theorem cvL_27 : CV RL 27 yX4_tear cX4_tear 4 (some .int) 1 4 := ⟨good_at 271 (by decide +kernel) rfl, good_at 272 (by decide +kernel) rfl, good_at 273 (by decide +kernel) rfl, good_at 48 (by decide +kernel) rfl, good_at 274 (by decide +kernel) rfl, ⟨by decide +kernel, by decide +kernel, by decide +kernel⟩, TX4, 9, rfl⟩
theorem cvL_31 : CV RL 31 yX5_tear cX5_tear 2 (some .int) 1 5 := ⟨good_at 781 (by decide +kernel) rfl, good_at 782 (by decide +kernel) rfl, good_at 783 (by decide +kernel) rfl, good_at 53 (by decide +kernel) rfl, good_at 784 (by decide +kernel) rfl, ⟨by decide +kernel, by decide +kernel, by decide +kernel⟩, TX5, 27, rfl⟩
theorem cvL_32 : CV RL 32 yX4_copy cX4_copy 8 (some .int) 5 4 := ⟨good_at 275 (by decide +kernel) rfl, good_at 276 (by decide +kernel) rfl, good_at 277 (by decide +kernel) rfl, good_at 48 (by decide +kernel) rfl, good_at 278 (by decide +kernel) rfl, ⟨by decide +kernel, by decide +kernel, by decide +kernel⟩, TX4, 9, rfl⟩
theorem cvL_36 : CV RL 36 yX5_copy cX5_copy 8 (some .int) 5 5 := ⟨good_at 785 (by decide +kernel) rfl, good_at 786 (by decide +kernel) rfl, good_at 787 (by decide +kernel) rfl, good_at 53 (by decide +kernel) rfl, good_at 788 (by decide +kernel) rfl, ⟨by decide +kernel, by decide +kernel, by decide +kernel⟩, TX5, 27, rfl⟩
theorem cvL_37 : CV RL 37 yX4_mean cX4_mean 7 (some .int) 1 4 := ⟨good_at 286 (by decide +kernel) rfl, good_at 287 (by decide +kernel) rfl, good_at 288 (by decide +kernel) rfl, good_at 48 (by decide +kernel) rfl, good_at 289 (by decide +kernel) rfl, ⟨by decide +kernel, by decide +kernel, by decide +kernel⟩, TX4, 9, rfl⟩
theorem cvL_40 : CV RL 40 yX5_mean cX5_mean 5 (some .int) 1 5 := ⟨good_at 789 (by decide +kernel) rfl, good_at 790 (by decide +kernel) rfl, good_at 791 (by decide +kernel) rfl, good_at 53 (by decide +kernel) rfl, good_at 792 (by decide +kernel) rfl, ⟨by decide +kernel, by decide +kernel, by decide +kernel⟩, TX5, 27, rfl⟩
theorem cvL_41 : CV RL 41 yX4_text cX4_text 3 (some .int) 2 4 := ⟨good_at 290 (by decide +kernel) rfl, good_at 291 (by decide +kernel) rfl, good_at 292 (by decide +kernel) rfl, good_at 48 (by decide +kernel) rfl, good_at 293 (by decide +kernel) rfl, ⟨by decide +kernel, by decide +kernel, by decide +kernel⟩, TX4, 9, rfl⟩
theorem cvL_44 : CV RL 44 yX5_text cX5_text 4 (some .int) 2 5 := ⟨good_at 793 (by decide +kernel) rfl, good_at 794 (by decide +kernel) rfl, good_at 795 (by decide +kernel) rfl, good_at 53 (by decide +kernel) rfl, good_at 796 (by decide +kernel) rfl, ⟨by decide +kernel, by decide +kernel, by decide +kernel⟩, TX5, 27, rfl⟩
theorem cvL_45 : CV RL 45 yX4_put cX4_put 7 (some .int) 3 4 := ⟨good_at 298 (by decide +kernel) rfl, good_at 299 (by decide +kernel) rfl, good_at 300 (by decide +kernel) rfl, good_at 48 (by decide +kernel) rfl, good_at 301 (by decide +kernel) rfl, ⟨by decide +kernel, by decide +kernel, by decide +kernel⟩, TX4, 9, rfl⟩
theorem cvL_48 : CV RL 48 yX5_put cX5_put 5 (some .int) 3 5 := ⟨good_at 801 (by decide +kernel) rfl, good_at 802 (by decide +kernel) rfl, good_at 803 (by decide +kernel) rfl, good_at 53 (by decide +kernel) rfl, good_at 804 (by decide +kernel) rfl, ⟨by decide +kernel, by decide +kernel, by decide +kernel⟩, TX5, 27, rfl⟩
theorem cvL_49 : CV RL 49 yX4_fault cX4_fault 4 (some .int) 1 4 := ⟨good_at 302 (by decide +kernel) rfl, good_at 303 (by decide +kernel) rfl, good_at 304 (by decide +kernel) rfl, good_at 48 (by decide +kernel) rfl, good_at 305 (by decide +kernel) rfl, ⟨by decide +kernel, by decide +kernel, by decide +kernel⟩, TX4, 9, rfl⟩
theorem cvL_52 : CV RL 52 yX5_fault cX5_fault 2 (some .int) 1 5 := ⟨good_at 805 (by decide +kernel) rfl, good_at 806 (by decide +kernel) rfl, good_at 807 (by decide +kernel) rfl, good_at 53 (by decide +kernel) rfl, good_at 808 (by decide +kernel) rfl, ⟨by decide +kernel, by decide +kernel, by decide +kernel⟩, TX5, 27, rfl⟩
theorem cvL_53 : CV RL 53 yX4_street cX4_street 5 (some .int) 1 4 := ⟨good_at 317 (by decide +kernel) rfl, good_at 318 (by decide +kernel) rfl, good_at 319 (by decide +kernel) rfl, good_at 48 (by decide +kernel) rfl, good_at 320 (by decide +kernel) rfl, ⟨by decide +kernel, by decide +kernel, by decide +kernel⟩, TX4, 9, rfl⟩
theorem cvL_56 : CV RL 56 yX5_street cX5_street 3 (some .int) 1 5 := ⟨good_at 832 (by decide +kernel) rfl, good_at 833 (by decide +kernel) rfl, good_at 834 (by decide +kernel) rfl, good_at 53 (by decide +kernel) rfl, good_at 835 (by decide +kernel) rfl, ⟨by decide +kernel, by decide +kernel, by decide +kernel⟩, TX5, 27, rfl⟩
theorem cvL_57 : CV RL 57 yX4_pin cX4_pin 3 (some .int) 2 4 := ⟨good_at 371 (by decide +kernel) rfl, good_at 372 (by decide +kernel) rfl, good_at 373 (by decide +kernel) rfl, good_at 48 (by decide +kernel) rfl, good_at 374 (by decide +kernel) rfl, ⟨by decide +kernel, by decide +kernel, by decide +kernel⟩, TX4, 9, rfl⟩
theorem cvL_60 : CV RL 60 yX5_pin cX5_pin 3 (some .int) 2 5 := ⟨good_at 836 (by decide +kernel) rfl, good_at 837 (by decide +kernel) rfl, good_at 838 (by decide +kernel) rfl, good_at 53 (by decide +kernel) rfl, good_at 839 (by decide +kernel) rfl, ⟨by decide +kernel, by decide +kernel, by decide +kernel⟩, TX5, 27, rfl⟩
theorem cvL_61 : CV RL 61 yX4_mark cX4_mark 6 (some .int) 2 4 := ⟨good_at 380 (by decide +kernel) rfl, good_at 381 (by decide +kernel) rfl, good_at 382 (by decide +kernel) rfl, good_at 48 (by decide +kernel) rfl, good_at 383 (by decide +kernel) rfl, ⟨by decide +kernel, by decide +kernel, by decide +kernel⟩, TX4, 9, rfl⟩
theorem cvL_64 : CV RL 64 yX5_mark cX5_mark 4 (some .int) 2 5 := ⟨good_at 864 (by decide +kernel) rfl, good_at 865 (by decide +kernel) rfl, good_at 866 (by decide +kernel) rfl, good_at 53 (by decide +kernel) rfl, good_at 867 (by decide +kernel) rfl, ⟨by decide +kernel, by decide +kernel, by decide +kernel⟩, TX5, 27, rfl⟩
theorem cvL_65 : CV RL 65 yX4_worth cX4_worth 4 (some .int) 2 4 := ⟨good_at 388 (by decide +kernel) rfl, good_at 389 (by decide +kernel) rfl, good_at 390 (by decide +kernel) rfl, good_at 48 (by decide +kernel) rfl, good_at 391 (by decide +kernel) rfl, ⟨by decide +kernel, by decide +kernel, by decide +kernel⟩, TX4, 9, rfl⟩
theorem cvL_68 : CV RL 68 yX5_worth cX5_worth 3 (some .int) 2 5 := ⟨good_at 871 (by decide +kernel) rfl, good_at 872 (by decide +kernel) rfl, good_at 873 (by decide +kernel) rfl, good_at 53 (by decide +kernel) rfl, good_at 874 (by decide +kernel) rfl, ⟨by decide +kernel, by decide +kernel, by decide +kernel⟩, TX5, 27, rfl⟩
theorem cvL_69 : CV RL 69 yX4_step cX4_step 3 (some .int) 1 4 := ⟨good_at 395 (by decide +kernel) rfl, good_at 396 (by decide +kernel) rfl, good_at 397 (by decide +kernel) rfl, good_at 48 (by decide +kernel) rfl, good_at 398 (by decide +kernel) rfl, ⟨by decide +kernel, by decide +kernel, by decide +kernel⟩, TX4, 9, rfl⟩
theorem cvL_72 : CV RL 72 yX5_step cX5_step 2 (some .int) 1 5 := ⟨good_at 876 (by decide +kernel) rfl, good_at 877 (by decide +kernel) rfl, good_at 878 (by decide +kernel) rfl, good_at 53 (by decide +kernel) rfl, good_at 879 (by decide +kernel) rfl, ⟨by decide +kernel, by decide +kernel, by decide +kernel⟩, TX5, 27, rfl⟩
theorem cvL_73 : CV RL 73 yX4_pick cX4_pick 2 (some .int) 1 4 := ⟨good_at 407 (by decide +kernel) rfl, good_at 408 (by decide +kernel) rfl, good_at 409 (by decide +kernel) rfl, good_at 48 (by decide +kernel) rfl, good_at 410 (by decide +kernel) rfl, ⟨by decide +kernel, by decide +kernel, by decide +kernel⟩, TX4, 9, rfl⟩
theorem cvL_76 : CV RL 76 yX5_pick cX5_pick 2 (some .int) 1 5 := ⟨good_at 887 (by decide +kernel) rfl, good_at 888 (by decide +kernel) rfl, good_at 889 (by decide +kernel) rfl, good_at 53 (by decide +kernel) rfl, good_at 890 (by decide +kernel) rfl, ⟨by decide +kernel, by decide +kernel, by decide +kernel⟩, TX5, 27, rfl⟩
theorem cvL_77 : CV RL 77 yX4_drop cX4_drop 2 (some .int) 1 4 := ⟨good_at 418 (by decide +kernel) rfl, good_at 419 (by decide +kernel) rfl, good_at 420 (by decide +kernel) rfl, good_at 48 (by decide +kernel) rfl, good_at 421 (by decide +kernel) rfl, ⟨by decide +kernel, by decide +kernel, by decide +kernel⟩, TX4, 9, rfl⟩
theorem cvL_80 : CV RL 80 yX5_drop cX5_drop 2 (some .int) 1 5 := ⟨good_at 898 (by decide +kernel) rfl, good_at 899 (by decide +kernel) rfl, good_at 900 (by decide +kernel) rfl, good_at 53 (by decide +kernel) rfl, good_at 901 (by decide +kernel) rfl, ⟨by decide +kernel, by decide +kernel, by decide +kernel⟩, TX5, 27, rfl⟩
theorem cvL_81 : CV RL 81 yX4_sweep cX4_sweep 2 (some .int) 0 4 := ⟨good_at 422 (by decide +kernel) rfl, good_at 423 (by decide +kernel) rfl, good_at 424 (by decide +kernel) rfl, good_at 48 (by decide +kernel) rfl, good_at 425 (by decide +kernel) rfl, ⟨by decide +kernel, by decide +kernel, by decide +kernel⟩, TX4, 9, rfl⟩
theorem cvL_85 : CV RL 85 yX5_sweep cX5_sweep 4 (some .int) 0 5 := ⟨good_at 902 (by decide +kernel) rfl, good_at 903 (by decide +kernel) rfl, good_at 904 (by decide +kernel) rfl, good_at 53 (by decide +kernel) rfl, good_at 905 (by decide +kernel) rfl, ⟨by decide +kernel, by decide +kernel, by decide +kernel⟩, TX5, 27, rfl⟩
theorem cvL_86 : CV RL 86 yX4_undo cX4_undo 3 (some .int) 1 4 := ⟨good_at 426 (by decide +kernel) rfl, good_at 427 (by decide +kernel) rfl, good_at 428 (by decide +kernel) rfl, good_at 48 (by decide +kernel) rfl, good_at 429 (by decide +kernel) rfl, ⟨by decide +kernel, by decide +kernel, by decide +kernel⟩, TX4, 9, rfl⟩
theorem cvL_89 : CV RL 89 yX5_undo cX5_undo 3 (some .int) 1 5 := ⟨good_at 910 (by decide +kernel) rfl, good_at 911 (by decide +kernel) rfl, good_at 912 (by decide +kernel) rfl, good_at 53 (by decide +kernel) rfl, good_at 913 (by decide +kernel) rfl, ⟨by decide +kernel, by decide +kernel, by decide +kernel⟩, TX5, 27, rfl⟩
theorem cvL_90 : CV RL 90 yX4_keep cX4_keep 3 (some .int) 1 4 := ⟨good_at 430 (by decide +kernel) rfl, good_at 431 (by decide +kernel) rfl, good_at 432 (by decide +kernel) rfl, good_at 48 (by decide +kernel) rfl, good_at 433 (by decide +kernel) rfl, ⟨by decide +kernel, by decide +kernel, by decide +kernel⟩, TX4, 9, rfl⟩
theorem cvL_93 : CV RL 93 yX5_keep cX5_keep 2 (some .int) 1 5 := ⟨good_at 914 (by decide +kernel) rfl, good_at 915 (by decide +kernel) rfl, good_at 916 (by decide +kernel) rfl, good_at 53 (by decide +kernel) rfl, good_at 917 (by decide +kernel) rfl, ⟨by decide +kernel, by decide +kernel, by decide +kernel⟩, TX5, 27, rfl⟩
theorem cvL_94 : CV RL 94 yX4_on cX4_on 3 (some .int) 1 4 := ⟨good_at 442 (by decide +kernel) rfl, good_at 443 (by decide +kernel) rfl, good_at 444 (by decide +kernel) rfl, good_at 48 (by decide +kernel) rfl, good_at 445 (by decide +kernel) rfl, ⟨by decide +kernel, by decide +kernel, by decide +kernel⟩, TX4, 9, rfl⟩
theorem cvL_97 : CV RL 97 yX5_on cX5_on 2 (some .int) 1 5 := ⟨good_at 919 (by decide +kernel) rfl, good_at 920 (by decide +kernel) rfl, good_at 921 (by decide +kernel) rfl, good_at 53 (by decide +kernel) rfl, good_at 922 (by decide +kernel) rfl, ⟨by decide +kernel, by decide +kernel, by decide +kernel⟩, TX5, 27, rfl⟩
theorem cvL_98 : CV RL 98 yX4_busy cX4_busy 5 (some .int) 0 4 := ⟨good_at 446 (by decide +kernel) rfl, good_at 447 (by decide +kernel) rfl, good_at 448 (by decide +kernel) rfl, good_at 48 (by decide +kernel) rfl, good_at 449 (by decide +kernel) rfl, ⟨by decide +kernel, by decide +kernel, by decide +kernel⟩, TX4, 9, rfl⟩
theorem cvL_101 : CV RL 101 yX5_busy cX5_busy 2 (some .int) 0 5 := ⟨good_at 923 (by decide +kernel) rfl, good_at 924 (by decide +kernel) rfl, good_at 925 (by decide +kernel) rfl, good_at 53 (by decide +kernel) rfl, good_at 926 (by decide +kernel) rfl, ⟨by decide +kernel, by decide +kernel, by decide +kernel⟩, TX5, 27, rfl⟩
theorem cvL_102 : CV RL 102 yX4_clashes cX4_clashes 5 (some .int) 0 4 := ⟨good_at 450 (by decide +kernel) rfl, good_at 451 (by decide +kernel) rfl, good_at 452 (by decide +kernel) rfl, good_at 48 (by decide +kernel) rfl, good_at 453 (by decide +kernel) rfl, ⟨by decide +kernel, by decide +kernel, by decide +kernel⟩, TX4, 9, rfl⟩
theorem cvL_105 : CV RL 105 yX5_clashes cX5_clashes 5 (some .int) 0 5 := ⟨good_at 935 (by decide +kernel) rfl, good_at 936 (by decide +kernel) rfl, good_at 937 (by decide +kernel) rfl, good_at 53 (by decide +kernel) rfl, good_at 938 (by decide +kernel) rfl, ⟨by decide +kernel, by decide +kernel, by decide +kernel⟩, TX5, 27, rfl⟩
theorem cvL_106 : CV RL 106 yX4_least cX4_least 6 (some .int) 0 4 := ⟨good_at 462 (by decide +kernel) rfl, good_at 463 (by decide +kernel) rfl, good_at 464 (by decide +kernel) rfl, good_at 48 (by decide +kernel) rfl, good_at 465 (by decide +kernel) rfl, ⟨by decide +kernel, by decide +kernel, by decide +kernel⟩, TX4, 9, rfl⟩
theorem cvL_109 : CV RL 109 yX5_least cX5_least 4 (some .int) 0 5 := ⟨good_at 943 (by decide +kernel) rfl, good_at 944 (by decide +kernel) rfl, good_at 945 (by decide +kernel) rfl, good_at 53 (by decide +kernel) rfl, good_at 946 (by decide +kernel) rfl, ⟨by decide +kernel, by decide +kernel, by decide +kernel⟩, TX5, 27, rfl⟩
theorem cvL_110 : CV RL 110 yX4_best cX4_best 6 (some .int) 1 4 := ⟨good_at 470 (by decide +kernel) rfl, good_at 471 (by decide +kernel) rfl, good_at 472 (by decide +kernel) rfl, good_at 48 (by decide +kernel) rfl, good_at 473 (by decide +kernel) rfl, ⟨by decide +kernel, by decide +kernel, by decide +kernel⟩, TX4, 9, rfl⟩
theorem cvL_113 : CV RL 113 yX5_best cX5_best 7 (some .int) 1 5 := ⟨good_at 951 (by decide +kernel) rfl, good_at 952 (by decide +kernel) rfl, good_at 953 (by decide +kernel) rfl, good_at 53 (by decide +kernel) rfl, good_at 954 (by decide +kernel) rfl, ⟨by decide +kernel, by decide +kernel, by decide +kernel⟩, TX5, 27, rfl⟩
theorem cvL_114 : CV RL 114 yX4_walk cX4_walk 5 (some .int) 1 4 := ⟨good_at 495 (by decide +kernel) rfl, good_at 496 (by decide +kernel) rfl, good_at 497 (by decide +kernel) rfl, good_at 48 (by decide +kernel) rfl, good_at 498 (by decide +kernel) rfl, ⟨by decide +kernel, by decide +kernel, by decide +kernel⟩, TX4, 9, rfl⟩
theorem cvL_117 : CV RL 117 yX5_walk cX5_walk 3 (some .int) 1 5 := ⟨good_at 960 (by decide +kernel) rfl, good_at 961 (by decide +kernel) rfl, good_at 962 (by decide +kernel) rfl, good_at 53 (by decide +kernel) rfl, good_at 963 (by decide +kernel) rfl, ⟨by decide +kernel, by decide +kernel, by decide +kernel⟩, TX5, 27, rfl⟩
theorem cvL_118 : CV RL 118 yX4_within cX4_within 8 (some .int) 1 4 := ⟨good_at 524 (by decide +kernel) rfl, good_at 525 (by decide +kernel) rfl, good_at 526 (by decide +kernel) rfl, good_at 48 (by decide +kernel) rfl, good_at 527 (by decide +kernel) rfl, ⟨by decide +kernel, by decide +kernel, by decide +kernel⟩, TX4, 9, rfl⟩
theorem cvL_121 : CV RL 121 yX5_within cX5_within 7 (some .int) 1 5 := ⟨good_at 971 (by decide +kernel) rfl, good_at 972 (by decide +kernel) rfl, good_at 973 (by decide +kernel) rfl, good_at 53 (by decide +kernel) rfl, good_at 974 (by decide +kernel) rfl, ⟨by decide +kernel, by decide +kernel, by decide +kernel⟩, TX5, 27, rfl⟩
theorem cvL_122 : CV RL 122 yX4_whose cX4_whose 5 (some .int) 1 4 := ⟨good_at 532 (by decide +kernel) rfl, good_at 533 (by decide +kernel) rfl, good_at 534 (by decide +kernel) rfl, good_at 48 (by decide +kernel) rfl, good_at 535 (by decide +kernel) rfl, ⟨by decide +kernel, by decide +kernel, by decide +kernel⟩, TX4, 9, rfl⟩
theorem cvL_125 : CV RL 125 yX5_whose cX5_whose 9 (some .int) 1 5 := ⟨good_at 976 (by decide +kernel) rfl, good_at 977 (by decide +kernel) rfl, good_at 978 (by decide +kernel) rfl, good_at 53 (by decide +kernel) rfl, good_at 979 (by decide +kernel) rfl, ⟨by decide +kernel, by decide +kernel, by decide +kernel⟩, TX5, 27, rfl⟩
theorem cvL_126 : CV RL 126 yX4_kinds cX4_kinds 4 (some .int) 2 4 := ⟨good_at 544 (by decide +kernel) rfl, good_at 545 (by decide +kernel) rfl, good_at 546 (by decide +kernel) rfl, good_at 48 (by decide +kernel) rfl, good_at 547 (by decide +kernel) rfl, ⟨by decide +kernel, by decide +kernel, by decide +kernel⟩, TX4, 9, rfl⟩
theorem cvL_129 : CV RL 129 yX5_kinds cX5_kinds 4 (some .int) 2 5 := ⟨good_at 980 (by decide +kernel) rfl, good_at 981 (by decide +kernel) rfl, good_at 982 (by decide +kernel) rfl, good_at 53 (by decide +kernel) rfl, good_at 983 (by decide +kernel) rfl, ⟨by decide +kernel, by decide +kernel, by decide +kernel⟩, TX5, 27, rfl⟩
theorem cvL_130 : CV RL 130 yX4_test cX4_test 9 (some .int) 2 4 := ⟨good_at 559 (by decide +kernel) rfl, good_at 560 (by decide +kernel) rfl, good_at 561 (by decide +kernel) rfl, good_at 48 (by decide +kernel) rfl, good_at 562 (by decide +kernel) rfl, ⟨by decide +kernel, by decide +kernel, by decide +kernel⟩, TX4, 9, rfl⟩
theorem cvL_133 : CV RL 133 yX5_test cX5_test 12 (some .int) 2 5 := ⟨good_at 994 (by decide +kernel) rfl, good_at 995 (by decide +kernel) rfl, good_at 996 (by decide +kernel) rfl, good_at 53 (by decide +kernel) rfl, good_at 997 (by decide +kernel) rfl, ⟨by decide +kernel, by decide +kernel, by decide +kernel⟩, TX5, 27, rfl⟩
theorem cvL_134 : CV RL 134 yX4_lucks cX4_lucks 6 (some .int) 2 4 := ⟨good_at 567 (by decide +kernel) rfl, good_at 568 (by decide +kernel) rfl, good_at 569 (by decide +kernel) rfl, good_at 48 (by decide +kernel) rfl, good_at 570 (by decide +kernel) rfl, ⟨by decide +kernel, by decide +kernel, by decide +kernel⟩, TX4, 9, rfl⟩
theorem cvL_137 : CV RL 137 yX5_lucks cX5_lucks 5 (some .int) 2 5 := ⟨good_at 998 (by decide +kernel) rfl, good_at 999 (by decide +kernel) rfl, good_at 1000 (by decide +kernel) rfl, good_at 53 (by decide +kernel) rfl, good_at 1001 (by decide +kernel) rfl, ⟨by decide +kernel, by decide +kernel, by decide +kernel⟩, TX5, 27, rfl⟩
theorem cvL_138 : CV RL 138 yX4_duel cX4_duel 2 (some .int) 1 4 := ⟨good_at 571 (by decide +kernel) rfl, good_at 572 (by decide +kernel) rfl, good_at 573 (by decide +kernel) rfl, good_at 48 (by decide +kernel) rfl, good_at 574 (by decide +kernel) rfl, ⟨by decide +kernel, by decide +kernel, by decide +kernel⟩, TX4, 9, rfl⟩
theorem cvL_141 : CV RL 141 yX5_duel cX5_duel 9 (some .int) 1 5 := ⟨good_at 1002 (by decide +kernel) rfl, good_at 1003 (by decide +kernel) rfl, good_at 1004 (by decide +kernel) rfl, good_at 53 (by decide +kernel) rfl, good_at 1005 (by decide +kernel) rfl, ⟨by decide +kernel, by decide +kernel, by decide +kernel⟩, TX5, 27, rfl⟩
theorem cvL_142 : CV RL 142 yX4_odds cX4_odds 7 (some .int) 2 4 := ⟨good_at 579 (by decide +kernel) rfl, good_at 580 (by decide +kernel) rfl, good_at 581 (by decide +kernel) rfl, good_at 48 (by decide +kernel) rfl, good_at 582 (by decide +kernel) rfl, ⟨by decide +kernel, by decide +kernel, by decide +kernel⟩, TX4, 9, rfl⟩
theorem cvL_145 : CV RL 145 yX5_odds cX5_odds 3 (some .int) 2 5 := ⟨good_at 1012 (by decide +kernel) rfl, good_at 1013 (by decide +kernel) rfl, good_at 1014 (by decide +kernel) rfl, good_at 53 (by decide +kernel) rfl, good_at 1015 (by decide +kernel) rfl, ⟨by decide +kernel, by decide +kernel, by decide +kernel⟩, TX5, 27, rfl⟩
theorem cvL_146 : CV RL 146 yX4_mid cX4_mid 6 (some .int) 1 4 := ⟨good_at 594 (by decide +kernel) rfl, good_at 595 (by decide +kernel) rfl, good_at 596 (by decide +kernel) rfl, good_at 48 (by decide +kernel) rfl, good_at 597 (by decide +kernel) rfl, ⟨by decide +kernel, by decide +kernel, by decide +kernel⟩, TX4, 9, rfl⟩
theorem cvL_149 : CV RL 149 yX5_mid cX5_mid 2 (some .int) 1 5 := ⟨good_at 1034 (by decide +kernel) rfl, good_at 1035 (by decide +kernel) rfl, good_at 1036 (by decide +kernel) rfl, good_at 53 (by decide +kernel) rfl, good_at 1037 (by decide +kernel) rfl, ⟨by decide +kernel, by decide +kernel, by decide +kernel⟩, TX5, 27, rfl⟩
theorem cvL_150 : CV RL 150 yX4_lots cX4_lots 6 (some .int) 2 4 := ⟨good_at 598 (by decide +kernel) rfl, good_at 599 (by decide +kernel) rfl, good_at 600 (by decide +kernel) rfl, good_at 48 (by decide +kernel) rfl, good_at 601 (by decide +kernel) rfl, ⟨by decide +kernel, by decide +kernel, by decide +kernel⟩, TX4, 9, rfl⟩
theorem cvL_153 : CV RL 153 yX5_lots cX5_lots 7 (some .int) 2 5 := ⟨good_at 1038 (by decide +kernel) rfl, good_at 1039 (by decide +kernel) rfl, good_at 1040 (by decide +kernel) rfl, good_at 53 (by decide +kernel) rfl, good_at 1041 (by decide +kernel) rfl, ⟨by decide +kernel, by decide +kernel, by decide +kernel⟩, TX5, 27, rfl⟩
theorem cvL_154 : CV RL 154 yX4_asked cX4_asked 1 (some .int) 0 4 := ⟨good_at 611 (by decide +kernel) rfl, good_at 612 (by decide +kernel) rfl, good_at 613 (by decide +kernel) rfl, good_at 48 (by decide +kernel) rfl, good_at 614 (by decide +kernel) rfl, ⟨by decide +kernel, by decide +kernel, by decide +kernel⟩, TX4, 9, rfl⟩
theorem cvL_157 : CV RL 157 yX5_asked cX5_asked 1 (some .int) 0 5 := ⟨good_at 1049 (by decide +kernel) rfl, good_at 1050 (by decide +kernel) rfl, good_at 1051 (by decide +kernel) rfl, good_at 53 (by decide +kernel) rfl, good_at 1052 (by decide +kernel) rfl, ⟨by decide +kernel, by decide +kernel, by decide +kernel⟩, TX5, 27, rfl⟩
theorem cvL_158 : CV RL 158 yX4_upper cX4_upper 1 (some .long) 0 4 := ⟨good_at 615 (by decide +kernel) rfl, good_at 616 (by decide +kernel) rfl, good_at 617 (by decide +kernel) rfl, good_at 48 (by decide +kernel) rfl, good_at 618 (by decide +kernel) rfl, ⟨by decide +kernel, by decide +kernel, by decide +kernel⟩, TX4, 9, rfl⟩
theorem cvL_162 : CV RL 162 yX5_upper cX5_upper 1 (some .long) 0 5 := ⟨good_at 1053 (by decide +kernel) rfl, good_at 1054 (by decide +kernel) rfl, good_at 1055 (by decide +kernel) rfl, good_at 53 (by decide +kernel) rfl, good_at 1056 (by decide +kernel) rfl, ⟨by decide +kernel, by decide +kernel, by decide +kernel⟩, TX5, 27, rfl⟩
theorem cvL_163 : CV RL 163 yX4_lower cX4_lower 1 (some .long) 0 4 := ⟨good_at 619 (by decide +kernel) rfl, good_at 620 (by decide +kernel) rfl, good_at 621 (by decide +kernel) rfl, good_at 48 (by decide +kernel) rfl, good_at 622 (by decide +kernel) rfl, ⟨by decide +kernel, by decide +kernel, by decide +kernel⟩, TX4, 9, rfl⟩
theorem cvL_166 : CV RL 166 yX5_lower cX5_lower 1 (some .long) 0 5 := ⟨good_at 1057 (by decide +kernel) rfl, good_at 1058 (by decide +kernel) rfl, good_at 1059 (by decide +kernel) rfl, good_at 53 (by decide +kernel) rfl, good_at 1060 (by decide +kernel) rfl, ⟨by decide +kernel, by decide +kernel, by decide +kernel⟩, TX5, 27, rfl⟩
theorem cvL_167 : CV RL 167 yX4_count cX4_count 2 (some .int) 1 4 := ⟨good_at 623 (by decide +kernel) rfl, good_at 624 (by decide +kernel) rfl, good_at 625 (by decide +kernel) rfl, good_at 48 (by decide +kernel) rfl, good_at 626 (by decide +kernel) rfl, ⟨by decide +kernel, by decide +kernel, by decide +kernel⟩, TX4, 9, rfl⟩
theorem cvL_170 : CV RL 170 yX5_count cX5_count 2 (some .int) 1 5 := ⟨good_at 1061 (by decide +kernel) rfl, good_at 1062 (by decide +kernel) rfl, good_at 1063 (by decide +kernel) rfl, good_at 53 (by decide +kernel) rfl, good_at 1064 (by decide +kernel) rfl, ⟨by decide +kernel, by decide +kernel, by decide +kernel⟩, TX5, 27, rfl⟩
theorem cvL_171 : CV RL 171 yX4_finding cX4_finding 1 (some .int) 0 4 := ⟨good_at 643 (by decide +kernel) rfl, good_at 644 (by decide +kernel) rfl, good_at 645 (by decide +kernel) rfl, good_at 48 (by decide +kernel) rfl, good_at 646 (by decide +kernel) rfl, ⟨by decide +kernel, by decide +kernel, by decide +kernel⟩, TX4, 9, rfl⟩
theorem cvL_174 : CV RL 174 yX5_finding cX5_finding 1 (some .int) 0 5 := ⟨good_at 1072 (by decide +kernel) rfl, good_at 1073 (by decide +kernel) rfl, good_at 1074 (by decide +kernel) rfl, good_at 53 (by decide +kernel) rfl, good_at 1075 (by decide +kernel) rfl, ⟨by decide +kernel, by decide +kernel, by decide +kernel⟩, TX5, 27, rfl⟩
theorem cvL_175 : CV RL 175 yX4_findings cX4_findings 2 (some .int) 1 4 := ⟨good_at 647 (by decide +kernel) rfl, good_at 648 (by decide +kernel) rfl, good_at 649 (by decide +kernel) rfl, good_at 48 (by decide +kernel) rfl, good_at 650 (by decide +kernel) rfl, ⟨by decide +kernel, by decide +kernel, by decide +kernel⟩, TX4, 9, rfl⟩
theorem cvL_178 : CV RL 178 yX5_findings cX5_findings 2 (some .int) 1 5 := ⟨good_at 1076 (by decide +kernel) rfl, good_at 1077 (by decide +kernel) rfl, good_at 1078 (by decide +kernel) rfl, good_at 53 (by decide +kernel) rfl, good_at 1079 (by decide +kernel) rfl, ⟨by decide +kernel, by decide +kernel, by decide +kernel⟩, TX5, 27, rfl⟩
theorem cvL_179 : CV RL 179 yX4_digest cX4_digest 5 (some .long) 0 4 := ⟨good_at 651 (by decide +kernel) rfl, good_at 652 (by decide +kernel) rfl, good_at 653 (by decide +kernel) rfl, good_at 48 (by decide +kernel) rfl, good_at 654 (by decide +kernel) rfl, ⟨by decide +kernel, by decide +kernel, by decide +kernel⟩, TX4, 9, rfl⟩
theorem cvL_182 : CV RL 182 yX5_digest cX5_digest 5 (some .long) 0 5 := ⟨good_at 1080 (by decide +kernel) rfl, good_at 1081 (by decide +kernel) rfl, good_at 1082 (by decide +kernel) rfl, good_at 53 (by decide +kernel) rfl, good_at 1083 (by decide +kernel) rfl, ⟨by decide +kernel, by decide +kernel, by decide +kernel⟩, TX5, 27, rfl⟩
def Sim_row (fu : Nat) (Rel : Mem → Mem → Prop) : Prop := ∀ (MC MM : Mem) (a0 a1 : Int32), Rel MC MM → ∃ (r : Int32) (MC' : Mem) (MM' : Mem), f4_row fu a0 a1 MC = some (MC', r) ∧ f5_row fu a0 a1 MM = some (MM', r) ∧ Rel MC' MM'
def Sim_lay (fu : Nat) (Rel : Mem → Mem → Prop) : Prop := ∀ (MC MM : Mem) (a0 a1 a2 : Int32), Rel MC MM → ∃ (r : Int32) (MC' : Mem) (MM' : Mem), f4_lay a0 a1 a2 MC = some (MC', r) ∧ f5_lay a0 a1 a2 MM = some (MM', r) ∧ Rel MC' MM'
def Sim_at (fu : Nat) (Rel : Mem → Mem → Prop) : Prop := ∀ (MC MM : Mem) (a0 a1 : Int32), Rel MC MM → ∃ (r : Int32) (MC' : Mem) (MM' : Mem), f4_at a0 a1 MC = some (MC', r) ∧ f5_at a0 a1 MM = some (MM', r) ∧ Rel MC' MM'
def Sim_tear (fu : Nat) (Rel : Mem → Mem → Prop) : Prop := ∀ (MC MM : Mem) (a0 : Int32), Rel MC MM → ∃ (r : Int32) (MC' : Mem) (MM' : Mem), f4_tear a0 MC = some (MC', r) ∧ f5_tear a0 MM = some (MM', r) ∧ Rel MC' MM'
def Sim_copy (fu : Nat) (Rel : Mem → Mem → Prop) : Prop := ∀ (MC MM : Mem) (a0 a1 a2 a3 a4 : Int32), Rel MC MM → ∃ (r : Int32) (MC' : Mem) (MM' : Mem), f4_copy a0 a1 a2 a3 a4 MC = some (MC', r) ∧ f5_copy fu a0 a1 a2 a3 a4 MM = some (MM', r) ∧ Rel MC' MM'
def Sim_mean (fu : Nat) (Rel : Mem → Mem → Prop) : Prop := ∀ (MC MM : Mem) (a0 : Int32), Rel MC MM → ∃ (r : Int32) (MC' : Mem) (MM' : Mem), f4_mean fu a0 MC = some (MC', r) ∧ f5_mean fu a0 MM = some (MM', r) ∧ Rel MC' MM'
def Sim_text (fu : Nat) (Rel : Mem → Mem → Prop) : Prop := ∀ (MC MM : Mem) (a0 a1 : Int32), Rel MC MM → ∃ (r : Int32) (MC' : Mem) (MM' : Mem), f4_text fu a0 a1 MC = some (MC', r) ∧ f5_text fu a0 a1 MM = some (MM', r) ∧ Rel MC' MM'
def Sim_put (fu : Nat) (Rel : Mem → Mem → Prop) : Prop := ∀ (MC MM : Mem) (a0 a1 a2 : Int32), Rel MC MM → ∃ (r : Int32) (MC' : Mem) (MM' : Mem), f4_put a0 a1 a2 MC = some (MC', r) ∧ f5_put a0 a1 a2 MM = some (MM', r) ∧ Rel MC' MM'
def Sim_fault (fu : Nat) (Rel : Mem → Mem → Prop) : Prop := ∀ (MC MM : Mem) (a0 : Int32), Rel MC MM → ∃ (r : Int32) (MC' : Mem) (MM' : Mem), f4_fault fu a0 MC = some (MC', r) ∧ f5_fault fu a0 MM = some (MM', r) ∧ Rel MC' MM'
def Sim_street (fu : Nat) (Rel : Mem → Mem → Prop) : Prop := ∀ (MC MM : Mem) (a0 : Int32), Rel MC MM → ∃ (r : Int32) (MC' : Mem) (MM' : Mem), f4_street fu a0 MC = some (MC', r) ∧ f5_street fu a0 MM = some (MM', r) ∧ Rel MC' MM'
def Sim_pin (fu : Nat) (Rel : Mem → Mem → Prop) : Prop := ∀ (MC MM : Mem) (a0 a1 : Int32), Rel MC MM → ∃ (r : Int32) (MC' : Mem) (MM' : Mem), f4_pin a0 a1 MC = some (MC', r) ∧ f5_pin a0 a1 MM = some (MM', r) ∧ Rel MC' MM'
def Sim_mark (fu : Nat) (Rel : Mem → Mem → Prop) : Prop := ∀ (MC MM : Mem) (a0 a1 : Int32), Rel MC MM → ∃ (r : Int32) (MC' : Mem) (MM' : Mem), f4_mark a0 a1 MC = some (MC', r) ∧ f5_mark a0 a1 MM = some (MM', r) ∧ Rel MC' MM'
def Sim_worth (fu : Nat) (Rel : Mem → Mem → Prop) : Prop := ∀ (MC MM : Mem) (a0 a1 : Int32), Rel MC MM → ∃ (r : Int32) (MC' : Mem) (MM' : Mem), f4_worth a0 a1 MC = some (MC', r) ∧ f5_worth a0 a1 MM = some (MM', r) ∧ Rel MC' MM'
def Sim_step (fu : Nat) (Rel : Mem → Mem → Prop) : Prop := ∀ (MC MM : Mem) (a0 : Int32), Rel MC MM → ∃ (r : Int32) (MC' : Mem) (MM' : Mem), f4_step fu a0 MC = some (MC', r) ∧ f5_step fu a0 MM = some (MM', r) ∧ Rel MC' MM'
def Sim_pick (fu : Nat) (Rel : Mem → Mem → Prop) : Prop := ∀ (MC MM : Mem) (a0 : Int32), Rel MC MM → ∃ (r : Int32) (MC' : Mem) (MM' : Mem), f4_pick fu a0 MC = some (MC', r) ∧ f5_pick fu a0 MM = some (MM', r) ∧ Rel MC' MM'
def Sim_drop (fu : Nat) (Rel : Mem → Mem → Prop) : Prop := ∀ (MC MM : Mem) (a0 : Int32), Rel MC MM → ∃ (r : Int32) (MC' : Mem) (MM' : Mem), f4_drop fu a0 MC = some (MC', r) ∧ f5_drop fu a0 MM = some (MM', r) ∧ Rel MC' MM'
def Sim_sweep (fu : Nat) (Rel : Mem → Mem → Prop) : Prop := ∀ (MC MM : Mem) , Rel MC MM → ∃ (r : Int32) (MC' : Mem) (MM' : Mem), f4_sweep fu MC = some (MC', r) ∧ f5_sweep fu MM = some (MM', r) ∧ Rel MC' MM'
def Sim_undo (fu : Nat) (Rel : Mem → Mem → Prop) : Prop := ∀ (MC MM : Mem) (a0 : Int32), Rel MC MM → ∃ (r : Int32) (MC' : Mem) (MM' : Mem), f4_undo fu a0 MC = some (MC', r) ∧ f5_undo fu a0 MM = some (MM', r) ∧ Rel MC' MM'
def Sim_keep (fu : Nat) (Rel : Mem → Mem → Prop) : Prop := ∀ (MC MM : Mem) (a0 : Int32), Rel MC MM → ∃ (r : Int32) (MC' : Mem) (MM' : Mem), f4_keep fu a0 MC = some (MC', r) ∧ f5_keep fu a0 MM = some (MM', r) ∧ Rel MC' MM'
def Sim_on (fu : Nat) (Rel : Mem → Mem → Prop) : Prop := ∀ (MC MM : Mem) (a0 : Int32), Rel MC MM → ∃ (r : Int32) (MC' : Mem) (MM' : Mem), f4_on fu a0 MC = some (MC', r) ∧ f5_on fu a0 MM = some (MM', r) ∧ Rel MC' MM'
def Sim_busy (fu : Nat) (Rel : Mem → Mem → Prop) : Prop := ∀ (MC MM : Mem) , Rel MC MM → ∃ (r : Int32) (MC' : Mem) (MM' : Mem), f4_busy fu MC = some (MC', r) ∧ f5_busy fu MM = some (MM', r) ∧ Rel MC' MM'
def Sim_clashes (fu : Nat) (Rel : Mem → Mem → Prop) : Prop := ∀ (MC MM : Mem) , Rel MC MM → ∃ (r : Int32) (MC' : Mem) (MM' : Mem), f4_clashes fu MC = some (MC', r) ∧ f5_clashes fu MM = some (MM', r) ∧ Rel MC' MM'
def Sim_least (fu : Nat) (Rel : Mem → Mem → Prop) : Prop := ∀ (MC MM : Mem) , Rel MC MM → ∃ (r : Int32) (MC' : Mem) (MM' : Mem), f4_least fu MC = some (MC', r) ∧ f5_least fu MM = some (MM', r) ∧ Rel MC' MM'
def Sim_best (fu : Nat) (Rel : Mem → Mem → Prop) : Prop := ∀ (MC MM : Mem) (a0 : Int32), Rel MC MM → ∃ (r : Int32) (MC' : Mem) (MM' : Mem), f4_best fu a0 MC = some (MC', r) ∧ f5_best fu a0 MM = some (MM', r) ∧ Rel MC' MM'
def Sim_walk (fu : Nat) (Rel : Mem → Mem → Prop) : Prop := ∀ (MC MM : Mem) (a0 : Int32), Rel MC MM → ∃ (r : Int32) (MC' : Mem) (MM' : Mem), f4_walk fu a0 MC = some (MC', r) ∧ f5_walk fu a0 MM = some (MM', r) ∧ Rel MC' MM'
def Sim_within (fu : Nat) (Rel : Mem → Mem → Prop) : Prop := ∀ (MC MM : Mem) (a0 : Int32), Rel MC MM → ∃ (r : Int32) (MC' : Mem) (MM' : Mem), f4_within fu a0 MC = some (MC', r) ∧ f5_within fu a0 MM = some (MM', r) ∧ Rel MC' MM'
def Sim_whose (fu : Nat) (Rel : Mem → Mem → Prop) : Prop := ∀ (MC MM : Mem) (a0 : Int32), Rel MC MM → ∃ (r : Int32) (MC' : Mem) (MM' : Mem), f4_whose fu a0 MC = some (MC', r) ∧ f5_whose fu a0 MM = some (MM', r) ∧ Rel MC' MM'
def Sim_kinds (fu : Nat) (Rel : Mem → Mem → Prop) : Prop := ∀ (MC MM : Mem) (a0 a1 : Int32), Rel MC MM → ∃ (r : Int32) (MC' : Mem) (MM' : Mem), f4_kinds fu a0 a1 MC = some (MC', r) ∧ f5_kinds fu a0 a1 MM = some (MM', r) ∧ Rel MC' MM'
def Sim_test (fu : Nat) (Rel : Mem → Mem → Prop) : Prop := ∀ (MC MM : Mem) (a0 a1 : Int32), Rel MC MM → ∃ (r : Int32) (MC' : Mem) (MM' : Mem), f4_test fu a0 a1 MC = some (MC', r) ∧ f5_test fu a0 a1 MM = some (MM', r) ∧ Rel MC' MM'
def Sim_lucks (fu : Nat) (Rel : Mem → Mem → Prop) : Prop := ∀ (MC MM : Mem) (a0 a1 : Int32), Rel MC MM → ∃ (r : Int32), f4_lucks MC fu a0 a1 = some r ∧ f5_lucks MM fu a0 a1 = some r ∧ Rel MC MM
def Sim_duel (fu : Nat) (Rel : Mem → Mem → Prop) : Prop := ∀ (MC MM : Mem) (a0 : Int32), Rel MC MM → ∃ (r : Int32) (MM' : Mem), f4_duel MC fu a0 = some r ∧ f5_duel fu a0 MM = some (MM', r) ∧ Rel MC MM'
def Sim_odds (fu : Nat) (Rel : Mem → Mem → Prop) : Prop := ∀ (MC MM : Mem) (a0 a1 : Int32), Rel MC MM → ∃ (r : Int32) (MC' : Mem) (MM' : Mem), f4_odds fu a0 a1 MC = some (MC', r) ∧ f5_odds fu a0 a1 MM = some (MM', r) ∧ Rel MC' MM'
def Sim_mid (fu : Nat) (Rel : Mem → Mem → Prop) : Prop := ∀ (MC MM : Mem) (a0 : Int32), Rel MC MM → ∃ (r : Int32) (MC' : Mem) (MM' : Mem), f4_mid fu a0 MC = some (MC', r) ∧ f5_mid fu a0 MM = some (MM', r) ∧ Rel MC' MM'
def Sim_lots (fu : Nat) (Rel : Mem → Mem → Prop) : Prop := ∀ (MC MM : Mem) (a0 a1 : Int32), Rel MC MM → ∃ (r : Int32) (MC' : Mem) (MM' : Mem), f4_lots fu a0 a1 MC = some (MC', r) ∧ f5_lots fu a0 a1 MM = some (MM', r) ∧ Rel MC' MM'
def Sim_asked (fu : Nat) (Rel : Mem → Mem → Prop) : Prop := ∀ (MC MM : Mem) , Rel MC MM → ∃ (r : Int32), f4_asked MC = some r ∧ f5_asked MM = some r ∧ Rel MC MM
def Sim_upper (fu : Nat) (Rel : Mem → Mem → Prop) : Prop := ∀ (MC MM : Mem) , Rel MC MM → ∃ (r : Int64), f4_upper MC = some r ∧ f5_upper MM = some r ∧ Rel MC MM
def Sim_lower (fu : Nat) (Rel : Mem → Mem → Prop) : Prop := ∀ (MC MM : Mem) , Rel MC MM → ∃ (r : Int64), f4_lower MC = some r ∧ f5_lower MM = some r ∧ Rel MC MM
def Sim_count (fu : Nat) (Rel : Mem → Mem → Prop) : Prop := ∀ (MC MM : Mem) (a0 : Int32), Rel MC MM → ∃ (r : Int32), f4_count MC fu a0 = some r ∧ f5_count MM fu a0 = some r ∧ Rel MC MM
def Sim_finding (fu : Nat) (Rel : Mem → Mem → Prop) : Prop := ∀ (MC MM : Mem) , Rel MC MM → ∃ (r : Int32), f4_finding MC = some r ∧ f5_finding MM = some r ∧ Rel MC MM
def Sim_findings (fu : Nat) (Rel : Mem → Mem → Prop) : Prop := ∀ (MC MM : Mem) (a0 : Int32), Rel MC MM → ∃ (r : Int32), f4_findings MC a0 = some r ∧ f5_findings MM a0 = some r ∧ Rel MC MM
def Sim_digest (fu : Nat) (Rel : Mem → Mem → Prop) : Prop := ∀ (MC MM : Mem) , Rel MC MM → ∃ (r : Int64), f4_digest MC fu = some r ∧ f5_digest MM fu = some r ∧ Rel MC MM
def Sims (fu : Nat) (Rel : Mem → Mem → Prop) : Prop := Sim_row fu Rel ∧ Sim_lay fu Rel ∧ Sim_at fu Rel ∧ Sim_tear fu Rel ∧ Sim_copy fu Rel ∧ Sim_mean fu Rel ∧ Sim_text fu Rel ∧ Sim_put fu Rel ∧ Sim_fault fu Rel ∧ Sim_street fu Rel ∧ Sim_pin fu Rel ∧ Sim_mark fu Rel ∧ Sim_worth fu Rel ∧ Sim_step fu Rel ∧ Sim_pick fu Rel ∧ Sim_drop fu Rel ∧ Sim_sweep fu Rel ∧ Sim_undo fu Rel ∧ Sim_keep fu Rel ∧ Sim_on fu Rel ∧ Sim_busy fu Rel ∧ Sim_clashes fu Rel ∧ Sim_least fu Rel ∧ Sim_best fu Rel ∧ Sim_walk fu Rel ∧ Sim_within fu Rel ∧ Sim_whose fu Rel ∧ Sim_kinds fu Rel ∧ Sim_test fu Rel ∧ Sim_lucks fu Rel ∧ Sim_duel fu Rel ∧ Sim_odds fu Rel ∧ Sim_mid fu Rel ∧ Sim_lots fu Rel ∧ Sim_asked fu Rel ∧ Sim_upper fu Rel ∧ Sim_lower fu Rel ∧ Sim_count fu Rel ∧ Sim_finding fu Rel ∧ Sim_findings fu Rel ∧ Sim_digest fu Rel
theorem law_cmp {L i : Nat} (hL : L ≤ 3072) (hi : i ≤ 3072) (h : L < i) : Int32.ofNat L - 6 < nI i := by
  have e : Int32.ofNat L = nI L := rfl
  rw [e, show (6 : Int32) = nI 6 from rfl, Int32.lt_iff_toInt_lt, pk_sub_toInt (by omega) (by omega), nI_toInt (by omega)]
  omega
theorem law_cmp2 {L i : Nat} (hL : L ≤ 3072) (hi : i ≤ 3072) (h : ¬ Int32.ofNat L - 6 < nI i) : i + 6 ≤ L := by
  have e : Int32.ofNat L = nI L := rfl
  rw [e, show (6 : Int32) = nI 6 from rfl, Int32.lt_iff_toInt_lt, pk_sub_toInt (by omega) (by omega), nI_toInt (by omega)] at h
  omega
theorem law_in {L i : Nat} (hL : L ≤ 3072) (h : i + 6 ≤ L) (k : Nat) (hk : k < 6) : vp_in (nI i + nI k) L := by
  rw [nI_add]
  exact vp_in_nI (by omega) (by omega)
theorem law_6 (i : Nat) : nI i + Int32.ofInt 6 = nI (i + 6) := by
  rw [show Int32.ofInt 6 = nI 6 from by decide, nI_add]
set_option maxHeartbeats 4000000 in
set_option maxRecDepth 10000 in
theorem law_c0 {z : ZZ} {aC aM : Nat → Nat} {p : Program} {e : Env} {s : State} {m : MethodId} {b L : Nat} {xs : Nat → Int32} {below : List Frame} {meth : Method} {c : Code} {fu : Nat} {Rel : Mem → Mem → Prop} (hs : Sims fu Rel) (h : LX z aC aM p s m b L xs meth c) {i : Nat} {MC MM : Mem} (hR : Rel MC MM) (hin1 : vp_in (nI i + 1) L) (hin2 : vp_in (nI i + 2) L) (hin3 : vp_in (nI i + 3) L) (hin4 : vp_in (nI i + 4) L) (hin5 : vp_in (nI i + 5) L)
    (kk : ∀ MC' MM', Rel MC' MM' → WL z aC aM p e s m b below meth c MC' MM' 1258 [(0, .ref b), (1, .ref (aC 28)), (2, .ref (aM 0)), (3, .int (nI i))] []) : WL z aC aM p e s m b below meth c MC MM 212 [(0, .ref b), (1, .ref (aC 28)), (2, .ref (aM 0)), (3, .int (nI i))] [] := by
  obtain ⟨r, MC', MM', eC, eM, hR'⟩ := (hs.1) MC MM (xs (nI i + 1).toNatClampNeg) (xs (nI i + 2).toNatClampNeg) hR
  refine L_aload_n (pc := 212) h 1 rfl rfl dL_law_212 ?_
  refine L_aload_n (pc := 213) h 0 rfl rfl dL_law_213 ?_
  refine L_iload_n (pc := 214) h 3 rfl rfl dL_law_214 ?_
  refine L_iconst (pc := 215) (v := 1) h (by decide) dL_law_215 ?_
  refine L_iadd (pc := 216) h dL_law_216 ?_
  refine L_sld (pc := 217) h hin1 dL_law_217 ?_
  refine L_aload_n (pc := 218) h 0 rfl rfl dL_law_218 ?_
  refine L_iload_n (pc := 219) h 3 rfl rfl dL_law_219 ?_
  refine L_iconst (pc := 220) (v := 2) h (by decide) dL_law_220 ?_
  refine L_iadd (pc := 221) h dL_law_221 ?_
  refine L_sld (pc := 222) h hin2 dL_law_222 ?_
  refine L_callC (pc := 223) (st := []) h [.int (xs (nI i + 1).toNatClampNeg), .int (xs (nI i + 2).toNatClampNeg)] cvL_13 (c4_row (ad := aC) (z := z) eC) rfl rfl (Nat.le_of_ble_eq_true rfl) (Nat.le_of_ble_eq_true rfl) (Nat.le_of_ble_eq_true rfl) dL_law_223 (st1 := [.int r]) rfl ?_
  refine L_aload_n (pc := 226) h 2 rfl rfl dL_law_226 ?_
  refine L_aload_n (pc := 227) h 0 rfl rfl dL_law_227 ?_
  refine L_iload_n (pc := 228) h 3 rfl rfl dL_law_228 ?_
  refine L_iconst (pc := 229) (v := 1) h (by decide) dL_law_229 ?_
  refine L_iadd (pc := 230) h dL_law_230 ?_
  refine L_sld (pc := 231) h hin1 dL_law_231 ?_
  refine L_aload_n (pc := 232) h 0 rfl rfl dL_law_232 ?_
  refine L_iload_n (pc := 233) h 3 rfl rfl dL_law_233 ?_
  refine L_iconst (pc := 234) (v := 2) h (by decide) dL_law_234 ?_
  refine L_iadd (pc := 235) h dL_law_235 ?_
  refine L_sld (pc := 236) h hin2 dL_law_236 ?_
  refine L_callM (pc := 237) (st := [.int r]) h [.int (xs (nI i + 1).toNatClampNeg), .int (xs (nI i + 2).toNatClampNeg)] cvL_17 (c5_row (ad := aM) (z := z) eM) rfl rfl (Nat.le_of_ble_eq_true rfl) (Nat.le_of_ble_eq_true rfl) (Nat.le_of_ble_eq_true rfl) dL_law_237 (st1 := [.int r, .int r]) rfl ?_
  refine L_icmp_eq (pc := 240) (tgt := 1258) h dL_law_240 (by decide) ?_
  exact kk MC' MM' hR'
set_option maxHeartbeats 4000000 in
set_option maxRecDepth 10000 in
theorem law_c1 {z : ZZ} {aC aM : Nat → Nat} {p : Program} {e : Env} {s : State} {m : MethodId} {b L : Nat} {xs : Nat → Int32} {below : List Frame} {meth : Method} {c : Code} {fu : Nat} {Rel : Mem → Mem → Prop} (hs : Sims fu Rel) (h : LX z aC aM p s m b L xs meth c) {i : Nat} {MC MM : Mem} (hR : Rel MC MM) (hin1 : vp_in (nI i + 1) L) (hin2 : vp_in (nI i + 2) L) (hin3 : vp_in (nI i + 3) L) (hin4 : vp_in (nI i + 4) L) (hin5 : vp_in (nI i + 5) L)
    (kk : ∀ MC' MM', Rel MC' MM' → WL z aC aM p e s m b below meth c MC' MM' 1258 [(0, .ref b), (1, .ref (aC 28)), (2, .ref (aM 0)), (3, .int (nI i))] []) : WL z aC aM p e s m b below meth c MC MM 245 [(0, .ref b), (1, .ref (aC 28)), (2, .ref (aM 0)), (3, .int (nI i))] [] := by
  obtain ⟨r, MC', MM', eC, eM, hR'⟩ := (hs.2.1) MC MM (xs (nI i + 1).toNatClampNeg) (xs (nI i + 2).toNatClampNeg) (xs (nI i + 3).toNatClampNeg) hR
  refine L_aload_n (pc := 245) h 1 rfl rfl dL_law_245 ?_
  refine L_aload_n (pc := 246) h 0 rfl rfl dL_law_246 ?_
  refine L_iload_n (pc := 247) h 3 rfl rfl dL_law_247 ?_
  refine L_iconst (pc := 248) (v := 1) h (by decide) dL_law_248 ?_
  refine L_iadd (pc := 249) h dL_law_249 ?_
  refine L_sld (pc := 250) h hin1 dL_law_250 ?_
  refine L_aload_n (pc := 251) h 0 rfl rfl dL_law_251 ?_
  refine L_iload_n (pc := 252) h 3 rfl rfl dL_law_252 ?_
  refine L_iconst (pc := 253) (v := 2) h (by decide) dL_law_253 ?_
  refine L_iadd (pc := 254) h dL_law_254 ?_
  refine L_sld (pc := 255) h hin2 dL_law_255 ?_
  refine L_aload_n (pc := 256) h 0 rfl rfl dL_law_256 ?_
  refine L_iload_n (pc := 257) h 3 rfl rfl dL_law_257 ?_
  refine L_iconst (pc := 258) (v := 3) h (by decide) dL_law_258 ?_
  refine L_iadd (pc := 259) h dL_law_259 ?_
  refine L_sld (pc := 260) h hin3 dL_law_260 ?_
  refine L_callC (pc := 261) (st := []) h [.int (xs (nI i + 1).toNatClampNeg), .int (xs (nI i + 2).toNatClampNeg), .int (xs (nI i + 3).toNatClampNeg)] cvL_18 (c4_lay (ad := aC) (z := z) eC) rfl rfl (Nat.le_of_ble_eq_true rfl) (Nat.le_of_ble_eq_true rfl) (Nat.le_of_ble_eq_true rfl) dL_law_261 (st1 := [.int r]) rfl ?_
  refine L_aload_n (pc := 264) h 2 rfl rfl dL_law_264 ?_
  refine L_aload_n (pc := 265) h 0 rfl rfl dL_law_265 ?_
  refine L_iload_n (pc := 266) h 3 rfl rfl dL_law_266 ?_
  refine L_iconst (pc := 267) (v := 1) h (by decide) dL_law_267 ?_
  refine L_iadd (pc := 268) h dL_law_268 ?_
  refine L_sld (pc := 269) h hin1 dL_law_269 ?_
  refine L_aload_n (pc := 270) h 0 rfl rfl dL_law_270 ?_
  refine L_iload_n (pc := 271) h 3 rfl rfl dL_law_271 ?_
  refine L_iconst (pc := 272) (v := 2) h (by decide) dL_law_272 ?_
  refine L_iadd (pc := 273) h dL_law_273 ?_
  refine L_sld (pc := 274) h hin2 dL_law_274 ?_
  refine L_aload_n (pc := 275) h 0 rfl rfl dL_law_275 ?_
  refine L_iload_n (pc := 276) h 3 rfl rfl dL_law_276 ?_
  refine L_iconst (pc := 277) (v := 3) h (by decide) dL_law_277 ?_
  refine L_iadd (pc := 278) h dL_law_278 ?_
  refine L_sld (pc := 279) h hin3 dL_law_279 ?_
  refine L_callM (pc := 280) (st := [.int r]) h [.int (xs (nI i + 1).toNatClampNeg), .int (xs (nI i + 2).toNatClampNeg), .int (xs (nI i + 3).toNatClampNeg)] cvL_22 (c5_lay (ad := aM) (z := z) eM) rfl rfl (Nat.le_of_ble_eq_true rfl) (Nat.le_of_ble_eq_true rfl) (Nat.le_of_ble_eq_true rfl) dL_law_280 (st1 := [.int r, .int r]) rfl ?_
  refine L_icmp_eq (pc := 283) (tgt := 1258) h dL_law_283 (by decide) ?_
  exact kk MC' MM' hR'
set_option maxHeartbeats 4000000 in
set_option maxRecDepth 10000 in
theorem law_c2 {z : ZZ} {aC aM : Nat → Nat} {p : Program} {e : Env} {s : State} {m : MethodId} {b L : Nat} {xs : Nat → Int32} {below : List Frame} {meth : Method} {c : Code} {fu : Nat} {Rel : Mem → Mem → Prop} (hs : Sims fu Rel) (h : LX z aC aM p s m b L xs meth c) {i : Nat} {MC MM : Mem} (hR : Rel MC MM) (hin1 : vp_in (nI i + 1) L) (hin2 : vp_in (nI i + 2) L) (hin3 : vp_in (nI i + 3) L) (hin4 : vp_in (nI i + 4) L) (hin5 : vp_in (nI i + 5) L)
    (kk : ∀ MC' MM', Rel MC' MM' → WL z aC aM p e s m b below meth c MC' MM' 1258 [(0, .ref b), (1, .ref (aC 28)), (2, .ref (aM 0)), (3, .int (nI i))] []) : WL z aC aM p e s m b below meth c MC MM 288 [(0, .ref b), (1, .ref (aC 28)), (2, .ref (aM 0)), (3, .int (nI i))] [] := by
  obtain ⟨r, MC', MM', eC, eM, hR'⟩ := (hs.2.2.1) MC MM (xs (nI i + 1).toNatClampNeg) (xs (nI i + 2).toNatClampNeg) hR
  refine L_aload_n (pc := 288) h 1 rfl rfl dL_law_288 ?_
  refine L_aload_n (pc := 289) h 0 rfl rfl dL_law_289 ?_
  refine L_iload_n (pc := 290) h 3 rfl rfl dL_law_290 ?_
  refine L_iconst (pc := 291) (v := 1) h (by decide) dL_law_291 ?_
  refine L_iadd (pc := 292) h dL_law_292 ?_
  refine L_sld (pc := 293) h hin1 dL_law_293 ?_
  refine L_aload_n (pc := 294) h 0 rfl rfl dL_law_294 ?_
  refine L_iload_n (pc := 295) h 3 rfl rfl dL_law_295 ?_
  refine L_iconst (pc := 296) (v := 2) h (by decide) dL_law_296 ?_
  refine L_iadd (pc := 297) h dL_law_297 ?_
  refine L_sld (pc := 298) h hin2 dL_law_298 ?_
  refine L_callC (pc := 299) (st := []) h [.int (xs (nI i + 1).toNatClampNeg), .int (xs (nI i + 2).toNatClampNeg)] cvL_23 (c4_at (ad := aC) (z := z) eC) rfl rfl (Nat.le_of_ble_eq_true rfl) (Nat.le_of_ble_eq_true rfl) (Nat.le_of_ble_eq_true rfl) dL_law_299 (st1 := [.int r]) rfl ?_
  refine L_aload_n (pc := 302) h 2 rfl rfl dL_law_302 ?_
  refine L_aload_n (pc := 303) h 0 rfl rfl dL_law_303 ?_
  refine L_iload_n (pc := 304) h 3 rfl rfl dL_law_304 ?_
  refine L_iconst (pc := 305) (v := 1) h (by decide) dL_law_305 ?_
  refine L_iadd (pc := 306) h dL_law_306 ?_
  refine L_sld (pc := 307) h hin1 dL_law_307 ?_
  refine L_aload_n (pc := 308) h 0 rfl rfl dL_law_308 ?_
  refine L_iload_n (pc := 309) h 3 rfl rfl dL_law_309 ?_
  refine L_iconst (pc := 310) (v := 2) h (by decide) dL_law_310 ?_
  refine L_iadd (pc := 311) h dL_law_311 ?_
  refine L_sld (pc := 312) h hin2 dL_law_312 ?_
  refine L_callM (pc := 313) (st := [.int r]) h [.int (xs (nI i + 1).toNatClampNeg), .int (xs (nI i + 2).toNatClampNeg)] cvL_26 (c5_at (ad := aM) (z := z) eM) rfl rfl (Nat.le_of_ble_eq_true rfl) (Nat.le_of_ble_eq_true rfl) (Nat.le_of_ble_eq_true rfl) dL_law_313 (st1 := [.int r, .int r]) rfl ?_
  refine L_icmp_eq (pc := 316) (tgt := 1258) h dL_law_316 (by decide) ?_
  exact kk MC' MM' hR'
set_option maxHeartbeats 4000000 in
set_option maxRecDepth 10000 in
theorem law_c3 {z : ZZ} {aC aM : Nat → Nat} {p : Program} {e : Env} {s : State} {m : MethodId} {b L : Nat} {xs : Nat → Int32} {below : List Frame} {meth : Method} {c : Code} {fu : Nat} {Rel : Mem → Mem → Prop} (hs : Sims fu Rel) (h : LX z aC aM p s m b L xs meth c) {i : Nat} {MC MM : Mem} (hR : Rel MC MM) (hin1 : vp_in (nI i + 1) L) (hin2 : vp_in (nI i + 2) L) (hin3 : vp_in (nI i + 3) L) (hin4 : vp_in (nI i + 4) L) (hin5 : vp_in (nI i + 5) L)
    (kk : ∀ MC' MM', Rel MC' MM' → WL z aC aM p e s m b below meth c MC' MM' 1258 [(0, .ref b), (1, .ref (aC 28)), (2, .ref (aM 0)), (3, .int (nI i))] []) : WL z aC aM p e s m b below meth c MC MM 321 [(0, .ref b), (1, .ref (aC 28)), (2, .ref (aM 0)), (3, .int (nI i))] [] := by
  obtain ⟨r, MC', MM', eC, eM, hR'⟩ := (hs.2.2.2.1) MC MM (xs (nI i + 1).toNatClampNeg) hR
  refine L_aload_n (pc := 321) h 1 rfl rfl dL_law_321 ?_
  refine L_aload_n (pc := 322) h 0 rfl rfl dL_law_322 ?_
  refine L_iload_n (pc := 323) h 3 rfl rfl dL_law_323 ?_
  refine L_iconst (pc := 324) (v := 1) h (by decide) dL_law_324 ?_
  refine L_iadd (pc := 325) h dL_law_325 ?_
  refine L_sld (pc := 326) h hin1 dL_law_326 ?_
  refine L_callC (pc := 327) (st := []) h [.int (xs (nI i + 1).toNatClampNeg)] cvL_27 (c4_tear (ad := aC) (z := z) eC) rfl rfl (Nat.le_of_ble_eq_true rfl) (Nat.le_of_ble_eq_true rfl) (Nat.le_of_ble_eq_true rfl) dL_law_327 (st1 := [.int r]) rfl ?_
  refine L_aload_n (pc := 330) h 2 rfl rfl dL_law_330 ?_
  refine L_aload_n (pc := 331) h 0 rfl rfl dL_law_331 ?_
  refine L_iload_n (pc := 332) h 3 rfl rfl dL_law_332 ?_
  refine L_iconst (pc := 333) (v := 1) h (by decide) dL_law_333 ?_
  refine L_iadd (pc := 334) h dL_law_334 ?_
  refine L_sld (pc := 335) h hin1 dL_law_335 ?_
  refine L_callM (pc := 336) (st := [.int r]) h [.int (xs (nI i + 1).toNatClampNeg)] cvL_31 (c5_tear (ad := aM) (z := z) eM) rfl rfl (Nat.le_of_ble_eq_true rfl) (Nat.le_of_ble_eq_true rfl) (Nat.le_of_ble_eq_true rfl) dL_law_336 (st1 := [.int r, .int r]) rfl ?_
  refine L_icmp_eq (pc := 339) (tgt := 1258) h dL_law_339 (by decide) ?_
  exact kk MC' MM' hR'
set_option maxHeartbeats 4000000 in
set_option maxRecDepth 10000 in
theorem law_c4 {z : ZZ} {aC aM : Nat → Nat} {p : Program} {e : Env} {s : State} {m : MethodId} {b L : Nat} {xs : Nat → Int32} {below : List Frame} {meth : Method} {c : Code} {fu : Nat} {Rel : Mem → Mem → Prop} (hs : Sims fu Rel) (h : LX z aC aM p s m b L xs meth c) {i : Nat} {MC MM : Mem} (hR : Rel MC MM) (hin1 : vp_in (nI i + 1) L) (hin2 : vp_in (nI i + 2) L) (hin3 : vp_in (nI i + 3) L) (hin4 : vp_in (nI i + 4) L) (hin5 : vp_in (nI i + 5) L)
    (kk : ∀ MC' MM', Rel MC' MM' → WL z aC aM p e s m b below meth c MC' MM' 1258 [(0, .ref b), (1, .ref (aC 28)), (2, .ref (aM 0)), (3, .int (nI i))] []) : WL z aC aM p e s m b below meth c MC MM 344 [(0, .ref b), (1, .ref (aC 28)), (2, .ref (aM 0)), (3, .int (nI i))] [] := by
  obtain ⟨r, MC', MM', eC, eM, hR'⟩ := (hs.2.2.2.2.1) MC MM (xs (nI i + 1).toNatClampNeg) (xs (nI i + 2).toNatClampNeg) (xs (nI i + 3).toNatClampNeg) (xs (nI i + 4).toNatClampNeg) (xs (nI i + 5).toNatClampNeg) hR
  refine L_aload_n (pc := 344) h 1 rfl rfl dL_law_344 ?_
  refine L_aload_n (pc := 345) h 0 rfl rfl dL_law_345 ?_
  refine L_iload_n (pc := 346) h 3 rfl rfl dL_law_346 ?_
  refine L_iconst (pc := 347) (v := 1) h (by decide) dL_law_347 ?_
  refine L_iadd (pc := 348) h dL_law_348 ?_
  refine L_sld (pc := 349) h hin1 dL_law_349 ?_
  refine L_aload_n (pc := 350) h 0 rfl rfl dL_law_350 ?_
  refine L_iload_n (pc := 351) h 3 rfl rfl dL_law_351 ?_
  refine L_iconst (pc := 352) (v := 2) h (by decide) dL_law_352 ?_
  refine L_iadd (pc := 353) h dL_law_353 ?_
  refine L_sld (pc := 354) h hin2 dL_law_354 ?_
  refine L_aload_n (pc := 355) h 0 rfl rfl dL_law_355 ?_
  refine L_iload_n (pc := 356) h 3 rfl rfl dL_law_356 ?_
  refine L_iconst (pc := 357) (v := 3) h (by decide) dL_law_357 ?_
  refine L_iadd (pc := 358) h dL_law_358 ?_
  refine L_sld (pc := 359) h hin3 dL_law_359 ?_
  refine L_aload_n (pc := 360) h 0 rfl rfl dL_law_360 ?_
  refine L_iload_n (pc := 361) h 3 rfl rfl dL_law_361 ?_
  refine L_iconst (pc := 362) (v := 4) h (by decide) dL_law_362 ?_
  refine L_iadd (pc := 363) h dL_law_363 ?_
  refine L_sld (pc := 364) h hin4 dL_law_364 ?_
  refine L_aload_n (pc := 365) h 0 rfl rfl dL_law_365 ?_
  refine L_iload_n (pc := 366) h 3 rfl rfl dL_law_366 ?_
  refine L_iconst (pc := 367) (v := 5) h (by decide) dL_law_367 ?_
  refine L_iadd (pc := 368) h dL_law_368 ?_
  refine L_sld (pc := 369) h hin5 dL_law_369 ?_
  refine L_callC (pc := 370) (st := []) h [.int (xs (nI i + 1).toNatClampNeg), .int (xs (nI i + 2).toNatClampNeg), .int (xs (nI i + 3).toNatClampNeg), .int (xs (nI i + 4).toNatClampNeg), .int (xs (nI i + 5).toNatClampNeg)] cvL_32 (c4_copy (ad := aC) (z := z) eC) rfl rfl (Nat.le_of_ble_eq_true rfl) (Nat.le_of_ble_eq_true rfl) (Nat.le_of_ble_eq_true rfl) dL_law_370 (st1 := [.int r]) rfl ?_
  refine L_aload_n (pc := 373) h 2 rfl rfl dL_law_373 ?_
  refine L_aload_n (pc := 374) h 0 rfl rfl dL_law_374 ?_
  refine L_iload_n (pc := 375) h 3 rfl rfl dL_law_375 ?_
  refine L_iconst (pc := 376) (v := 1) h (by decide) dL_law_376 ?_
  refine L_iadd (pc := 377) h dL_law_377 ?_
  refine L_sld (pc := 378) h hin1 dL_law_378 ?_
  refine L_aload_n (pc := 379) h 0 rfl rfl dL_law_379 ?_
  refine L_iload_n (pc := 380) h 3 rfl rfl dL_law_380 ?_
  refine L_iconst (pc := 381) (v := 2) h (by decide) dL_law_381 ?_
  refine L_iadd (pc := 382) h dL_law_382 ?_
  refine L_sld (pc := 383) h hin2 dL_law_383 ?_
  refine L_aload_n (pc := 384) h 0 rfl rfl dL_law_384 ?_
  refine L_iload_n (pc := 385) h 3 rfl rfl dL_law_385 ?_
  refine L_iconst (pc := 386) (v := 3) h (by decide) dL_law_386 ?_
  refine L_iadd (pc := 387) h dL_law_387 ?_
  refine L_sld (pc := 388) h hin3 dL_law_388 ?_
  refine L_aload_n (pc := 389) h 0 rfl rfl dL_law_389 ?_
  refine L_iload_n (pc := 390) h 3 rfl rfl dL_law_390 ?_
  refine L_iconst (pc := 391) (v := 4) h (by decide) dL_law_391 ?_
  refine L_iadd (pc := 392) h dL_law_392 ?_
  refine L_sld (pc := 393) h hin4 dL_law_393 ?_
  refine L_aload_n (pc := 394) h 0 rfl rfl dL_law_394 ?_
  refine L_iload_n (pc := 395) h 3 rfl rfl dL_law_395 ?_
  refine L_iconst (pc := 396) (v := 5) h (by decide) dL_law_396 ?_
  refine L_iadd (pc := 397) h dL_law_397 ?_
  refine L_sld (pc := 398) h hin5 dL_law_398 ?_
  refine L_callM (pc := 399) (st := [.int r]) h [.int (xs (nI i + 1).toNatClampNeg), .int (xs (nI i + 2).toNatClampNeg), .int (xs (nI i + 3).toNatClampNeg), .int (xs (nI i + 4).toNatClampNeg), .int (xs (nI i + 5).toNatClampNeg)] cvL_36 (c5_copy (ad := aM) (z := z) eM) rfl rfl (Nat.le_of_ble_eq_true rfl) (Nat.le_of_ble_eq_true rfl) (Nat.le_of_ble_eq_true rfl) dL_law_399 (st1 := [.int r, .int r]) rfl ?_
  refine L_icmp_eq (pc := 402) (tgt := 1258) h dL_law_402 (by decide) ?_
  exact kk MC' MM' hR'
set_option maxHeartbeats 4000000 in
set_option maxRecDepth 10000 in
theorem law_c5 {z : ZZ} {aC aM : Nat → Nat} {p : Program} {e : Env} {s : State} {m : MethodId} {b L : Nat} {xs : Nat → Int32} {below : List Frame} {meth : Method} {c : Code} {fu : Nat} {Rel : Mem → Mem → Prop} (hs : Sims fu Rel) (h : LX z aC aM p s m b L xs meth c) {i : Nat} {MC MM : Mem} (hR : Rel MC MM) (hin1 : vp_in (nI i + 1) L) (hin2 : vp_in (nI i + 2) L) (hin3 : vp_in (nI i + 3) L) (hin4 : vp_in (nI i + 4) L) (hin5 : vp_in (nI i + 5) L)
    (kk : ∀ MC' MM', Rel MC' MM' → WL z aC aM p e s m b below meth c MC' MM' 1258 [(0, .ref b), (1, .ref (aC 28)), (2, .ref (aM 0)), (3, .int (nI i))] []) : WL z aC aM p e s m b below meth c MC MM 407 [(0, .ref b), (1, .ref (aC 28)), (2, .ref (aM 0)), (3, .int (nI i))] [] := by
  obtain ⟨r, MC', MM', eC, eM, hR'⟩ := (hs.2.2.2.2.2.1) MC MM (xs (nI i + 1).toNatClampNeg) hR
  refine L_aload_n (pc := 407) h 1 rfl rfl dL_law_407 ?_
  refine L_aload_n (pc := 408) h 0 rfl rfl dL_law_408 ?_
  refine L_iload_n (pc := 409) h 3 rfl rfl dL_law_409 ?_
  refine L_iconst (pc := 410) (v := 1) h (by decide) dL_law_410 ?_
  refine L_iadd (pc := 411) h dL_law_411 ?_
  refine L_sld (pc := 412) h hin1 dL_law_412 ?_
  refine L_callC (pc := 413) (st := []) h [.int (xs (nI i + 1).toNatClampNeg)] cvL_37 (c4_mean (ad := aC) (z := z) eC) rfl rfl (Nat.le_of_ble_eq_true rfl) (Nat.le_of_ble_eq_true rfl) (Nat.le_of_ble_eq_true rfl) dL_law_413 (st1 := [.int r]) rfl ?_
  refine L_aload_n (pc := 416) h 2 rfl rfl dL_law_416 ?_
  refine L_aload_n (pc := 417) h 0 rfl rfl dL_law_417 ?_
  refine L_iload_n (pc := 418) h 3 rfl rfl dL_law_418 ?_
  refine L_iconst (pc := 419) (v := 1) h (by decide) dL_law_419 ?_
  refine L_iadd (pc := 420) h dL_law_420 ?_
  refine L_sld (pc := 421) h hin1 dL_law_421 ?_
  refine L_callM (pc := 422) (st := [.int r]) h [.int (xs (nI i + 1).toNatClampNeg)] cvL_40 (c5_mean (ad := aM) (z := z) eM) rfl rfl (Nat.le_of_ble_eq_true rfl) (Nat.le_of_ble_eq_true rfl) (Nat.le_of_ble_eq_true rfl) dL_law_422 (st1 := [.int r, .int r]) rfl ?_
  refine L_icmp_eq (pc := 425) (tgt := 1258) h dL_law_425 (by decide) ?_
  exact kk MC' MM' hR'
set_option maxHeartbeats 4000000 in
set_option maxRecDepth 10000 in
theorem law_c6 {z : ZZ} {aC aM : Nat → Nat} {p : Program} {e : Env} {s : State} {m : MethodId} {b L : Nat} {xs : Nat → Int32} {below : List Frame} {meth : Method} {c : Code} {fu : Nat} {Rel : Mem → Mem → Prop} (hs : Sims fu Rel) (h : LX z aC aM p s m b L xs meth c) {i : Nat} {MC MM : Mem} (hR : Rel MC MM) (hin1 : vp_in (nI i + 1) L) (hin2 : vp_in (nI i + 2) L) (hin3 : vp_in (nI i + 3) L) (hin4 : vp_in (nI i + 4) L) (hin5 : vp_in (nI i + 5) L)
    (kk : ∀ MC' MM', Rel MC' MM' → WL z aC aM p e s m b below meth c MC' MM' 1258 [(0, .ref b), (1, .ref (aC 28)), (2, .ref (aM 0)), (3, .int (nI i))] []) : WL z aC aM p e s m b below meth c MC MM 430 [(0, .ref b), (1, .ref (aC 28)), (2, .ref (aM 0)), (3, .int (nI i))] [] := by
  obtain ⟨r, MC', MM', eC, eM, hR'⟩ := (hs.2.2.2.2.2.2.1) MC MM (xs (nI i + 1).toNatClampNeg) (xs (nI i + 2).toNatClampNeg) hR
  refine L_aload_n (pc := 430) h 1 rfl rfl dL_law_430 ?_
  refine L_aload_n (pc := 431) h 0 rfl rfl dL_law_431 ?_
  refine L_iload_n (pc := 432) h 3 rfl rfl dL_law_432 ?_
  refine L_iconst (pc := 433) (v := 1) h (by decide) dL_law_433 ?_
  refine L_iadd (pc := 434) h dL_law_434 ?_
  refine L_sld (pc := 435) h hin1 dL_law_435 ?_
  refine L_aload_n (pc := 436) h 0 rfl rfl dL_law_436 ?_
  refine L_iload_n (pc := 437) h 3 rfl rfl dL_law_437 ?_
  refine L_iconst (pc := 438) (v := 2) h (by decide) dL_law_438 ?_
  refine L_iadd (pc := 439) h dL_law_439 ?_
  refine L_sld (pc := 440) h hin2 dL_law_440 ?_
  refine L_callC (pc := 441) (st := []) h [.int (xs (nI i + 1).toNatClampNeg), .int (xs (nI i + 2).toNatClampNeg)] cvL_41 (c4_text (ad := aC) (z := z) eC) rfl rfl (Nat.le_of_ble_eq_true rfl) (Nat.le_of_ble_eq_true rfl) (Nat.le_of_ble_eq_true rfl) dL_law_441 (st1 := [.int r]) rfl ?_
  refine L_aload_n (pc := 444) h 2 rfl rfl dL_law_444 ?_
  refine L_aload_n (pc := 445) h 0 rfl rfl dL_law_445 ?_
  refine L_iload_n (pc := 446) h 3 rfl rfl dL_law_446 ?_
  refine L_iconst (pc := 447) (v := 1) h (by decide) dL_law_447 ?_
  refine L_iadd (pc := 448) h dL_law_448 ?_
  refine L_sld (pc := 449) h hin1 dL_law_449 ?_
  refine L_aload_n (pc := 450) h 0 rfl rfl dL_law_450 ?_
  refine L_iload_n (pc := 451) h 3 rfl rfl dL_law_451 ?_
  refine L_iconst (pc := 452) (v := 2) h (by decide) dL_law_452 ?_
  refine L_iadd (pc := 453) h dL_law_453 ?_
  refine L_sld (pc := 454) h hin2 dL_law_454 ?_
  refine L_callM (pc := 455) (st := [.int r]) h [.int (xs (nI i + 1).toNatClampNeg), .int (xs (nI i + 2).toNatClampNeg)] cvL_44 (c5_text (ad := aM) (z := z) eM) rfl rfl (Nat.le_of_ble_eq_true rfl) (Nat.le_of_ble_eq_true rfl) (Nat.le_of_ble_eq_true rfl) dL_law_455 (st1 := [.int r, .int r]) rfl ?_
  refine L_icmp_eq (pc := 458) (tgt := 1258) h dL_law_458 (by decide) ?_
  exact kk MC' MM' hR'
set_option maxHeartbeats 4000000 in
set_option maxRecDepth 10000 in
theorem law_c7 {z : ZZ} {aC aM : Nat → Nat} {p : Program} {e : Env} {s : State} {m : MethodId} {b L : Nat} {xs : Nat → Int32} {below : List Frame} {meth : Method} {c : Code} {fu : Nat} {Rel : Mem → Mem → Prop} (hs : Sims fu Rel) (h : LX z aC aM p s m b L xs meth c) {i : Nat} {MC MM : Mem} (hR : Rel MC MM) (hin1 : vp_in (nI i + 1) L) (hin2 : vp_in (nI i + 2) L) (hin3 : vp_in (nI i + 3) L) (hin4 : vp_in (nI i + 4) L) (hin5 : vp_in (nI i + 5) L)
    (kk : ∀ MC' MM', Rel MC' MM' → WL z aC aM p e s m b below meth c MC' MM' 1258 [(0, .ref b), (1, .ref (aC 28)), (2, .ref (aM 0)), (3, .int (nI i))] []) : WL z aC aM p e s m b below meth c MC MM 463 [(0, .ref b), (1, .ref (aC 28)), (2, .ref (aM 0)), (3, .int (nI i))] [] := by
  obtain ⟨r, MC', MM', eC, eM, hR'⟩ := (hs.2.2.2.2.2.2.2.1) MC MM (xs (nI i + 1).toNatClampNeg) (xs (nI i + 2).toNatClampNeg) (xs (nI i + 3).toNatClampNeg) hR
  refine L_aload_n (pc := 463) h 1 rfl rfl dL_law_463 ?_
  refine L_aload_n (pc := 464) h 0 rfl rfl dL_law_464 ?_
  refine L_iload_n (pc := 465) h 3 rfl rfl dL_law_465 ?_
  refine L_iconst (pc := 466) (v := 1) h (by decide) dL_law_466 ?_
  refine L_iadd (pc := 467) h dL_law_467 ?_
  refine L_sld (pc := 468) h hin1 dL_law_468 ?_
  refine L_aload_n (pc := 469) h 0 rfl rfl dL_law_469 ?_
  refine L_iload_n (pc := 470) h 3 rfl rfl dL_law_470 ?_
  refine L_iconst (pc := 471) (v := 2) h (by decide) dL_law_471 ?_
  refine L_iadd (pc := 472) h dL_law_472 ?_
  refine L_sld (pc := 473) h hin2 dL_law_473 ?_
  refine L_aload_n (pc := 474) h 0 rfl rfl dL_law_474 ?_
  refine L_iload_n (pc := 475) h 3 rfl rfl dL_law_475 ?_
  refine L_iconst (pc := 476) (v := 3) h (by decide) dL_law_476 ?_
  refine L_iadd (pc := 477) h dL_law_477 ?_
  refine L_sld (pc := 478) h hin3 dL_law_478 ?_
  refine L_callC (pc := 479) (st := []) h [.int (xs (nI i + 1).toNatClampNeg), .int (xs (nI i + 2).toNatClampNeg), .int (xs (nI i + 3).toNatClampNeg)] cvL_45 (c4_put (ad := aC) (z := z) eC) rfl rfl (Nat.le_of_ble_eq_true rfl) (Nat.le_of_ble_eq_true rfl) (Nat.le_of_ble_eq_true rfl) dL_law_479 (st1 := [.int r]) rfl ?_
  refine L_aload_n (pc := 482) h 2 rfl rfl dL_law_482 ?_
  refine L_aload_n (pc := 483) h 0 rfl rfl dL_law_483 ?_
  refine L_iload_n (pc := 484) h 3 rfl rfl dL_law_484 ?_
  refine L_iconst (pc := 485) (v := 1) h (by decide) dL_law_485 ?_
  refine L_iadd (pc := 486) h dL_law_486 ?_
  refine L_sld (pc := 487) h hin1 dL_law_487 ?_
  refine L_aload_n (pc := 488) h 0 rfl rfl dL_law_488 ?_
  refine L_iload_n (pc := 489) h 3 rfl rfl dL_law_489 ?_
  refine L_iconst (pc := 490) (v := 2) h (by decide) dL_law_490 ?_
  refine L_iadd (pc := 491) h dL_law_491 ?_
  refine L_sld (pc := 492) h hin2 dL_law_492 ?_
  refine L_aload_n (pc := 493) h 0 rfl rfl dL_law_493 ?_
  refine L_iload_n (pc := 494) h 3 rfl rfl dL_law_494 ?_
  refine L_iconst (pc := 495) (v := 3) h (by decide) dL_law_495 ?_
  refine L_iadd (pc := 496) h dL_law_496 ?_
  refine L_sld (pc := 497) h hin3 dL_law_497 ?_
  refine L_callM (pc := 498) (st := [.int r]) h [.int (xs (nI i + 1).toNatClampNeg), .int (xs (nI i + 2).toNatClampNeg), .int (xs (nI i + 3).toNatClampNeg)] cvL_48 (c5_put (ad := aM) (z := z) eM) rfl rfl (Nat.le_of_ble_eq_true rfl) (Nat.le_of_ble_eq_true rfl) (Nat.le_of_ble_eq_true rfl) dL_law_498 (st1 := [.int r, .int r]) rfl ?_
  refine L_icmp_eq (pc := 501) (tgt := 1258) h dL_law_501 (by decide) ?_
  exact kk MC' MM' hR'
set_option maxHeartbeats 4000000 in
set_option maxRecDepth 10000 in
theorem law_c8 {z : ZZ} {aC aM : Nat → Nat} {p : Program} {e : Env} {s : State} {m : MethodId} {b L : Nat} {xs : Nat → Int32} {below : List Frame} {meth : Method} {c : Code} {fu : Nat} {Rel : Mem → Mem → Prop} (hs : Sims fu Rel) (h : LX z aC aM p s m b L xs meth c) {i : Nat} {MC MM : Mem} (hR : Rel MC MM) (hin1 : vp_in (nI i + 1) L) (hin2 : vp_in (nI i + 2) L) (hin3 : vp_in (nI i + 3) L) (hin4 : vp_in (nI i + 4) L) (hin5 : vp_in (nI i + 5) L)
    (kk : ∀ MC' MM', Rel MC' MM' → WL z aC aM p e s m b below meth c MC' MM' 1258 [(0, .ref b), (1, .ref (aC 28)), (2, .ref (aM 0)), (3, .int (nI i))] []) : WL z aC aM p e s m b below meth c MC MM 506 [(0, .ref b), (1, .ref (aC 28)), (2, .ref (aM 0)), (3, .int (nI i))] [] := by
  obtain ⟨r, MC', MM', eC, eM, hR'⟩ := (hs.2.2.2.2.2.2.2.2.1) MC MM (xs (nI i + 1).toNatClampNeg) hR
  refine L_aload_n (pc := 506) h 1 rfl rfl dL_law_506 ?_
  refine L_aload_n (pc := 507) h 0 rfl rfl dL_law_507 ?_
  refine L_iload_n (pc := 508) h 3 rfl rfl dL_law_508 ?_
  refine L_iconst (pc := 509) (v := 1) h (by decide) dL_law_509 ?_
  refine L_iadd (pc := 510) h dL_law_510 ?_
  refine L_sld (pc := 511) h hin1 dL_law_511 ?_
  refine L_callC (pc := 512) (st := []) h [.int (xs (nI i + 1).toNatClampNeg)] cvL_49 (c4_fault (ad := aC) (z := z) eC) rfl rfl (Nat.le_of_ble_eq_true rfl) (Nat.le_of_ble_eq_true rfl) (Nat.le_of_ble_eq_true rfl) dL_law_512 (st1 := [.int r]) rfl ?_
  refine L_aload_n (pc := 515) h 2 rfl rfl dL_law_515 ?_
  refine L_aload_n (pc := 516) h 0 rfl rfl dL_law_516 ?_
  refine L_iload_n (pc := 517) h 3 rfl rfl dL_law_517 ?_
  refine L_iconst (pc := 518) (v := 1) h (by decide) dL_law_518 ?_
  refine L_iadd (pc := 519) h dL_law_519 ?_
  refine L_sld (pc := 520) h hin1 dL_law_520 ?_
  refine L_callM (pc := 521) (st := [.int r]) h [.int (xs (nI i + 1).toNatClampNeg)] cvL_52 (c5_fault (ad := aM) (z := z) eM) rfl rfl (Nat.le_of_ble_eq_true rfl) (Nat.le_of_ble_eq_true rfl) (Nat.le_of_ble_eq_true rfl) dL_law_521 (st1 := [.int r, .int r]) rfl ?_
  refine L_icmp_eq (pc := 524) (tgt := 1258) h dL_law_524 (by decide) ?_
  exact kk MC' MM' hR'
set_option maxHeartbeats 4000000 in
set_option maxRecDepth 10000 in
theorem law_c9 {z : ZZ} {aC aM : Nat → Nat} {p : Program} {e : Env} {s : State} {m : MethodId} {b L : Nat} {xs : Nat → Int32} {below : List Frame} {meth : Method} {c : Code} {fu : Nat} {Rel : Mem → Mem → Prop} (hs : Sims fu Rel) (h : LX z aC aM p s m b L xs meth c) {i : Nat} {MC MM : Mem} (hR : Rel MC MM) (hin1 : vp_in (nI i + 1) L) (hin2 : vp_in (nI i + 2) L) (hin3 : vp_in (nI i + 3) L) (hin4 : vp_in (nI i + 4) L) (hin5 : vp_in (nI i + 5) L)
    (kk : ∀ MC' MM', Rel MC' MM' → WL z aC aM p e s m b below meth c MC' MM' 1258 [(0, .ref b), (1, .ref (aC 28)), (2, .ref (aM 0)), (3, .int (nI i))] []) : WL z aC aM p e s m b below meth c MC MM 529 [(0, .ref b), (1, .ref (aC 28)), (2, .ref (aM 0)), (3, .int (nI i))] [] := by
  obtain ⟨r, MC', MM', eC, eM, hR'⟩ := (hs.2.2.2.2.2.2.2.2.2.1) MC MM (xs (nI i + 1).toNatClampNeg) hR
  refine L_aload_n (pc := 529) h 1 rfl rfl dL_law_529 ?_
  refine L_aload_n (pc := 530) h 0 rfl rfl dL_law_530 ?_
  refine L_iload_n (pc := 531) h 3 rfl rfl dL_law_531 ?_
  refine L_iconst (pc := 532) (v := 1) h (by decide) dL_law_532 ?_
  refine L_iadd (pc := 533) h dL_law_533 ?_
  refine L_sld (pc := 534) h hin1 dL_law_534 ?_
  refine L_callC (pc := 535) (st := []) h [.int (xs (nI i + 1).toNatClampNeg)] cvL_53 (c4_street (ad := aC) (z := z) eC) rfl rfl (Nat.le_of_ble_eq_true rfl) (Nat.le_of_ble_eq_true rfl) (Nat.le_of_ble_eq_true rfl) dL_law_535 (st1 := [.int r]) rfl ?_
  refine L_aload_n (pc := 538) h 2 rfl rfl dL_law_538 ?_
  refine L_aload_n (pc := 539) h 0 rfl rfl dL_law_539 ?_
  refine L_iload_n (pc := 540) h 3 rfl rfl dL_law_540 ?_
  refine L_iconst (pc := 541) (v := 1) h (by decide) dL_law_541 ?_
  refine L_iadd (pc := 542) h dL_law_542 ?_
  refine L_sld (pc := 543) h hin1 dL_law_543 ?_
  refine L_callM (pc := 544) (st := [.int r]) h [.int (xs (nI i + 1).toNatClampNeg)] cvL_56 (c5_street (ad := aM) (z := z) eM) rfl rfl (Nat.le_of_ble_eq_true rfl) (Nat.le_of_ble_eq_true rfl) (Nat.le_of_ble_eq_true rfl) dL_law_544 (st1 := [.int r, .int r]) rfl ?_
  refine L_icmp_eq (pc := 547) (tgt := 1258) h dL_law_547 (by decide) ?_
  exact kk MC' MM' hR'
set_option maxHeartbeats 4000000 in
set_option maxRecDepth 10000 in
theorem law_c10 {z : ZZ} {aC aM : Nat → Nat} {p : Program} {e : Env} {s : State} {m : MethodId} {b L : Nat} {xs : Nat → Int32} {below : List Frame} {meth : Method} {c : Code} {fu : Nat} {Rel : Mem → Mem → Prop} (hs : Sims fu Rel) (h : LX z aC aM p s m b L xs meth c) {i : Nat} {MC MM : Mem} (hR : Rel MC MM) (hin1 : vp_in (nI i + 1) L) (hin2 : vp_in (nI i + 2) L) (hin3 : vp_in (nI i + 3) L) (hin4 : vp_in (nI i + 4) L) (hin5 : vp_in (nI i + 5) L)
    (kk : ∀ MC' MM', Rel MC' MM' → WL z aC aM p e s m b below meth c MC' MM' 1258 [(0, .ref b), (1, .ref (aC 28)), (2, .ref (aM 0)), (3, .int (nI i))] []) : WL z aC aM p e s m b below meth c MC MM 552 [(0, .ref b), (1, .ref (aC 28)), (2, .ref (aM 0)), (3, .int (nI i))] [] := by
  obtain ⟨r, MC', MM', eC, eM, hR'⟩ := (hs.2.2.2.2.2.2.2.2.2.2.1) MC MM (xs (nI i + 1).toNatClampNeg) (xs (nI i + 2).toNatClampNeg) hR
  refine L_aload_n (pc := 552) h 1 rfl rfl dL_law_552 ?_
  refine L_aload_n (pc := 553) h 0 rfl rfl dL_law_553 ?_
  refine L_iload_n (pc := 554) h 3 rfl rfl dL_law_554 ?_
  refine L_iconst (pc := 555) (v := 1) h (by decide) dL_law_555 ?_
  refine L_iadd (pc := 556) h dL_law_556 ?_
  refine L_sld (pc := 557) h hin1 dL_law_557 ?_
  refine L_aload_n (pc := 558) h 0 rfl rfl dL_law_558 ?_
  refine L_iload_n (pc := 559) h 3 rfl rfl dL_law_559 ?_
  refine L_iconst (pc := 560) (v := 2) h (by decide) dL_law_560 ?_
  refine L_iadd (pc := 561) h dL_law_561 ?_
  refine L_sld (pc := 562) h hin2 dL_law_562 ?_
  refine L_callC (pc := 563) (st := []) h [.int (xs (nI i + 1).toNatClampNeg), .int (xs (nI i + 2).toNatClampNeg)] cvL_57 (c4_pin (ad := aC) (z := z) eC) rfl rfl (Nat.le_of_ble_eq_true rfl) (Nat.le_of_ble_eq_true rfl) (Nat.le_of_ble_eq_true rfl) dL_law_563 (st1 := [.int r]) rfl ?_
  refine L_aload_n (pc := 566) h 2 rfl rfl dL_law_566 ?_
  refine L_aload_n (pc := 567) h 0 rfl rfl dL_law_567 ?_
  refine L_iload_n (pc := 568) h 3 rfl rfl dL_law_568 ?_
  refine L_iconst (pc := 569) (v := 1) h (by decide) dL_law_569 ?_
  refine L_iadd (pc := 570) h dL_law_570 ?_
  refine L_sld (pc := 571) h hin1 dL_law_571 ?_
  refine L_aload_n (pc := 572) h 0 rfl rfl dL_law_572 ?_
  refine L_iload_n (pc := 573) h 3 rfl rfl dL_law_573 ?_
  refine L_iconst (pc := 574) (v := 2) h (by decide) dL_law_574 ?_
  refine L_iadd (pc := 575) h dL_law_575 ?_
  refine L_sld (pc := 576) h hin2 dL_law_576 ?_
  refine L_callM (pc := 577) (st := [.int r]) h [.int (xs (nI i + 1).toNatClampNeg), .int (xs (nI i + 2).toNatClampNeg)] cvL_60 (c5_pin (ad := aM) (z := z) eM) rfl rfl (Nat.le_of_ble_eq_true rfl) (Nat.le_of_ble_eq_true rfl) (Nat.le_of_ble_eq_true rfl) dL_law_577 (st1 := [.int r, .int r]) rfl ?_
  refine L_icmp_eq (pc := 580) (tgt := 1258) h dL_law_580 (by decide) ?_
  exact kk MC' MM' hR'
set_option maxHeartbeats 4000000 in
set_option maxRecDepth 10000 in
theorem law_c11 {z : ZZ} {aC aM : Nat → Nat} {p : Program} {e : Env} {s : State} {m : MethodId} {b L : Nat} {xs : Nat → Int32} {below : List Frame} {meth : Method} {c : Code} {fu : Nat} {Rel : Mem → Mem → Prop} (hs : Sims fu Rel) (h : LX z aC aM p s m b L xs meth c) {i : Nat} {MC MM : Mem} (hR : Rel MC MM) (hin1 : vp_in (nI i + 1) L) (hin2 : vp_in (nI i + 2) L) (hin3 : vp_in (nI i + 3) L) (hin4 : vp_in (nI i + 4) L) (hin5 : vp_in (nI i + 5) L)
    (kk : ∀ MC' MM', Rel MC' MM' → WL z aC aM p e s m b below meth c MC' MM' 1258 [(0, .ref b), (1, .ref (aC 28)), (2, .ref (aM 0)), (3, .int (nI i))] []) : WL z aC aM p e s m b below meth c MC MM 585 [(0, .ref b), (1, .ref (aC 28)), (2, .ref (aM 0)), (3, .int (nI i))] [] := by
  obtain ⟨r, MC', MM', eC, eM, hR'⟩ := (hs.2.2.2.2.2.2.2.2.2.2.2.1) MC MM (xs (nI i + 1).toNatClampNeg) (xs (nI i + 2).toNatClampNeg) hR
  refine L_aload_n (pc := 585) h 1 rfl rfl dL_law_585 ?_
  refine L_aload_n (pc := 586) h 0 rfl rfl dL_law_586 ?_
  refine L_iload_n (pc := 587) h 3 rfl rfl dL_law_587 ?_
  refine L_iconst (pc := 588) (v := 1) h (by decide) dL_law_588 ?_
  refine L_iadd (pc := 589) h dL_law_589 ?_
  refine L_sld (pc := 590) h hin1 dL_law_590 ?_
  refine L_aload_n (pc := 591) h 0 rfl rfl dL_law_591 ?_
  refine L_iload_n (pc := 592) h 3 rfl rfl dL_law_592 ?_
  refine L_iconst (pc := 593) (v := 2) h (by decide) dL_law_593 ?_
  refine L_iadd (pc := 594) h dL_law_594 ?_
  refine L_sld (pc := 595) h hin2 dL_law_595 ?_
  refine L_callC (pc := 596) (st := []) h [.int (xs (nI i + 1).toNatClampNeg), .int (xs (nI i + 2).toNatClampNeg)] cvL_61 (c4_mark (ad := aC) (z := z) eC) rfl rfl (Nat.le_of_ble_eq_true rfl) (Nat.le_of_ble_eq_true rfl) (Nat.le_of_ble_eq_true rfl) dL_law_596 (st1 := [.int r]) rfl ?_
  refine L_aload_n (pc := 599) h 2 rfl rfl dL_law_599 ?_
  refine L_aload_n (pc := 600) h 0 rfl rfl dL_law_600 ?_
  refine L_iload_n (pc := 601) h 3 rfl rfl dL_law_601 ?_
  refine L_iconst (pc := 602) (v := 1) h (by decide) dL_law_602 ?_
  refine L_iadd (pc := 603) h dL_law_603 ?_
  refine L_sld (pc := 604) h hin1 dL_law_604 ?_
  refine L_aload_n (pc := 605) h 0 rfl rfl dL_law_605 ?_
  refine L_iload_n (pc := 606) h 3 rfl rfl dL_law_606 ?_
  refine L_iconst (pc := 607) (v := 2) h (by decide) dL_law_607 ?_
  refine L_iadd (pc := 608) h dL_law_608 ?_
  refine L_sld (pc := 609) h hin2 dL_law_609 ?_
  refine L_callM (pc := 610) (st := [.int r]) h [.int (xs (nI i + 1).toNatClampNeg), .int (xs (nI i + 2).toNatClampNeg)] cvL_64 (c5_mark (ad := aM) (z := z) eM) rfl rfl (Nat.le_of_ble_eq_true rfl) (Nat.le_of_ble_eq_true rfl) (Nat.le_of_ble_eq_true rfl) dL_law_610 (st1 := [.int r, .int r]) rfl ?_
  refine L_icmp_eq (pc := 613) (tgt := 1258) h dL_law_613 (by decide) ?_
  exact kk MC' MM' hR'
set_option maxHeartbeats 4000000 in
set_option maxRecDepth 10000 in
theorem law_c12 {z : ZZ} {aC aM : Nat → Nat} {p : Program} {e : Env} {s : State} {m : MethodId} {b L : Nat} {xs : Nat → Int32} {below : List Frame} {meth : Method} {c : Code} {fu : Nat} {Rel : Mem → Mem → Prop} (hs : Sims fu Rel) (h : LX z aC aM p s m b L xs meth c) {i : Nat} {MC MM : Mem} (hR : Rel MC MM) (hin1 : vp_in (nI i + 1) L) (hin2 : vp_in (nI i + 2) L) (hin3 : vp_in (nI i + 3) L) (hin4 : vp_in (nI i + 4) L) (hin5 : vp_in (nI i + 5) L)
    (kk : ∀ MC' MM', Rel MC' MM' → WL z aC aM p e s m b below meth c MC' MM' 1258 [(0, .ref b), (1, .ref (aC 28)), (2, .ref (aM 0)), (3, .int (nI i))] []) : WL z aC aM p e s m b below meth c MC MM 618 [(0, .ref b), (1, .ref (aC 28)), (2, .ref (aM 0)), (3, .int (nI i))] [] := by
  obtain ⟨r, MC', MM', eC, eM, hR'⟩ := (hs.2.2.2.2.2.2.2.2.2.2.2.2.1) MC MM (xs (nI i + 1).toNatClampNeg) (xs (nI i + 2).toNatClampNeg) hR
  refine L_aload_n (pc := 618) h 1 rfl rfl dL_law_618 ?_
  refine L_aload_n (pc := 619) h 0 rfl rfl dL_law_619 ?_
  refine L_iload_n (pc := 620) h 3 rfl rfl dL_law_620 ?_
  refine L_iconst (pc := 621) (v := 1) h (by decide) dL_law_621 ?_
  refine L_iadd (pc := 622) h dL_law_622 ?_
  refine L_sld (pc := 623) h hin1 dL_law_623 ?_
  refine L_aload_n (pc := 624) h 0 rfl rfl dL_law_624 ?_
  refine L_iload_n (pc := 625) h 3 rfl rfl dL_law_625 ?_
  refine L_iconst (pc := 626) (v := 2) h (by decide) dL_law_626 ?_
  refine L_iadd (pc := 627) h dL_law_627 ?_
  refine L_sld (pc := 628) h hin2 dL_law_628 ?_
  refine L_callC (pc := 629) (st := []) h [.int (xs (nI i + 1).toNatClampNeg), .int (xs (nI i + 2).toNatClampNeg)] cvL_65 (c4_worth (ad := aC) (z := z) eC) rfl rfl (Nat.le_of_ble_eq_true rfl) (Nat.le_of_ble_eq_true rfl) (Nat.le_of_ble_eq_true rfl) dL_law_629 (st1 := [.int r]) rfl ?_
  refine L_aload_n (pc := 632) h 2 rfl rfl dL_law_632 ?_
  refine L_aload_n (pc := 633) h 0 rfl rfl dL_law_633 ?_
  refine L_iload_n (pc := 634) h 3 rfl rfl dL_law_634 ?_
  refine L_iconst (pc := 635) (v := 1) h (by decide) dL_law_635 ?_
  refine L_iadd (pc := 636) h dL_law_636 ?_
  refine L_sld (pc := 637) h hin1 dL_law_637 ?_
  refine L_aload_n (pc := 638) h 0 rfl rfl dL_law_638 ?_
  refine L_iload_n (pc := 639) h 3 rfl rfl dL_law_639 ?_
  refine L_iconst (pc := 640) (v := 2) h (by decide) dL_law_640 ?_
  refine L_iadd (pc := 641) h dL_law_641 ?_
  refine L_sld (pc := 642) h hin2 dL_law_642 ?_
  refine L_callM (pc := 643) (st := [.int r]) h [.int (xs (nI i + 1).toNatClampNeg), .int (xs (nI i + 2).toNatClampNeg)] cvL_68 (c5_worth (ad := aM) (z := z) eM) rfl rfl (Nat.le_of_ble_eq_true rfl) (Nat.le_of_ble_eq_true rfl) (Nat.le_of_ble_eq_true rfl) dL_law_643 (st1 := [.int r, .int r]) rfl ?_
  refine L_icmp_eq (pc := 646) (tgt := 1258) h dL_law_646 (by decide) ?_
  exact kk MC' MM' hR'
set_option maxHeartbeats 4000000 in
set_option maxRecDepth 10000 in
theorem law_c13 {z : ZZ} {aC aM : Nat → Nat} {p : Program} {e : Env} {s : State} {m : MethodId} {b L : Nat} {xs : Nat → Int32} {below : List Frame} {meth : Method} {c : Code} {fu : Nat} {Rel : Mem → Mem → Prop} (hs : Sims fu Rel) (h : LX z aC aM p s m b L xs meth c) {i : Nat} {MC MM : Mem} (hR : Rel MC MM) (hin1 : vp_in (nI i + 1) L) (hin2 : vp_in (nI i + 2) L) (hin3 : vp_in (nI i + 3) L) (hin4 : vp_in (nI i + 4) L) (hin5 : vp_in (nI i + 5) L)
    (kk : ∀ MC' MM', Rel MC' MM' → WL z aC aM p e s m b below meth c MC' MM' 1258 [(0, .ref b), (1, .ref (aC 28)), (2, .ref (aM 0)), (3, .int (nI i))] []) : WL z aC aM p e s m b below meth c MC MM 651 [(0, .ref b), (1, .ref (aC 28)), (2, .ref (aM 0)), (3, .int (nI i))] [] := by
  obtain ⟨r, MC', MM', eC, eM, hR'⟩ := (hs.2.2.2.2.2.2.2.2.2.2.2.2.2.1) MC MM (xs (nI i + 1).toNatClampNeg) hR
  refine L_aload_n (pc := 651) h 1 rfl rfl dL_law_651 ?_
  refine L_aload_n (pc := 652) h 0 rfl rfl dL_law_652 ?_
  refine L_iload_n (pc := 653) h 3 rfl rfl dL_law_653 ?_
  refine L_iconst (pc := 654) (v := 1) h (by decide) dL_law_654 ?_
  refine L_iadd (pc := 655) h dL_law_655 ?_
  refine L_sld (pc := 656) h hin1 dL_law_656 ?_
  refine L_callC (pc := 657) (st := []) h [.int (xs (nI i + 1).toNatClampNeg)] cvL_69 (c4_step (ad := aC) (z := z) eC) rfl rfl (Nat.le_of_ble_eq_true rfl) (Nat.le_of_ble_eq_true rfl) (Nat.le_of_ble_eq_true rfl) dL_law_657 (st1 := [.int r]) rfl ?_
  refine L_aload_n (pc := 660) h 2 rfl rfl dL_law_660 ?_
  refine L_aload_n (pc := 661) h 0 rfl rfl dL_law_661 ?_
  refine L_iload_n (pc := 662) h 3 rfl rfl dL_law_662 ?_
  refine L_iconst (pc := 663) (v := 1) h (by decide) dL_law_663 ?_
  refine L_iadd (pc := 664) h dL_law_664 ?_
  refine L_sld (pc := 665) h hin1 dL_law_665 ?_
  refine L_callM (pc := 666) (st := [.int r]) h [.int (xs (nI i + 1).toNatClampNeg)] cvL_72 (c5_step (ad := aM) (z := z) eM) rfl rfl (Nat.le_of_ble_eq_true rfl) (Nat.le_of_ble_eq_true rfl) (Nat.le_of_ble_eq_true rfl) dL_law_666 (st1 := [.int r, .int r]) rfl ?_
  refine L_icmp_eq (pc := 669) (tgt := 1258) h dL_law_669 (by decide) ?_
  exact kk MC' MM' hR'
set_option maxHeartbeats 4000000 in
set_option maxRecDepth 10000 in
theorem law_c14 {z : ZZ} {aC aM : Nat → Nat} {p : Program} {e : Env} {s : State} {m : MethodId} {b L : Nat} {xs : Nat → Int32} {below : List Frame} {meth : Method} {c : Code} {fu : Nat} {Rel : Mem → Mem → Prop} (hs : Sims fu Rel) (h : LX z aC aM p s m b L xs meth c) {i : Nat} {MC MM : Mem} (hR : Rel MC MM) (hin1 : vp_in (nI i + 1) L) (hin2 : vp_in (nI i + 2) L) (hin3 : vp_in (nI i + 3) L) (hin4 : vp_in (nI i + 4) L) (hin5 : vp_in (nI i + 5) L)
    (kk : ∀ MC' MM', Rel MC' MM' → WL z aC aM p e s m b below meth c MC' MM' 1258 [(0, .ref b), (1, .ref (aC 28)), (2, .ref (aM 0)), (3, .int (nI i))] []) : WL z aC aM p e s m b below meth c MC MM 674 [(0, .ref b), (1, .ref (aC 28)), (2, .ref (aM 0)), (3, .int (nI i))] [] := by
  obtain ⟨r, MC', MM', eC, eM, hR'⟩ := (hs.2.2.2.2.2.2.2.2.2.2.2.2.2.2.1) MC MM (xs (nI i + 1).toNatClampNeg) hR
  refine L_aload_n (pc := 674) h 1 rfl rfl dL_law_674 ?_
  refine L_aload_n (pc := 675) h 0 rfl rfl dL_law_675 ?_
  refine L_iload_n (pc := 676) h 3 rfl rfl dL_law_676 ?_
  refine L_iconst (pc := 677) (v := 1) h (by decide) dL_law_677 ?_
  refine L_iadd (pc := 678) h dL_law_678 ?_
  refine L_sld (pc := 679) h hin1 dL_law_679 ?_
  refine L_callC (pc := 680) (st := []) h [.int (xs (nI i + 1).toNatClampNeg)] cvL_73 (c4_pick (ad := aC) (z := z) eC) rfl rfl (Nat.le_of_ble_eq_true rfl) (Nat.le_of_ble_eq_true rfl) (Nat.le_of_ble_eq_true rfl) dL_law_680 (st1 := [.int r]) rfl ?_
  refine L_aload_n (pc := 683) h 2 rfl rfl dL_law_683 ?_
  refine L_aload_n (pc := 684) h 0 rfl rfl dL_law_684 ?_
  refine L_iload_n (pc := 685) h 3 rfl rfl dL_law_685 ?_
  refine L_iconst (pc := 686) (v := 1) h (by decide) dL_law_686 ?_
  refine L_iadd (pc := 687) h dL_law_687 ?_
  refine L_sld (pc := 688) h hin1 dL_law_688 ?_
  refine L_callM (pc := 689) (st := [.int r]) h [.int (xs (nI i + 1).toNatClampNeg)] cvL_76 (c5_pick (ad := aM) (z := z) eM) rfl rfl (Nat.le_of_ble_eq_true rfl) (Nat.le_of_ble_eq_true rfl) (Nat.le_of_ble_eq_true rfl) dL_law_689 (st1 := [.int r, .int r]) rfl ?_
  refine L_icmp_eq (pc := 692) (tgt := 1258) h dL_law_692 (by decide) ?_
  exact kk MC' MM' hR'
set_option maxHeartbeats 4000000 in
set_option maxRecDepth 10000 in
theorem law_c15 {z : ZZ} {aC aM : Nat → Nat} {p : Program} {e : Env} {s : State} {m : MethodId} {b L : Nat} {xs : Nat → Int32} {below : List Frame} {meth : Method} {c : Code} {fu : Nat} {Rel : Mem → Mem → Prop} (hs : Sims fu Rel) (h : LX z aC aM p s m b L xs meth c) {i : Nat} {MC MM : Mem} (hR : Rel MC MM) (hin1 : vp_in (nI i + 1) L) (hin2 : vp_in (nI i + 2) L) (hin3 : vp_in (nI i + 3) L) (hin4 : vp_in (nI i + 4) L) (hin5 : vp_in (nI i + 5) L)
    (kk : ∀ MC' MM', Rel MC' MM' → WL z aC aM p e s m b below meth c MC' MM' 1258 [(0, .ref b), (1, .ref (aC 28)), (2, .ref (aM 0)), (3, .int (nI i))] []) : WL z aC aM p e s m b below meth c MC MM 697 [(0, .ref b), (1, .ref (aC 28)), (2, .ref (aM 0)), (3, .int (nI i))] [] := by
  obtain ⟨r, MC', MM', eC, eM, hR'⟩ := (hs.2.2.2.2.2.2.2.2.2.2.2.2.2.2.2.1) MC MM (xs (nI i + 1).toNatClampNeg) hR
  refine L_aload_n (pc := 697) h 1 rfl rfl dL_law_697 ?_
  refine L_aload_n (pc := 698) h 0 rfl rfl dL_law_698 ?_
  refine L_iload_n (pc := 699) h 3 rfl rfl dL_law_699 ?_
  refine L_iconst (pc := 700) (v := 1) h (by decide) dL_law_700 ?_
  refine L_iadd (pc := 701) h dL_law_701 ?_
  refine L_sld (pc := 702) h hin1 dL_law_702 ?_
  refine L_callC (pc := 703) (st := []) h [.int (xs (nI i + 1).toNatClampNeg)] cvL_77 (c4_drop (ad := aC) (z := z) eC) rfl rfl (Nat.le_of_ble_eq_true rfl) (Nat.le_of_ble_eq_true rfl) (Nat.le_of_ble_eq_true rfl) dL_law_703 (st1 := [.int r]) rfl ?_
  refine L_aload_n (pc := 706) h 2 rfl rfl dL_law_706 ?_
  refine L_aload_n (pc := 707) h 0 rfl rfl dL_law_707 ?_
  refine L_iload_n (pc := 708) h 3 rfl rfl dL_law_708 ?_
  refine L_iconst (pc := 709) (v := 1) h (by decide) dL_law_709 ?_
  refine L_iadd (pc := 710) h dL_law_710 ?_
  refine L_sld (pc := 711) h hin1 dL_law_711 ?_
  refine L_callM (pc := 712) (st := [.int r]) h [.int (xs (nI i + 1).toNatClampNeg)] cvL_80 (c5_drop (ad := aM) (z := z) eM) rfl rfl (Nat.le_of_ble_eq_true rfl) (Nat.le_of_ble_eq_true rfl) (Nat.le_of_ble_eq_true rfl) dL_law_712 (st1 := [.int r, .int r]) rfl ?_
  refine L_icmp_eq (pc := 715) (tgt := 1258) h dL_law_715 (by decide) ?_
  exact kk MC' MM' hR'
set_option maxHeartbeats 4000000 in
set_option maxRecDepth 10000 in
theorem law_c16 {z : ZZ} {aC aM : Nat → Nat} {p : Program} {e : Env} {s : State} {m : MethodId} {b L : Nat} {xs : Nat → Int32} {below : List Frame} {meth : Method} {c : Code} {fu : Nat} {Rel : Mem → Mem → Prop} (hs : Sims fu Rel) (h : LX z aC aM p s m b L xs meth c) {i : Nat} {MC MM : Mem} (hR : Rel MC MM) (hin1 : vp_in (nI i + 1) L) (hin2 : vp_in (nI i + 2) L) (hin3 : vp_in (nI i + 3) L) (hin4 : vp_in (nI i + 4) L) (hin5 : vp_in (nI i + 5) L)
    (kk : ∀ MC' MM', Rel MC' MM' → WL z aC aM p e s m b below meth c MC' MM' 1258 [(0, .ref b), (1, .ref (aC 28)), (2, .ref (aM 0)), (3, .int (nI i))] []) : WL z aC aM p e s m b below meth c MC MM 720 [(0, .ref b), (1, .ref (aC 28)), (2, .ref (aM 0)), (3, .int (nI i))] [] := by
  obtain ⟨r, MC', MM', eC, eM, hR'⟩ := (hs.2.2.2.2.2.2.2.2.2.2.2.2.2.2.2.2.1) MC MM  hR
  refine L_aload_n (pc := 720) h 1 rfl rfl dL_law_720 ?_
  refine L_callC (pc := 721) (st := []) h [] cvL_81 (c4_sweep (ad := aC) (z := z) eC) rfl rfl (Nat.le_of_ble_eq_true rfl) (Nat.le_of_ble_eq_true rfl) (Nat.le_of_ble_eq_true rfl) dL_law_721 (st1 := [.int r]) rfl ?_
  refine L_aload_n (pc := 724) h 2 rfl rfl dL_law_724 ?_
  refine L_callM (pc := 725) (st := [.int r]) h [] cvL_85 (c5_sweep (ad := aM) (z := z) eM) rfl rfl (Nat.le_of_ble_eq_true rfl) (Nat.le_of_ble_eq_true rfl) (Nat.le_of_ble_eq_true rfl) dL_law_725 (st1 := [.int r, .int r]) rfl ?_
  refine L_icmp_eq (pc := 728) (tgt := 1258) h dL_law_728 (by decide) ?_
  exact kk MC' MM' hR'
set_option maxHeartbeats 4000000 in
set_option maxRecDepth 10000 in
theorem law_c17 {z : ZZ} {aC aM : Nat → Nat} {p : Program} {e : Env} {s : State} {m : MethodId} {b L : Nat} {xs : Nat → Int32} {below : List Frame} {meth : Method} {c : Code} {fu : Nat} {Rel : Mem → Mem → Prop} (hs : Sims fu Rel) (h : LX z aC aM p s m b L xs meth c) {i : Nat} {MC MM : Mem} (hR : Rel MC MM) (hin1 : vp_in (nI i + 1) L) (hin2 : vp_in (nI i + 2) L) (hin3 : vp_in (nI i + 3) L) (hin4 : vp_in (nI i + 4) L) (hin5 : vp_in (nI i + 5) L)
    (kk : ∀ MC' MM', Rel MC' MM' → WL z aC aM p e s m b below meth c MC' MM' 1258 [(0, .ref b), (1, .ref (aC 28)), (2, .ref (aM 0)), (3, .int (nI i))] []) : WL z aC aM p e s m b below meth c MC MM 733 [(0, .ref b), (1, .ref (aC 28)), (2, .ref (aM 0)), (3, .int (nI i))] [] := by
  obtain ⟨r, MC', MM', eC, eM, hR'⟩ := (hs.2.2.2.2.2.2.2.2.2.2.2.2.2.2.2.2.2.1) MC MM (xs (nI i + 1).toNatClampNeg) hR
  refine L_aload_n (pc := 733) h 1 rfl rfl dL_law_733 ?_
  refine L_aload_n (pc := 734) h 0 rfl rfl dL_law_734 ?_
  refine L_iload_n (pc := 735) h 3 rfl rfl dL_law_735 ?_
  refine L_iconst (pc := 736) (v := 1) h (by decide) dL_law_736 ?_
  refine L_iadd (pc := 737) h dL_law_737 ?_
  refine L_sld (pc := 738) h hin1 dL_law_738 ?_
  refine L_callC (pc := 739) (st := []) h [.int (xs (nI i + 1).toNatClampNeg)] cvL_86 (c4_undo (ad := aC) (z := z) eC) rfl rfl (Nat.le_of_ble_eq_true rfl) (Nat.le_of_ble_eq_true rfl) (Nat.le_of_ble_eq_true rfl) dL_law_739 (st1 := [.int r]) rfl ?_
  refine L_aload_n (pc := 742) h 2 rfl rfl dL_law_742 ?_
  refine L_aload_n (pc := 743) h 0 rfl rfl dL_law_743 ?_
  refine L_iload_n (pc := 744) h 3 rfl rfl dL_law_744 ?_
  refine L_iconst (pc := 745) (v := 1) h (by decide) dL_law_745 ?_
  refine L_iadd (pc := 746) h dL_law_746 ?_
  refine L_sld (pc := 747) h hin1 dL_law_747 ?_
  refine L_callM (pc := 748) (st := [.int r]) h [.int (xs (nI i + 1).toNatClampNeg)] cvL_89 (c5_undo (ad := aM) (z := z) eM) rfl rfl (Nat.le_of_ble_eq_true rfl) (Nat.le_of_ble_eq_true rfl) (Nat.le_of_ble_eq_true rfl) dL_law_748 (st1 := [.int r, .int r]) rfl ?_
  refine L_icmp_eq (pc := 751) (tgt := 1258) h dL_law_751 (by decide) ?_
  exact kk MC' MM' hR'
set_option maxHeartbeats 4000000 in
set_option maxRecDepth 10000 in
theorem law_c18 {z : ZZ} {aC aM : Nat → Nat} {p : Program} {e : Env} {s : State} {m : MethodId} {b L : Nat} {xs : Nat → Int32} {below : List Frame} {meth : Method} {c : Code} {fu : Nat} {Rel : Mem → Mem → Prop} (hs : Sims fu Rel) (h : LX z aC aM p s m b L xs meth c) {i : Nat} {MC MM : Mem} (hR : Rel MC MM) (hin1 : vp_in (nI i + 1) L) (hin2 : vp_in (nI i + 2) L) (hin3 : vp_in (nI i + 3) L) (hin4 : vp_in (nI i + 4) L) (hin5 : vp_in (nI i + 5) L)
    (kk : ∀ MC' MM', Rel MC' MM' → WL z aC aM p e s m b below meth c MC' MM' 1258 [(0, .ref b), (1, .ref (aC 28)), (2, .ref (aM 0)), (3, .int (nI i))] []) : WL z aC aM p e s m b below meth c MC MM 756 [(0, .ref b), (1, .ref (aC 28)), (2, .ref (aM 0)), (3, .int (nI i))] [] := by
  obtain ⟨r, MC', MM', eC, eM, hR'⟩ := (hs.2.2.2.2.2.2.2.2.2.2.2.2.2.2.2.2.2.2.1) MC MM (xs (nI i + 1).toNatClampNeg) hR
  refine L_aload_n (pc := 756) h 1 rfl rfl dL_law_756 ?_
  refine L_aload_n (pc := 757) h 0 rfl rfl dL_law_757 ?_
  refine L_iload_n (pc := 758) h 3 rfl rfl dL_law_758 ?_
  refine L_iconst (pc := 759) (v := 1) h (by decide) dL_law_759 ?_
  refine L_iadd (pc := 760) h dL_law_760 ?_
  refine L_sld (pc := 761) h hin1 dL_law_761 ?_
  refine L_callC (pc := 762) (st := []) h [.int (xs (nI i + 1).toNatClampNeg)] cvL_90 (c4_keep (ad := aC) (z := z) eC) rfl rfl (Nat.le_of_ble_eq_true rfl) (Nat.le_of_ble_eq_true rfl) (Nat.le_of_ble_eq_true rfl) dL_law_762 (st1 := [.int r]) rfl ?_
  refine L_aload_n (pc := 765) h 2 rfl rfl dL_law_765 ?_
  refine L_aload_n (pc := 766) h 0 rfl rfl dL_law_766 ?_
  refine L_iload_n (pc := 767) h 3 rfl rfl dL_law_767 ?_
  refine L_iconst (pc := 768) (v := 1) h (by decide) dL_law_768 ?_
  refine L_iadd (pc := 769) h dL_law_769 ?_
  refine L_sld (pc := 770) h hin1 dL_law_770 ?_
  refine L_callM (pc := 771) (st := [.int r]) h [.int (xs (nI i + 1).toNatClampNeg)] cvL_93 (c5_keep (ad := aM) (z := z) eM) rfl rfl (Nat.le_of_ble_eq_true rfl) (Nat.le_of_ble_eq_true rfl) (Nat.le_of_ble_eq_true rfl) dL_law_771 (st1 := [.int r, .int r]) rfl ?_
  refine L_icmp_eq (pc := 774) (tgt := 1258) h dL_law_774 (by decide) ?_
  exact kk MC' MM' hR'
set_option maxHeartbeats 4000000 in
set_option maxRecDepth 10000 in
theorem law_c19 {z : ZZ} {aC aM : Nat → Nat} {p : Program} {e : Env} {s : State} {m : MethodId} {b L : Nat} {xs : Nat → Int32} {below : List Frame} {meth : Method} {c : Code} {fu : Nat} {Rel : Mem → Mem → Prop} (hs : Sims fu Rel) (h : LX z aC aM p s m b L xs meth c) {i : Nat} {MC MM : Mem} (hR : Rel MC MM) (hin1 : vp_in (nI i + 1) L) (hin2 : vp_in (nI i + 2) L) (hin3 : vp_in (nI i + 3) L) (hin4 : vp_in (nI i + 4) L) (hin5 : vp_in (nI i + 5) L)
    (kk : ∀ MC' MM', Rel MC' MM' → WL z aC aM p e s m b below meth c MC' MM' 1258 [(0, .ref b), (1, .ref (aC 28)), (2, .ref (aM 0)), (3, .int (nI i))] []) : WL z aC aM p e s m b below meth c MC MM 779 [(0, .ref b), (1, .ref (aC 28)), (2, .ref (aM 0)), (3, .int (nI i))] [] := by
  obtain ⟨r, MC', MM', eC, eM, hR'⟩ := (hs.2.2.2.2.2.2.2.2.2.2.2.2.2.2.2.2.2.2.2.1) MC MM (xs (nI i + 1).toNatClampNeg) hR
  refine L_aload_n (pc := 779) h 1 rfl rfl dL_law_779 ?_
  refine L_aload_n (pc := 780) h 0 rfl rfl dL_law_780 ?_
  refine L_iload_n (pc := 781) h 3 rfl rfl dL_law_781 ?_
  refine L_iconst (pc := 782) (v := 1) h (by decide) dL_law_782 ?_
  refine L_iadd (pc := 783) h dL_law_783 ?_
  refine L_sld (pc := 784) h hin1 dL_law_784 ?_
  refine L_callC (pc := 785) (st := []) h [.int (xs (nI i + 1).toNatClampNeg)] cvL_94 (c4_on (ad := aC) (z := z) eC) rfl rfl (Nat.le_of_ble_eq_true rfl) (Nat.le_of_ble_eq_true rfl) (Nat.le_of_ble_eq_true rfl) dL_law_785 (st1 := [.int r]) rfl ?_
  refine L_aload_n (pc := 788) h 2 rfl rfl dL_law_788 ?_
  refine L_aload_n (pc := 789) h 0 rfl rfl dL_law_789 ?_
  refine L_iload_n (pc := 790) h 3 rfl rfl dL_law_790 ?_
  refine L_iconst (pc := 791) (v := 1) h (by decide) dL_law_791 ?_
  refine L_iadd (pc := 792) h dL_law_792 ?_
  refine L_sld (pc := 793) h hin1 dL_law_793 ?_
  refine L_callM (pc := 794) (st := [.int r]) h [.int (xs (nI i + 1).toNatClampNeg)] cvL_97 (c5_on (ad := aM) (z := z) eM) rfl rfl (Nat.le_of_ble_eq_true rfl) (Nat.le_of_ble_eq_true rfl) (Nat.le_of_ble_eq_true rfl) dL_law_794 (st1 := [.int r, .int r]) rfl ?_
  refine L_icmp_eq (pc := 797) (tgt := 1258) h dL_law_797 (by decide) ?_
  exact kk MC' MM' hR'
set_option maxHeartbeats 4000000 in
set_option maxRecDepth 10000 in
theorem law_c20 {z : ZZ} {aC aM : Nat → Nat} {p : Program} {e : Env} {s : State} {m : MethodId} {b L : Nat} {xs : Nat → Int32} {below : List Frame} {meth : Method} {c : Code} {fu : Nat} {Rel : Mem → Mem → Prop} (hs : Sims fu Rel) (h : LX z aC aM p s m b L xs meth c) {i : Nat} {MC MM : Mem} (hR : Rel MC MM) (hin1 : vp_in (nI i + 1) L) (hin2 : vp_in (nI i + 2) L) (hin3 : vp_in (nI i + 3) L) (hin4 : vp_in (nI i + 4) L) (hin5 : vp_in (nI i + 5) L)
    (kk : ∀ MC' MM', Rel MC' MM' → WL z aC aM p e s m b below meth c MC' MM' 1258 [(0, .ref b), (1, .ref (aC 28)), (2, .ref (aM 0)), (3, .int (nI i))] []) : WL z aC aM p e s m b below meth c MC MM 802 [(0, .ref b), (1, .ref (aC 28)), (2, .ref (aM 0)), (3, .int (nI i))] [] := by
  obtain ⟨r, MC', MM', eC, eM, hR'⟩ := (hs.2.2.2.2.2.2.2.2.2.2.2.2.2.2.2.2.2.2.2.2.1) MC MM  hR
  refine L_aload_n (pc := 802) h 1 rfl rfl dL_law_802 ?_
  refine L_callC (pc := 803) (st := []) h [] cvL_98 (c4_busy (ad := aC) (z := z) eC) rfl rfl (Nat.le_of_ble_eq_true rfl) (Nat.le_of_ble_eq_true rfl) (Nat.le_of_ble_eq_true rfl) dL_law_803 (st1 := [.int r]) rfl ?_
  refine L_aload_n (pc := 806) h 2 rfl rfl dL_law_806 ?_
  refine L_callM (pc := 807) (st := [.int r]) h [] cvL_101 (c5_busy (ad := aM) (z := z) eM) rfl rfl (Nat.le_of_ble_eq_true rfl) (Nat.le_of_ble_eq_true rfl) (Nat.le_of_ble_eq_true rfl) dL_law_807 (st1 := [.int r, .int r]) rfl ?_
  refine L_icmp_eq (pc := 810) (tgt := 1258) h dL_law_810 (by decide) ?_
  exact kk MC' MM' hR'
set_option maxHeartbeats 4000000 in
set_option maxRecDepth 10000 in
theorem law_c21 {z : ZZ} {aC aM : Nat → Nat} {p : Program} {e : Env} {s : State} {m : MethodId} {b L : Nat} {xs : Nat → Int32} {below : List Frame} {meth : Method} {c : Code} {fu : Nat} {Rel : Mem → Mem → Prop} (hs : Sims fu Rel) (h : LX z aC aM p s m b L xs meth c) {i : Nat} {MC MM : Mem} (hR : Rel MC MM) (hin1 : vp_in (nI i + 1) L) (hin2 : vp_in (nI i + 2) L) (hin3 : vp_in (nI i + 3) L) (hin4 : vp_in (nI i + 4) L) (hin5 : vp_in (nI i + 5) L)
    (kk : ∀ MC' MM', Rel MC' MM' → WL z aC aM p e s m b below meth c MC' MM' 1258 [(0, .ref b), (1, .ref (aC 28)), (2, .ref (aM 0)), (3, .int (nI i))] []) : WL z aC aM p e s m b below meth c MC MM 815 [(0, .ref b), (1, .ref (aC 28)), (2, .ref (aM 0)), (3, .int (nI i))] [] := by
  obtain ⟨r, MC', MM', eC, eM, hR'⟩ := (hs.2.2.2.2.2.2.2.2.2.2.2.2.2.2.2.2.2.2.2.2.2.1) MC MM  hR
  refine L_aload_n (pc := 815) h 1 rfl rfl dL_law_815 ?_
  refine L_callC (pc := 816) (st := []) h [] cvL_102 (c4_clashes (ad := aC) (z := z) eC) rfl rfl (Nat.le_of_ble_eq_true rfl) (Nat.le_of_ble_eq_true rfl) (Nat.le_of_ble_eq_true rfl) dL_law_816 (st1 := [.int r]) rfl ?_
  refine L_aload_n (pc := 819) h 2 rfl rfl dL_law_819 ?_
  refine L_callM (pc := 820) (st := [.int r]) h [] cvL_105 (c5_clashes (ad := aM) (z := z) eM) rfl rfl (Nat.le_of_ble_eq_true rfl) (Nat.le_of_ble_eq_true rfl) (Nat.le_of_ble_eq_true rfl) dL_law_820 (st1 := [.int r, .int r]) rfl ?_
  refine L_icmp_eq (pc := 823) (tgt := 1258) h dL_law_823 (by decide) ?_
  exact kk MC' MM' hR'
set_option maxHeartbeats 4000000 in
set_option maxRecDepth 10000 in
theorem law_c22 {z : ZZ} {aC aM : Nat → Nat} {p : Program} {e : Env} {s : State} {m : MethodId} {b L : Nat} {xs : Nat → Int32} {below : List Frame} {meth : Method} {c : Code} {fu : Nat} {Rel : Mem → Mem → Prop} (hs : Sims fu Rel) (h : LX z aC aM p s m b L xs meth c) {i : Nat} {MC MM : Mem} (hR : Rel MC MM) (hin1 : vp_in (nI i + 1) L) (hin2 : vp_in (nI i + 2) L) (hin3 : vp_in (nI i + 3) L) (hin4 : vp_in (nI i + 4) L) (hin5 : vp_in (nI i + 5) L)
    (kk : ∀ MC' MM', Rel MC' MM' → WL z aC aM p e s m b below meth c MC' MM' 1258 [(0, .ref b), (1, .ref (aC 28)), (2, .ref (aM 0)), (3, .int (nI i))] []) : WL z aC aM p e s m b below meth c MC MM 828 [(0, .ref b), (1, .ref (aC 28)), (2, .ref (aM 0)), (3, .int (nI i))] [] := by
  obtain ⟨r, MC', MM', eC, eM, hR'⟩ := (hs.2.2.2.2.2.2.2.2.2.2.2.2.2.2.2.2.2.2.2.2.2.2.1) MC MM  hR
  refine L_aload_n (pc := 828) h 1 rfl rfl dL_law_828 ?_
  refine L_callC (pc := 829) (st := []) h [] cvL_106 (c4_least (ad := aC) (z := z) eC) rfl rfl (Nat.le_of_ble_eq_true rfl) (Nat.le_of_ble_eq_true rfl) (Nat.le_of_ble_eq_true rfl) dL_law_829 (st1 := [.int r]) rfl ?_
  refine L_aload_n (pc := 832) h 2 rfl rfl dL_law_832 ?_
  refine L_callM (pc := 833) (st := [.int r]) h [] cvL_109 (c5_least (ad := aM) (z := z) eM) rfl rfl (Nat.le_of_ble_eq_true rfl) (Nat.le_of_ble_eq_true rfl) (Nat.le_of_ble_eq_true rfl) dL_law_833 (st1 := [.int r, .int r]) rfl ?_
  refine L_icmp_eq (pc := 836) (tgt := 1258) h dL_law_836 (by decide) ?_
  exact kk MC' MM' hR'
set_option maxHeartbeats 4000000 in
set_option maxRecDepth 10000 in
theorem law_c23 {z : ZZ} {aC aM : Nat → Nat} {p : Program} {e : Env} {s : State} {m : MethodId} {b L : Nat} {xs : Nat → Int32} {below : List Frame} {meth : Method} {c : Code} {fu : Nat} {Rel : Mem → Mem → Prop} (hs : Sims fu Rel) (h : LX z aC aM p s m b L xs meth c) {i : Nat} {MC MM : Mem} (hR : Rel MC MM) (hin1 : vp_in (nI i + 1) L) (hin2 : vp_in (nI i + 2) L) (hin3 : vp_in (nI i + 3) L) (hin4 : vp_in (nI i + 4) L) (hin5 : vp_in (nI i + 5) L)
    (kk : ∀ MC' MM', Rel MC' MM' → WL z aC aM p e s m b below meth c MC' MM' 1258 [(0, .ref b), (1, .ref (aC 28)), (2, .ref (aM 0)), (3, .int (nI i))] []) : WL z aC aM p e s m b below meth c MC MM 841 [(0, .ref b), (1, .ref (aC 28)), (2, .ref (aM 0)), (3, .int (nI i))] [] := by
  obtain ⟨r, MC', MM', eC, eM, hR'⟩ := (hs.2.2.2.2.2.2.2.2.2.2.2.2.2.2.2.2.2.2.2.2.2.2.2.1) MC MM (xs (nI i + 1).toNatClampNeg) hR
  refine L_aload_n (pc := 841) h 1 rfl rfl dL_law_841 ?_
  refine L_aload_n (pc := 842) h 0 rfl rfl dL_law_842 ?_
  refine L_iload_n (pc := 843) h 3 rfl rfl dL_law_843 ?_
  refine L_iconst (pc := 844) (v := 1) h (by decide) dL_law_844 ?_
  refine L_iadd (pc := 845) h dL_law_845 ?_
  refine L_sld (pc := 846) h hin1 dL_law_846 ?_
  refine L_callC (pc := 847) (st := []) h [.int (xs (nI i + 1).toNatClampNeg)] cvL_110 (c4_best (ad := aC) (z := z) eC) rfl rfl (Nat.le_of_ble_eq_true rfl) (Nat.le_of_ble_eq_true rfl) (Nat.le_of_ble_eq_true rfl) dL_law_847 (st1 := [.int r]) rfl ?_
  refine L_aload_n (pc := 850) h 2 rfl rfl dL_law_850 ?_
  refine L_aload_n (pc := 851) h 0 rfl rfl dL_law_851 ?_
  refine L_iload_n (pc := 852) h 3 rfl rfl dL_law_852 ?_
  refine L_iconst (pc := 853) (v := 1) h (by decide) dL_law_853 ?_
  refine L_iadd (pc := 854) h dL_law_854 ?_
  refine L_sld (pc := 855) h hin1 dL_law_855 ?_
  refine L_callM (pc := 856) (st := [.int r]) h [.int (xs (nI i + 1).toNatClampNeg)] cvL_113 (c5_best (ad := aM) (z := z) eM) rfl rfl (Nat.le_of_ble_eq_true rfl) (Nat.le_of_ble_eq_true rfl) (Nat.le_of_ble_eq_true rfl) dL_law_856 (st1 := [.int r, .int r]) rfl ?_
  refine L_icmp_eq (pc := 859) (tgt := 1258) h dL_law_859 (by decide) ?_
  exact kk MC' MM' hR'
set_option maxHeartbeats 4000000 in
set_option maxRecDepth 10000 in
theorem law_c24 {z : ZZ} {aC aM : Nat → Nat} {p : Program} {e : Env} {s : State} {m : MethodId} {b L : Nat} {xs : Nat → Int32} {below : List Frame} {meth : Method} {c : Code} {fu : Nat} {Rel : Mem → Mem → Prop} (hs : Sims fu Rel) (h : LX z aC aM p s m b L xs meth c) {i : Nat} {MC MM : Mem} (hR : Rel MC MM) (hin1 : vp_in (nI i + 1) L) (hin2 : vp_in (nI i + 2) L) (hin3 : vp_in (nI i + 3) L) (hin4 : vp_in (nI i + 4) L) (hin5 : vp_in (nI i + 5) L)
    (kk : ∀ MC' MM', Rel MC' MM' → WL z aC aM p e s m b below meth c MC' MM' 1258 [(0, .ref b), (1, .ref (aC 28)), (2, .ref (aM 0)), (3, .int (nI i))] []) : WL z aC aM p e s m b below meth c MC MM 864 [(0, .ref b), (1, .ref (aC 28)), (2, .ref (aM 0)), (3, .int (nI i))] [] := by
  obtain ⟨r, MC', MM', eC, eM, hR'⟩ := (hs.2.2.2.2.2.2.2.2.2.2.2.2.2.2.2.2.2.2.2.2.2.2.2.2.1) MC MM (xs (nI i + 1).toNatClampNeg) hR
  refine L_aload_n (pc := 864) h 1 rfl rfl dL_law_864 ?_
  refine L_aload_n (pc := 865) h 0 rfl rfl dL_law_865 ?_
  refine L_iload_n (pc := 866) h 3 rfl rfl dL_law_866 ?_
  refine L_iconst (pc := 867) (v := 1) h (by decide) dL_law_867 ?_
  refine L_iadd (pc := 868) h dL_law_868 ?_
  refine L_sld (pc := 869) h hin1 dL_law_869 ?_
  refine L_callC (pc := 870) (st := []) h [.int (xs (nI i + 1).toNatClampNeg)] cvL_114 (c4_walk (ad := aC) (z := z) eC) rfl rfl (Nat.le_of_ble_eq_true rfl) (Nat.le_of_ble_eq_true rfl) (Nat.le_of_ble_eq_true rfl) dL_law_870 (st1 := [.int r]) rfl ?_
  refine L_aload_n (pc := 873) h 2 rfl rfl dL_law_873 ?_
  refine L_aload_n (pc := 874) h 0 rfl rfl dL_law_874 ?_
  refine L_iload_n (pc := 875) h 3 rfl rfl dL_law_875 ?_
  refine L_iconst (pc := 876) (v := 1) h (by decide) dL_law_876 ?_
  refine L_iadd (pc := 877) h dL_law_877 ?_
  refine L_sld (pc := 878) h hin1 dL_law_878 ?_
  refine L_callM (pc := 879) (st := [.int r]) h [.int (xs (nI i + 1).toNatClampNeg)] cvL_117 (c5_walk (ad := aM) (z := z) eM) rfl rfl (Nat.le_of_ble_eq_true rfl) (Nat.le_of_ble_eq_true rfl) (Nat.le_of_ble_eq_true rfl) dL_law_879 (st1 := [.int r, .int r]) rfl ?_
  refine L_icmp_eq (pc := 882) (tgt := 1258) h dL_law_882 (by decide) ?_
  exact kk MC' MM' hR'
set_option maxHeartbeats 4000000 in
set_option maxRecDepth 10000 in
theorem law_c25 {z : ZZ} {aC aM : Nat → Nat} {p : Program} {e : Env} {s : State} {m : MethodId} {b L : Nat} {xs : Nat → Int32} {below : List Frame} {meth : Method} {c : Code} {fu : Nat} {Rel : Mem → Mem → Prop} (hs : Sims fu Rel) (h : LX z aC aM p s m b L xs meth c) {i : Nat} {MC MM : Mem} (hR : Rel MC MM) (hin1 : vp_in (nI i + 1) L) (hin2 : vp_in (nI i + 2) L) (hin3 : vp_in (nI i + 3) L) (hin4 : vp_in (nI i + 4) L) (hin5 : vp_in (nI i + 5) L)
    (kk : ∀ MC' MM', Rel MC' MM' → WL z aC aM p e s m b below meth c MC' MM' 1258 [(0, .ref b), (1, .ref (aC 28)), (2, .ref (aM 0)), (3, .int (nI i))] []) : WL z aC aM p e s m b below meth c MC MM 887 [(0, .ref b), (1, .ref (aC 28)), (2, .ref (aM 0)), (3, .int (nI i))] [] := by
  obtain ⟨r, MC', MM', eC, eM, hR'⟩ := (hs.2.2.2.2.2.2.2.2.2.2.2.2.2.2.2.2.2.2.2.2.2.2.2.2.2.1) MC MM (xs (nI i + 1).toNatClampNeg) hR
  refine L_aload_n (pc := 887) h 1 rfl rfl dL_law_887 ?_
  refine L_aload_n (pc := 888) h 0 rfl rfl dL_law_888 ?_
  refine L_iload_n (pc := 889) h 3 rfl rfl dL_law_889 ?_
  refine L_iconst (pc := 890) (v := 1) h (by decide) dL_law_890 ?_
  refine L_iadd (pc := 891) h dL_law_891 ?_
  refine L_sld (pc := 892) h hin1 dL_law_892 ?_
  refine L_callC (pc := 893) (st := []) h [.int (xs (nI i + 1).toNatClampNeg)] cvL_118 (c4_within (ad := aC) (z := z) eC) rfl rfl (Nat.le_of_ble_eq_true rfl) (Nat.le_of_ble_eq_true rfl) (Nat.le_of_ble_eq_true rfl) dL_law_893 (st1 := [.int r]) rfl ?_
  refine L_aload_n (pc := 896) h 2 rfl rfl dL_law_896 ?_
  refine L_aload_n (pc := 897) h 0 rfl rfl dL_law_897 ?_
  refine L_iload_n (pc := 898) h 3 rfl rfl dL_law_898 ?_
  refine L_iconst (pc := 899) (v := 1) h (by decide) dL_law_899 ?_
  refine L_iadd (pc := 900) h dL_law_900 ?_
  refine L_sld (pc := 901) h hin1 dL_law_901 ?_
  refine L_callM (pc := 902) (st := [.int r]) h [.int (xs (nI i + 1).toNatClampNeg)] cvL_121 (c5_within (ad := aM) (z := z) eM) rfl rfl (Nat.le_of_ble_eq_true rfl) (Nat.le_of_ble_eq_true rfl) (Nat.le_of_ble_eq_true rfl) dL_law_902 (st1 := [.int r, .int r]) rfl ?_
  refine L_icmp_eq (pc := 905) (tgt := 1258) h dL_law_905 (by decide) ?_
  exact kk MC' MM' hR'
set_option maxHeartbeats 4000000 in
set_option maxRecDepth 10000 in
theorem law_c26 {z : ZZ} {aC aM : Nat → Nat} {p : Program} {e : Env} {s : State} {m : MethodId} {b L : Nat} {xs : Nat → Int32} {below : List Frame} {meth : Method} {c : Code} {fu : Nat} {Rel : Mem → Mem → Prop} (hs : Sims fu Rel) (h : LX z aC aM p s m b L xs meth c) {i : Nat} {MC MM : Mem} (hR : Rel MC MM) (hin1 : vp_in (nI i + 1) L) (hin2 : vp_in (nI i + 2) L) (hin3 : vp_in (nI i + 3) L) (hin4 : vp_in (nI i + 4) L) (hin5 : vp_in (nI i + 5) L)
    (kk : ∀ MC' MM', Rel MC' MM' → WL z aC aM p e s m b below meth c MC' MM' 1258 [(0, .ref b), (1, .ref (aC 28)), (2, .ref (aM 0)), (3, .int (nI i))] []) : WL z aC aM p e s m b below meth c MC MM 910 [(0, .ref b), (1, .ref (aC 28)), (2, .ref (aM 0)), (3, .int (nI i))] [] := by
  obtain ⟨r, MC', MM', eC, eM, hR'⟩ := (hs.2.2.2.2.2.2.2.2.2.2.2.2.2.2.2.2.2.2.2.2.2.2.2.2.2.2.1) MC MM (xs (nI i + 1).toNatClampNeg) hR
  refine L_aload_n (pc := 910) h 1 rfl rfl dL_law_910 ?_
  refine L_aload_n (pc := 911) h 0 rfl rfl dL_law_911 ?_
  refine L_iload_n (pc := 912) h 3 rfl rfl dL_law_912 ?_
  refine L_iconst (pc := 913) (v := 1) h (by decide) dL_law_913 ?_
  refine L_iadd (pc := 914) h dL_law_914 ?_
  refine L_sld (pc := 915) h hin1 dL_law_915 ?_
  refine L_callC (pc := 916) (st := []) h [.int (xs (nI i + 1).toNatClampNeg)] cvL_122 (c4_whose (ad := aC) (z := z) eC) rfl rfl (Nat.le_of_ble_eq_true rfl) (Nat.le_of_ble_eq_true rfl) (Nat.le_of_ble_eq_true rfl) dL_law_916 (st1 := [.int r]) rfl ?_
  refine L_aload_n (pc := 919) h 2 rfl rfl dL_law_919 ?_
  refine L_aload_n (pc := 920) h 0 rfl rfl dL_law_920 ?_
  refine L_iload_n (pc := 921) h 3 rfl rfl dL_law_921 ?_
  refine L_iconst (pc := 922) (v := 1) h (by decide) dL_law_922 ?_
  refine L_iadd (pc := 923) h dL_law_923 ?_
  refine L_sld (pc := 924) h hin1 dL_law_924 ?_
  refine L_callM (pc := 925) (st := [.int r]) h [.int (xs (nI i + 1).toNatClampNeg)] cvL_125 (c5_whose (ad := aM) (z := z) eM) rfl rfl (Nat.le_of_ble_eq_true rfl) (Nat.le_of_ble_eq_true rfl) (Nat.le_of_ble_eq_true rfl) dL_law_925 (st1 := [.int r, .int r]) rfl ?_
  refine L_icmp_eq (pc := 928) (tgt := 1258) h dL_law_928 (by decide) ?_
  exact kk MC' MM' hR'
set_option maxHeartbeats 4000000 in
set_option maxRecDepth 10000 in
theorem law_c27 {z : ZZ} {aC aM : Nat → Nat} {p : Program} {e : Env} {s : State} {m : MethodId} {b L : Nat} {xs : Nat → Int32} {below : List Frame} {meth : Method} {c : Code} {fu : Nat} {Rel : Mem → Mem → Prop} (hs : Sims fu Rel) (h : LX z aC aM p s m b L xs meth c) {i : Nat} {MC MM : Mem} (hR : Rel MC MM) (hin1 : vp_in (nI i + 1) L) (hin2 : vp_in (nI i + 2) L) (hin3 : vp_in (nI i + 3) L) (hin4 : vp_in (nI i + 4) L) (hin5 : vp_in (nI i + 5) L)
    (kk : ∀ MC' MM', Rel MC' MM' → WL z aC aM p e s m b below meth c MC' MM' 1258 [(0, .ref b), (1, .ref (aC 28)), (2, .ref (aM 0)), (3, .int (nI i))] []) : WL z aC aM p e s m b below meth c MC MM 933 [(0, .ref b), (1, .ref (aC 28)), (2, .ref (aM 0)), (3, .int (nI i))] [] := by
  obtain ⟨r, MC', MM', eC, eM, hR'⟩ := (hs.2.2.2.2.2.2.2.2.2.2.2.2.2.2.2.2.2.2.2.2.2.2.2.2.2.2.2.1) MC MM (xs (nI i + 1).toNatClampNeg) (xs (nI i + 2).toNatClampNeg) hR
  refine L_aload_n (pc := 933) h 1 rfl rfl dL_law_933 ?_
  refine L_aload_n (pc := 934) h 0 rfl rfl dL_law_934 ?_
  refine L_iload_n (pc := 935) h 3 rfl rfl dL_law_935 ?_
  refine L_iconst (pc := 936) (v := 1) h (by decide) dL_law_936 ?_
  refine L_iadd (pc := 937) h dL_law_937 ?_
  refine L_sld (pc := 938) h hin1 dL_law_938 ?_
  refine L_aload_n (pc := 939) h 0 rfl rfl dL_law_939 ?_
  refine L_iload_n (pc := 940) h 3 rfl rfl dL_law_940 ?_
  refine L_iconst (pc := 941) (v := 2) h (by decide) dL_law_941 ?_
  refine L_iadd (pc := 942) h dL_law_942 ?_
  refine L_sld (pc := 943) h hin2 dL_law_943 ?_
  refine L_callC (pc := 944) (st := []) h [.int (xs (nI i + 1).toNatClampNeg), .int (xs (nI i + 2).toNatClampNeg)] cvL_126 (c4_kinds (ad := aC) (z := z) eC) rfl rfl (Nat.le_of_ble_eq_true rfl) (Nat.le_of_ble_eq_true rfl) (Nat.le_of_ble_eq_true rfl) dL_law_944 (st1 := [.int r]) rfl ?_
  refine L_aload_n (pc := 947) h 2 rfl rfl dL_law_947 ?_
  refine L_aload_n (pc := 948) h 0 rfl rfl dL_law_948 ?_
  refine L_iload_n (pc := 949) h 3 rfl rfl dL_law_949 ?_
  refine L_iconst (pc := 950) (v := 1) h (by decide) dL_law_950 ?_
  refine L_iadd (pc := 951) h dL_law_951 ?_
  refine L_sld (pc := 952) h hin1 dL_law_952 ?_
  refine L_aload_n (pc := 953) h 0 rfl rfl dL_law_953 ?_
  refine L_iload_n (pc := 954) h 3 rfl rfl dL_law_954 ?_
  refine L_iconst (pc := 955) (v := 2) h (by decide) dL_law_955 ?_
  refine L_iadd (pc := 956) h dL_law_956 ?_
  refine L_sld (pc := 957) h hin2 dL_law_957 ?_
  refine L_callM (pc := 958) (st := [.int r]) h [.int (xs (nI i + 1).toNatClampNeg), .int (xs (nI i + 2).toNatClampNeg)] cvL_129 (c5_kinds (ad := aM) (z := z) eM) rfl rfl (Nat.le_of_ble_eq_true rfl) (Nat.le_of_ble_eq_true rfl) (Nat.le_of_ble_eq_true rfl) dL_law_958 (st1 := [.int r, .int r]) rfl ?_
  refine L_icmp_eq (pc := 961) (tgt := 1258) h dL_law_961 (by decide) ?_
  exact kk MC' MM' hR'
set_option maxHeartbeats 4000000 in
set_option maxRecDepth 10000 in
theorem law_c28 {z : ZZ} {aC aM : Nat → Nat} {p : Program} {e : Env} {s : State} {m : MethodId} {b L : Nat} {xs : Nat → Int32} {below : List Frame} {meth : Method} {c : Code} {fu : Nat} {Rel : Mem → Mem → Prop} (hs : Sims fu Rel) (h : LX z aC aM p s m b L xs meth c) {i : Nat} {MC MM : Mem} (hR : Rel MC MM) (hin1 : vp_in (nI i + 1) L) (hin2 : vp_in (nI i + 2) L) (hin3 : vp_in (nI i + 3) L) (hin4 : vp_in (nI i + 4) L) (hin5 : vp_in (nI i + 5) L)
    (kk : ∀ MC' MM', Rel MC' MM' → WL z aC aM p e s m b below meth c MC' MM' 1258 [(0, .ref b), (1, .ref (aC 28)), (2, .ref (aM 0)), (3, .int (nI i))] []) : WL z aC aM p e s m b below meth c MC MM 966 [(0, .ref b), (1, .ref (aC 28)), (2, .ref (aM 0)), (3, .int (nI i))] [] := by
  obtain ⟨r, MC', MM', eC, eM, hR'⟩ := (hs.2.2.2.2.2.2.2.2.2.2.2.2.2.2.2.2.2.2.2.2.2.2.2.2.2.2.2.2.1) MC MM (xs (nI i + 1).toNatClampNeg) (xs (nI i + 2).toNatClampNeg) hR
  refine L_aload_n (pc := 966) h 1 rfl rfl dL_law_966 ?_
  refine L_aload_n (pc := 967) h 0 rfl rfl dL_law_967 ?_
  refine L_iload_n (pc := 968) h 3 rfl rfl dL_law_968 ?_
  refine L_iconst (pc := 969) (v := 1) h (by decide) dL_law_969 ?_
  refine L_iadd (pc := 970) h dL_law_970 ?_
  refine L_sld (pc := 971) h hin1 dL_law_971 ?_
  refine L_aload_n (pc := 972) h 0 rfl rfl dL_law_972 ?_
  refine L_iload_n (pc := 973) h 3 rfl rfl dL_law_973 ?_
  refine L_iconst (pc := 974) (v := 2) h (by decide) dL_law_974 ?_
  refine L_iadd (pc := 975) h dL_law_975 ?_
  refine L_sld (pc := 976) h hin2 dL_law_976 ?_
  refine L_callC (pc := 977) (st := []) h [.int (xs (nI i + 1).toNatClampNeg), .int (xs (nI i + 2).toNatClampNeg)] cvL_130 (c4_test (ad := aC) (z := z) eC) rfl rfl (Nat.le_of_ble_eq_true rfl) (Nat.le_of_ble_eq_true rfl) (Nat.le_of_ble_eq_true rfl) dL_law_977 (st1 := [.int r]) rfl ?_
  refine L_aload_n (pc := 980) h 2 rfl rfl dL_law_980 ?_
  refine L_aload_n (pc := 981) h 0 rfl rfl dL_law_981 ?_
  refine L_iload_n (pc := 982) h 3 rfl rfl dL_law_982 ?_
  refine L_iconst (pc := 983) (v := 1) h (by decide) dL_law_983 ?_
  refine L_iadd (pc := 984) h dL_law_984 ?_
  refine L_sld (pc := 985) h hin1 dL_law_985 ?_
  refine L_aload_n (pc := 986) h 0 rfl rfl dL_law_986 ?_
  refine L_iload_n (pc := 987) h 3 rfl rfl dL_law_987 ?_
  refine L_iconst (pc := 988) (v := 2) h (by decide) dL_law_988 ?_
  refine L_iadd (pc := 989) h dL_law_989 ?_
  refine L_sld (pc := 990) h hin2 dL_law_990 ?_
  refine L_callM (pc := 991) (st := [.int r]) h [.int (xs (nI i + 1).toNatClampNeg), .int (xs (nI i + 2).toNatClampNeg)] cvL_133 (c5_test (ad := aM) (z := z) eM) rfl rfl (Nat.le_of_ble_eq_true rfl) (Nat.le_of_ble_eq_true rfl) (Nat.le_of_ble_eq_true rfl) dL_law_991 (st1 := [.int r, .int r]) rfl ?_
  refine L_icmp_eq (pc := 994) (tgt := 1258) h dL_law_994 (by decide) ?_
  exact kk MC' MM' hR'
set_option maxHeartbeats 4000000 in
set_option maxRecDepth 10000 in
theorem law_c29 {z : ZZ} {aC aM : Nat → Nat} {p : Program} {e : Env} {s : State} {m : MethodId} {b L : Nat} {xs : Nat → Int32} {below : List Frame} {meth : Method} {c : Code} {fu : Nat} {Rel : Mem → Mem → Prop} (hs : Sims fu Rel) (h : LX z aC aM p s m b L xs meth c) {i : Nat} {MC MM : Mem} (hR : Rel MC MM) (hin1 : vp_in (nI i + 1) L) (hin2 : vp_in (nI i + 2) L) (hin3 : vp_in (nI i + 3) L) (hin4 : vp_in (nI i + 4) L) (hin5 : vp_in (nI i + 5) L)
    (kk : ∀ MC' MM', Rel MC' MM' → WL z aC aM p e s m b below meth c MC' MM' 1258 [(0, .ref b), (1, .ref (aC 28)), (2, .ref (aM 0)), (3, .int (nI i))] []) : WL z aC aM p e s m b below meth c MC MM 999 [(0, .ref b), (1, .ref (aC 28)), (2, .ref (aM 0)), (3, .int (nI i))] [] := by
  obtain ⟨r, eC, eM, hR'⟩ := (hs.2.2.2.2.2.2.2.2.2.2.2.2.2.2.2.2.2.2.2.2.2.2.2.2.2.2.2.2.2.1) MC MM (xs (nI i + 1).toNatClampNeg) (xs (nI i + 2).toNatClampNeg) hR
  refine L_aload_n (pc := 999) h 1 rfl rfl dL_law_999 ?_
  refine L_aload_n (pc := 1000) h 0 rfl rfl dL_law_1000 ?_
  refine L_iload_n (pc := 1001) h 3 rfl rfl dL_law_1001 ?_
  refine L_iconst (pc := 1002) (v := 1) h (by decide) dL_law_1002 ?_
  refine L_iadd (pc := 1003) h dL_law_1003 ?_
  refine L_sld (pc := 1004) h hin1 dL_law_1004 ?_
  refine L_aload_n (pc := 1005) h 0 rfl rfl dL_law_1005 ?_
  refine L_iload_n (pc := 1006) h 3 rfl rfl dL_law_1006 ?_
  refine L_iconst (pc := 1007) (v := 2) h (by decide) dL_law_1007 ?_
  refine L_iadd (pc := 1008) h dL_law_1008 ?_
  refine L_sld (pc := 1009) h hin2 dL_law_1009 ?_
  refine L_callC (pc := 1010) (st := []) h [.int (xs (nI i + 1).toNatClampNeg), .int (xs (nI i + 2).toNatClampNeg)] cvL_134 (c4_lucks (ad := aC) (z := z) eC) rfl rfl (Nat.le_of_ble_eq_true rfl) (Nat.le_of_ble_eq_true rfl) (Nat.le_of_ble_eq_true rfl) dL_law_1010 (st1 := [.int r]) rfl ?_
  refine L_aload_n (pc := 1013) h 2 rfl rfl dL_law_1013 ?_
  refine L_aload_n (pc := 1014) h 0 rfl rfl dL_law_1014 ?_
  refine L_iload_n (pc := 1015) h 3 rfl rfl dL_law_1015 ?_
  refine L_iconst (pc := 1016) (v := 1) h (by decide) dL_law_1016 ?_
  refine L_iadd (pc := 1017) h dL_law_1017 ?_
  refine L_sld (pc := 1018) h hin1 dL_law_1018 ?_
  refine L_aload_n (pc := 1019) h 0 rfl rfl dL_law_1019 ?_
  refine L_iload_n (pc := 1020) h 3 rfl rfl dL_law_1020 ?_
  refine L_iconst (pc := 1021) (v := 2) h (by decide) dL_law_1021 ?_
  refine L_iadd (pc := 1022) h dL_law_1022 ?_
  refine L_sld (pc := 1023) h hin2 dL_law_1023 ?_
  refine L_callM (pc := 1024) (st := [.int r]) h [.int (xs (nI i + 1).toNatClampNeg), .int (xs (nI i + 2).toNatClampNeg)] cvL_137 (c5_lucks (ad := aM) (z := z) eM) rfl rfl (Nat.le_of_ble_eq_true rfl) (Nat.le_of_ble_eq_true rfl) (Nat.le_of_ble_eq_true rfl) dL_law_1024 (st1 := [.int r, .int r]) rfl ?_
  refine L_icmp_eq (pc := 1027) (tgt := 1258) h dL_law_1027 (by decide) ?_
  exact kk MC MM hR'
set_option maxHeartbeats 4000000 in
set_option maxRecDepth 10000 in
theorem law_c30 {z : ZZ} {aC aM : Nat → Nat} {p : Program} {e : Env} {s : State} {m : MethodId} {b L : Nat} {xs : Nat → Int32} {below : List Frame} {meth : Method} {c : Code} {fu : Nat} {Rel : Mem → Mem → Prop} (hs : Sims fu Rel) (h : LX z aC aM p s m b L xs meth c) {i : Nat} {MC MM : Mem} (hR : Rel MC MM) (hin1 : vp_in (nI i + 1) L) (hin2 : vp_in (nI i + 2) L) (hin3 : vp_in (nI i + 3) L) (hin4 : vp_in (nI i + 4) L) (hin5 : vp_in (nI i + 5) L)
    (kk : ∀ MC' MM', Rel MC' MM' → WL z aC aM p e s m b below meth c MC' MM' 1258 [(0, .ref b), (1, .ref (aC 28)), (2, .ref (aM 0)), (3, .int (nI i))] []) : WL z aC aM p e s m b below meth c MC MM 1032 [(0, .ref b), (1, .ref (aC 28)), (2, .ref (aM 0)), (3, .int (nI i))] [] := by
  obtain ⟨r, MM', eC, eM, hR'⟩ := (hs.2.2.2.2.2.2.2.2.2.2.2.2.2.2.2.2.2.2.2.2.2.2.2.2.2.2.2.2.2.2.1) MC MM (xs (nI i + 1).toNatClampNeg) hR
  refine L_aload_n (pc := 1032) h 1 rfl rfl dL_law_1032 ?_
  refine L_aload_n (pc := 1033) h 0 rfl rfl dL_law_1033 ?_
  refine L_iload_n (pc := 1034) h 3 rfl rfl dL_law_1034 ?_
  refine L_iconst (pc := 1035) (v := 1) h (by decide) dL_law_1035 ?_
  refine L_iadd (pc := 1036) h dL_law_1036 ?_
  refine L_sld (pc := 1037) h hin1 dL_law_1037 ?_
  refine L_callC (pc := 1038) (st := []) h [.int (xs (nI i + 1).toNatClampNeg)] cvL_138 (c4_duel (ad := aC) (z := z) eC) rfl rfl (Nat.le_of_ble_eq_true rfl) (Nat.le_of_ble_eq_true rfl) (Nat.le_of_ble_eq_true rfl) dL_law_1038 (st1 := [.int r]) rfl ?_
  refine L_aload_n (pc := 1041) h 2 rfl rfl dL_law_1041 ?_
  refine L_aload_n (pc := 1042) h 0 rfl rfl dL_law_1042 ?_
  refine L_iload_n (pc := 1043) h 3 rfl rfl dL_law_1043 ?_
  refine L_iconst (pc := 1044) (v := 1) h (by decide) dL_law_1044 ?_
  refine L_iadd (pc := 1045) h dL_law_1045 ?_
  refine L_sld (pc := 1046) h hin1 dL_law_1046 ?_
  refine L_callM (pc := 1047) (st := [.int r]) h [.int (xs (nI i + 1).toNatClampNeg)] cvL_141 (c5_duel (ad := aM) (z := z) eM) rfl rfl (Nat.le_of_ble_eq_true rfl) (Nat.le_of_ble_eq_true rfl) (Nat.le_of_ble_eq_true rfl) dL_law_1047 (st1 := [.int r, .int r]) rfl ?_
  refine L_icmp_eq (pc := 1050) (tgt := 1258) h dL_law_1050 (by decide) ?_
  exact kk MC MM' hR'
set_option maxHeartbeats 4000000 in
set_option maxRecDepth 10000 in
theorem law_c31 {z : ZZ} {aC aM : Nat → Nat} {p : Program} {e : Env} {s : State} {m : MethodId} {b L : Nat} {xs : Nat → Int32} {below : List Frame} {meth : Method} {c : Code} {fu : Nat} {Rel : Mem → Mem → Prop} (hs : Sims fu Rel) (h : LX z aC aM p s m b L xs meth c) {i : Nat} {MC MM : Mem} (hR : Rel MC MM) (hin1 : vp_in (nI i + 1) L) (hin2 : vp_in (nI i + 2) L) (hin3 : vp_in (nI i + 3) L) (hin4 : vp_in (nI i + 4) L) (hin5 : vp_in (nI i + 5) L)
    (kk : ∀ MC' MM', Rel MC' MM' → WL z aC aM p e s m b below meth c MC' MM' 1258 [(0, .ref b), (1, .ref (aC 28)), (2, .ref (aM 0)), (3, .int (nI i))] []) : WL z aC aM p e s m b below meth c MC MM 1055 [(0, .ref b), (1, .ref (aC 28)), (2, .ref (aM 0)), (3, .int (nI i))] [] := by
  obtain ⟨r, MC', MM', eC, eM, hR'⟩ := (hs.2.2.2.2.2.2.2.2.2.2.2.2.2.2.2.2.2.2.2.2.2.2.2.2.2.2.2.2.2.2.2.1) MC MM (xs (nI i + 1).toNatClampNeg) (xs (nI i + 2).toNatClampNeg) hR
  refine L_aload_n (pc := 1055) h 1 rfl rfl dL_law_1055 ?_
  refine L_aload_n (pc := 1056) h 0 rfl rfl dL_law_1056 ?_
  refine L_iload_n (pc := 1057) h 3 rfl rfl dL_law_1057 ?_
  refine L_iconst (pc := 1058) (v := 1) h (by decide) dL_law_1058 ?_
  refine L_iadd (pc := 1059) h dL_law_1059 ?_
  refine L_sld (pc := 1060) h hin1 dL_law_1060 ?_
  refine L_aload_n (pc := 1061) h 0 rfl rfl dL_law_1061 ?_
  refine L_iload_n (pc := 1062) h 3 rfl rfl dL_law_1062 ?_
  refine L_iconst (pc := 1063) (v := 2) h (by decide) dL_law_1063 ?_
  refine L_iadd (pc := 1064) h dL_law_1064 ?_
  refine L_sld (pc := 1065) h hin2 dL_law_1065 ?_
  refine L_callC (pc := 1066) (st := []) h [.int (xs (nI i + 1).toNatClampNeg), .int (xs (nI i + 2).toNatClampNeg)] cvL_142 (c4_odds (ad := aC) (z := z) eC) rfl rfl (Nat.le_of_ble_eq_true rfl) (Nat.le_of_ble_eq_true rfl) (Nat.le_of_ble_eq_true rfl) dL_law_1066 (st1 := [.int r]) rfl ?_
  refine L_aload_n (pc := 1069) h 2 rfl rfl dL_law_1069 ?_
  refine L_aload_n (pc := 1070) h 0 rfl rfl dL_law_1070 ?_
  refine L_iload_n (pc := 1071) h 3 rfl rfl dL_law_1071 ?_
  refine L_iconst (pc := 1072) (v := 1) h (by decide) dL_law_1072 ?_
  refine L_iadd (pc := 1073) h dL_law_1073 ?_
  refine L_sld (pc := 1074) h hin1 dL_law_1074 ?_
  refine L_aload_n (pc := 1075) h 0 rfl rfl dL_law_1075 ?_
  refine L_iload_n (pc := 1076) h 3 rfl rfl dL_law_1076 ?_
  refine L_iconst (pc := 1077) (v := 2) h (by decide) dL_law_1077 ?_
  refine L_iadd (pc := 1078) h dL_law_1078 ?_
  refine L_sld (pc := 1079) h hin2 dL_law_1079 ?_
  refine L_callM (pc := 1080) (st := [.int r]) h [.int (xs (nI i + 1).toNatClampNeg), .int (xs (nI i + 2).toNatClampNeg)] cvL_145 (c5_odds (ad := aM) (z := z) eM) rfl rfl (Nat.le_of_ble_eq_true rfl) (Nat.le_of_ble_eq_true rfl) (Nat.le_of_ble_eq_true rfl) dL_law_1080 (st1 := [.int r, .int r]) rfl ?_
  refine L_icmp_eq (pc := 1083) (tgt := 1258) h dL_law_1083 (by decide) ?_
  exact kk MC' MM' hR'
set_option maxHeartbeats 4000000 in
set_option maxRecDepth 10000 in
theorem law_c32 {z : ZZ} {aC aM : Nat → Nat} {p : Program} {e : Env} {s : State} {m : MethodId} {b L : Nat} {xs : Nat → Int32} {below : List Frame} {meth : Method} {c : Code} {fu : Nat} {Rel : Mem → Mem → Prop} (hs : Sims fu Rel) (h : LX z aC aM p s m b L xs meth c) {i : Nat} {MC MM : Mem} (hR : Rel MC MM) (hin1 : vp_in (nI i + 1) L) (hin2 : vp_in (nI i + 2) L) (hin3 : vp_in (nI i + 3) L) (hin4 : vp_in (nI i + 4) L) (hin5 : vp_in (nI i + 5) L)
    (kk : ∀ MC' MM', Rel MC' MM' → WL z aC aM p e s m b below meth c MC' MM' 1258 [(0, .ref b), (1, .ref (aC 28)), (2, .ref (aM 0)), (3, .int (nI i))] []) : WL z aC aM p e s m b below meth c MC MM 1088 [(0, .ref b), (1, .ref (aC 28)), (2, .ref (aM 0)), (3, .int (nI i))] [] := by
  obtain ⟨r, MC', MM', eC, eM, hR'⟩ := (hs.2.2.2.2.2.2.2.2.2.2.2.2.2.2.2.2.2.2.2.2.2.2.2.2.2.2.2.2.2.2.2.2.1) MC MM (xs (nI i + 1).toNatClampNeg) hR
  refine L_aload_n (pc := 1088) h 1 rfl rfl dL_law_1088 ?_
  refine L_aload_n (pc := 1089) h 0 rfl rfl dL_law_1089 ?_
  refine L_iload_n (pc := 1090) h 3 rfl rfl dL_law_1090 ?_
  refine L_iconst (pc := 1091) (v := 1) h (by decide) dL_law_1091 ?_
  refine L_iadd (pc := 1092) h dL_law_1092 ?_
  refine L_sld (pc := 1093) h hin1 dL_law_1093 ?_
  refine L_callC (pc := 1094) (st := []) h [.int (xs (nI i + 1).toNatClampNeg)] cvL_146 (c4_mid (ad := aC) (z := z) eC) rfl rfl (Nat.le_of_ble_eq_true rfl) (Nat.le_of_ble_eq_true rfl) (Nat.le_of_ble_eq_true rfl) dL_law_1094 (st1 := [.int r]) rfl ?_
  refine L_aload_n (pc := 1097) h 2 rfl rfl dL_law_1097 ?_
  refine L_aload_n (pc := 1098) h 0 rfl rfl dL_law_1098 ?_
  refine L_iload_n (pc := 1099) h 3 rfl rfl dL_law_1099 ?_
  refine L_iconst (pc := 1100) (v := 1) h (by decide) dL_law_1100 ?_
  refine L_iadd (pc := 1101) h dL_law_1101 ?_
  refine L_sld (pc := 1102) h hin1 dL_law_1102 ?_
  refine L_callM (pc := 1103) (st := [.int r]) h [.int (xs (nI i + 1).toNatClampNeg)] cvL_149 (c5_mid (ad := aM) (z := z) eM) rfl rfl (Nat.le_of_ble_eq_true rfl) (Nat.le_of_ble_eq_true rfl) (Nat.le_of_ble_eq_true rfl) dL_law_1103 (st1 := [.int r, .int r]) rfl ?_
  refine L_icmp_eq (pc := 1106) (tgt := 1258) h dL_law_1106 (by decide) ?_
  exact kk MC' MM' hR'
set_option maxHeartbeats 4000000 in
set_option maxRecDepth 10000 in
theorem law_c33 {z : ZZ} {aC aM : Nat → Nat} {p : Program} {e : Env} {s : State} {m : MethodId} {b L : Nat} {xs : Nat → Int32} {below : List Frame} {meth : Method} {c : Code} {fu : Nat} {Rel : Mem → Mem → Prop} (hs : Sims fu Rel) (h : LX z aC aM p s m b L xs meth c) {i : Nat} {MC MM : Mem} (hR : Rel MC MM) (hin1 : vp_in (nI i + 1) L) (hin2 : vp_in (nI i + 2) L) (hin3 : vp_in (nI i + 3) L) (hin4 : vp_in (nI i + 4) L) (hin5 : vp_in (nI i + 5) L)
    (kk : ∀ MC' MM', Rel MC' MM' → WL z aC aM p e s m b below meth c MC' MM' 1258 [(0, .ref b), (1, .ref (aC 28)), (2, .ref (aM 0)), (3, .int (nI i))] []) : WL z aC aM p e s m b below meth c MC MM 1111 [(0, .ref b), (1, .ref (aC 28)), (2, .ref (aM 0)), (3, .int (nI i))] [] := by
  obtain ⟨r, MC', MM', eC, eM, hR'⟩ := (hs.2.2.2.2.2.2.2.2.2.2.2.2.2.2.2.2.2.2.2.2.2.2.2.2.2.2.2.2.2.2.2.2.2.1) MC MM (xs (nI i + 1).toNatClampNeg) (xs (nI i + 2).toNatClampNeg) hR
  refine L_aload_n (pc := 1111) h 1 rfl rfl dL_law_1111 ?_
  refine L_aload_n (pc := 1112) h 0 rfl rfl dL_law_1112 ?_
  refine L_iload_n (pc := 1113) h 3 rfl rfl dL_law_1113 ?_
  refine L_iconst (pc := 1114) (v := 1) h (by decide) dL_law_1114 ?_
  refine L_iadd (pc := 1115) h dL_law_1115 ?_
  refine L_sld (pc := 1116) h hin1 dL_law_1116 ?_
  refine L_aload_n (pc := 1117) h 0 rfl rfl dL_law_1117 ?_
  refine L_iload_n (pc := 1118) h 3 rfl rfl dL_law_1118 ?_
  refine L_iconst (pc := 1119) (v := 2) h (by decide) dL_law_1119 ?_
  refine L_iadd (pc := 1120) h dL_law_1120 ?_
  refine L_sld (pc := 1121) h hin2 dL_law_1121 ?_
  refine L_callC (pc := 1122) (st := []) h [.int (xs (nI i + 1).toNatClampNeg), .int (xs (nI i + 2).toNatClampNeg)] cvL_150 (c4_lots (ad := aC) (z := z) eC) rfl rfl (Nat.le_of_ble_eq_true rfl) (Nat.le_of_ble_eq_true rfl) (Nat.le_of_ble_eq_true rfl) dL_law_1122 (st1 := [.int r]) rfl ?_
  refine L_aload_n (pc := 1125) h 2 rfl rfl dL_law_1125 ?_
  refine L_aload_n (pc := 1126) h 0 rfl rfl dL_law_1126 ?_
  refine L_iload_n (pc := 1127) h 3 rfl rfl dL_law_1127 ?_
  refine L_iconst (pc := 1128) (v := 1) h (by decide) dL_law_1128 ?_
  refine L_iadd (pc := 1129) h dL_law_1129 ?_
  refine L_sld (pc := 1130) h hin1 dL_law_1130 ?_
  refine L_aload_n (pc := 1131) h 0 rfl rfl dL_law_1131 ?_
  refine L_iload_n (pc := 1132) h 3 rfl rfl dL_law_1132 ?_
  refine L_iconst (pc := 1133) (v := 2) h (by decide) dL_law_1133 ?_
  refine L_iadd (pc := 1134) h dL_law_1134 ?_
  refine L_sld (pc := 1135) h hin2 dL_law_1135 ?_
  refine L_callM (pc := 1136) (st := [.int r]) h [.int (xs (nI i + 1).toNatClampNeg), .int (xs (nI i + 2).toNatClampNeg)] cvL_153 (c5_lots (ad := aM) (z := z) eM) rfl rfl (Nat.le_of_ble_eq_true rfl) (Nat.le_of_ble_eq_true rfl) (Nat.le_of_ble_eq_true rfl) dL_law_1136 (st1 := [.int r, .int r]) rfl ?_
  refine L_icmp_eq (pc := 1139) (tgt := 1258) h dL_law_1139 (by decide) ?_
  exact kk MC' MM' hR'
set_option maxHeartbeats 4000000 in
set_option maxRecDepth 10000 in
theorem law_c34 {z : ZZ} {aC aM : Nat → Nat} {p : Program} {e : Env} {s : State} {m : MethodId} {b L : Nat} {xs : Nat → Int32} {below : List Frame} {meth : Method} {c : Code} {fu : Nat} {Rel : Mem → Mem → Prop} (hs : Sims fu Rel) (h : LX z aC aM p s m b L xs meth c) {i : Nat} {MC MM : Mem} (hR : Rel MC MM) (hin1 : vp_in (nI i + 1) L) (hin2 : vp_in (nI i + 2) L) (hin3 : vp_in (nI i + 3) L) (hin4 : vp_in (nI i + 4) L) (hin5 : vp_in (nI i + 5) L)
    (kk : ∀ MC' MM', Rel MC' MM' → WL z aC aM p e s m b below meth c MC' MM' 1258 [(0, .ref b), (1, .ref (aC 28)), (2, .ref (aM 0)), (3, .int (nI i))] []) : WL z aC aM p e s m b below meth c MC MM 1144 [(0, .ref b), (1, .ref (aC 28)), (2, .ref (aM 0)), (3, .int (nI i))] [] := by
  obtain ⟨r, eC, eM, hR'⟩ := (hs.2.2.2.2.2.2.2.2.2.2.2.2.2.2.2.2.2.2.2.2.2.2.2.2.2.2.2.2.2.2.2.2.2.2.1) MC MM  hR
  refine L_aload_n (pc := 1144) h 1 rfl rfl dL_law_1144 ?_
  refine L_callC (pc := 1145) (st := []) h [] cvL_154 (c4_asked (ad := aC) (z := z) eC) rfl rfl (Nat.le_of_ble_eq_true rfl) (Nat.le_of_ble_eq_true rfl) (Nat.le_of_ble_eq_true rfl) dL_law_1145 (st1 := [.int r]) rfl ?_
  refine L_aload_n (pc := 1148) h 2 rfl rfl dL_law_1148 ?_
  refine L_callM (pc := 1149) (st := [.int r]) h [] cvL_157 (c5_asked (ad := aM) (z := z) eM) rfl rfl (Nat.le_of_ble_eq_true rfl) (Nat.le_of_ble_eq_true rfl) (Nat.le_of_ble_eq_true rfl) dL_law_1149 (st1 := [.int r, .int r]) rfl ?_
  refine L_icmp_eq (pc := 1152) (tgt := 1258) h dL_law_1152 (by decide) ?_
  exact kk MC MM hR'
set_option maxHeartbeats 4000000 in
set_option maxRecDepth 10000 in
theorem law_c35 {z : ZZ} {aC aM : Nat → Nat} {p : Program} {e : Env} {s : State} {m : MethodId} {b L : Nat} {xs : Nat → Int32} {below : List Frame} {meth : Method} {c : Code} {fu : Nat} {Rel : Mem → Mem → Prop} (hs : Sims fu Rel) (h : LX z aC aM p s m b L xs meth c) {i : Nat} {MC MM : Mem} (hR : Rel MC MM) (hin1 : vp_in (nI i + 1) L) (hin2 : vp_in (nI i + 2) L) (hin3 : vp_in (nI i + 3) L) (hin4 : vp_in (nI i + 4) L) (hin5 : vp_in (nI i + 5) L)
    (kk : ∀ MC' MM', Rel MC' MM' → WL z aC aM p e s m b below meth c MC' MM' 1258 [(0, .ref b), (1, .ref (aC 28)), (2, .ref (aM 0)), (3, .int (nI i))] []) : WL z aC aM p e s m b below meth c MC MM 1157 [(0, .ref b), (1, .ref (aC 28)), (2, .ref (aM 0)), (3, .int (nI i))] [] := by
  obtain ⟨r, eC, eM, hR'⟩ := (hs.2.2.2.2.2.2.2.2.2.2.2.2.2.2.2.2.2.2.2.2.2.2.2.2.2.2.2.2.2.2.2.2.2.2.2.1) MC MM  hR
  refine L_aload_n (pc := 1157) h 1 rfl rfl dL_law_1157 ?_
  refine L_callC (pc := 1158) (st := []) h [] cvL_158 (c4_upper (ad := aC) (z := z) eC) rfl rfl (Nat.le_of_ble_eq_true rfl) (Nat.le_of_ble_eq_true rfl) (Nat.le_of_ble_eq_true rfl) dL_law_1158 (st1 := [.long r]) rfl ?_
  refine L_aload_n (pc := 1161) h 2 rfl rfl dL_law_1161 ?_
  refine L_callM (pc := 1162) (st := [.long r]) h [] cvL_162 (c5_upper (ad := aM) (z := z) eM) rfl rfl (Nat.le_of_ble_eq_true rfl) (Nat.le_of_ble_eq_true rfl) (Nat.le_of_ble_eq_true rfl) dL_law_1162 (st1 := [.long r, .long r]) rfl ?_
  refine L_lcmp (pc := 1165) h dL_law_1165 ?_
  refine L_ifeq_l (pc := 1166) (tgt := 1258) h dL_law_1166 (by decide) ?_
  exact kk MC MM hR'
set_option maxHeartbeats 4000000 in
set_option maxRecDepth 10000 in
theorem law_c36 {z : ZZ} {aC aM : Nat → Nat} {p : Program} {e : Env} {s : State} {m : MethodId} {b L : Nat} {xs : Nat → Int32} {below : List Frame} {meth : Method} {c : Code} {fu : Nat} {Rel : Mem → Mem → Prop} (hs : Sims fu Rel) (h : LX z aC aM p s m b L xs meth c) {i : Nat} {MC MM : Mem} (hR : Rel MC MM) (hin1 : vp_in (nI i + 1) L) (hin2 : vp_in (nI i + 2) L) (hin3 : vp_in (nI i + 3) L) (hin4 : vp_in (nI i + 4) L) (hin5 : vp_in (nI i + 5) L)
    (kk : ∀ MC' MM', Rel MC' MM' → WL z aC aM p e s m b below meth c MC' MM' 1258 [(0, .ref b), (1, .ref (aC 28)), (2, .ref (aM 0)), (3, .int (nI i))] []) : WL z aC aM p e s m b below meth c MC MM 1171 [(0, .ref b), (1, .ref (aC 28)), (2, .ref (aM 0)), (3, .int (nI i))] [] := by
  obtain ⟨r, eC, eM, hR'⟩ := (hs.2.2.2.2.2.2.2.2.2.2.2.2.2.2.2.2.2.2.2.2.2.2.2.2.2.2.2.2.2.2.2.2.2.2.2.2.1) MC MM  hR
  refine L_aload_n (pc := 1171) h 1 rfl rfl dL_law_1171 ?_
  refine L_callC (pc := 1172) (st := []) h [] cvL_163 (c4_lower (ad := aC) (z := z) eC) rfl rfl (Nat.le_of_ble_eq_true rfl) (Nat.le_of_ble_eq_true rfl) (Nat.le_of_ble_eq_true rfl) dL_law_1172 (st1 := [.long r]) rfl ?_
  refine L_aload_n (pc := 1175) h 2 rfl rfl dL_law_1175 ?_
  refine L_callM (pc := 1176) (st := [.long r]) h [] cvL_166 (c5_lower (ad := aM) (z := z) eM) rfl rfl (Nat.le_of_ble_eq_true rfl) (Nat.le_of_ble_eq_true rfl) (Nat.le_of_ble_eq_true rfl) dL_law_1176 (st1 := [.long r, .long r]) rfl ?_
  refine L_lcmp (pc := 1179) h dL_law_1179 ?_
  refine L_ifeq_l (pc := 1180) (tgt := 1258) h dL_law_1180 (by decide) ?_
  exact kk MC MM hR'
set_option maxHeartbeats 4000000 in
set_option maxRecDepth 10000 in
theorem law_c37 {z : ZZ} {aC aM : Nat → Nat} {p : Program} {e : Env} {s : State} {m : MethodId} {b L : Nat} {xs : Nat → Int32} {below : List Frame} {meth : Method} {c : Code} {fu : Nat} {Rel : Mem → Mem → Prop} (hs : Sims fu Rel) (h : LX z aC aM p s m b L xs meth c) {i : Nat} {MC MM : Mem} (hR : Rel MC MM) (hin1 : vp_in (nI i + 1) L) (hin2 : vp_in (nI i + 2) L) (hin3 : vp_in (nI i + 3) L) (hin4 : vp_in (nI i + 4) L) (hin5 : vp_in (nI i + 5) L)
    (kk : ∀ MC' MM', Rel MC' MM' → WL z aC aM p e s m b below meth c MC' MM' 1258 [(0, .ref b), (1, .ref (aC 28)), (2, .ref (aM 0)), (3, .int (nI i))] []) : WL z aC aM p e s m b below meth c MC MM 1185 [(0, .ref b), (1, .ref (aC 28)), (2, .ref (aM 0)), (3, .int (nI i))] [] := by
  obtain ⟨r, eC, eM, hR'⟩ := (hs.2.2.2.2.2.2.2.2.2.2.2.2.2.2.2.2.2.2.2.2.2.2.2.2.2.2.2.2.2.2.2.2.2.2.2.2.2.1) MC MM (xs (nI i + 1).toNatClampNeg) hR
  refine L_aload_n (pc := 1185) h 1 rfl rfl dL_law_1185 ?_
  refine L_aload_n (pc := 1186) h 0 rfl rfl dL_law_1186 ?_
  refine L_iload_n (pc := 1187) h 3 rfl rfl dL_law_1187 ?_
  refine L_iconst (pc := 1188) (v := 1) h (by decide) dL_law_1188 ?_
  refine L_iadd (pc := 1189) h dL_law_1189 ?_
  refine L_sld (pc := 1190) h hin1 dL_law_1190 ?_
  refine L_callC (pc := 1191) (st := []) h [.int (xs (nI i + 1).toNatClampNeg)] cvL_167 (c4_count (ad := aC) (z := z) eC) rfl rfl (Nat.le_of_ble_eq_true rfl) (Nat.le_of_ble_eq_true rfl) (Nat.le_of_ble_eq_true rfl) dL_law_1191 (st1 := [.int r]) rfl ?_
  refine L_aload_n (pc := 1194) h 2 rfl rfl dL_law_1194 ?_
  refine L_aload_n (pc := 1195) h 0 rfl rfl dL_law_1195 ?_
  refine L_iload_n (pc := 1196) h 3 rfl rfl dL_law_1196 ?_
  refine L_iconst (pc := 1197) (v := 1) h (by decide) dL_law_1197 ?_
  refine L_iadd (pc := 1198) h dL_law_1198 ?_
  refine L_sld (pc := 1199) h hin1 dL_law_1199 ?_
  refine L_callM (pc := 1200) (st := [.int r]) h [.int (xs (nI i + 1).toNatClampNeg)] cvL_170 (c5_count (ad := aM) (z := z) eM) rfl rfl (Nat.le_of_ble_eq_true rfl) (Nat.le_of_ble_eq_true rfl) (Nat.le_of_ble_eq_true rfl) dL_law_1200 (st1 := [.int r, .int r]) rfl ?_
  refine L_icmp_eq (pc := 1203) (tgt := 1258) h dL_law_1203 (by decide) ?_
  exact kk MC MM hR'
set_option maxHeartbeats 4000000 in
set_option maxRecDepth 10000 in
theorem law_c38 {z : ZZ} {aC aM : Nat → Nat} {p : Program} {e : Env} {s : State} {m : MethodId} {b L : Nat} {xs : Nat → Int32} {below : List Frame} {meth : Method} {c : Code} {fu : Nat} {Rel : Mem → Mem → Prop} (hs : Sims fu Rel) (h : LX z aC aM p s m b L xs meth c) {i : Nat} {MC MM : Mem} (hR : Rel MC MM) (hin1 : vp_in (nI i + 1) L) (hin2 : vp_in (nI i + 2) L) (hin3 : vp_in (nI i + 3) L) (hin4 : vp_in (nI i + 4) L) (hin5 : vp_in (nI i + 5) L)
    (kk : ∀ MC' MM', Rel MC' MM' → WL z aC aM p e s m b below meth c MC' MM' 1258 [(0, .ref b), (1, .ref (aC 28)), (2, .ref (aM 0)), (3, .int (nI i))] []) : WL z aC aM p e s m b below meth c MC MM 1208 [(0, .ref b), (1, .ref (aC 28)), (2, .ref (aM 0)), (3, .int (nI i))] [] := by
  obtain ⟨r, eC, eM, hR'⟩ := (hs.2.2.2.2.2.2.2.2.2.2.2.2.2.2.2.2.2.2.2.2.2.2.2.2.2.2.2.2.2.2.2.2.2.2.2.2.2.2.1) MC MM  hR
  refine L_aload_n (pc := 1208) h 1 rfl rfl dL_law_1208 ?_
  refine L_callC (pc := 1209) (st := []) h [] cvL_171 (c4_finding (ad := aC) (z := z) eC) rfl rfl (Nat.le_of_ble_eq_true rfl) (Nat.le_of_ble_eq_true rfl) (Nat.le_of_ble_eq_true rfl) dL_law_1209 (st1 := [.int r]) rfl ?_
  refine L_aload_n (pc := 1212) h 2 rfl rfl dL_law_1212 ?_
  refine L_callM (pc := 1213) (st := [.int r]) h [] cvL_174 (c5_finding (ad := aM) (z := z) eM) rfl rfl (Nat.le_of_ble_eq_true rfl) (Nat.le_of_ble_eq_true rfl) (Nat.le_of_ble_eq_true rfl) dL_law_1213 (st1 := [.int r, .int r]) rfl ?_
  refine L_icmp_eq (pc := 1216) (tgt := 1258) h dL_law_1216 (by decide) ?_
  exact kk MC MM hR'
set_option maxHeartbeats 4000000 in
set_option maxRecDepth 10000 in
theorem law_c39 {z : ZZ} {aC aM : Nat → Nat} {p : Program} {e : Env} {s : State} {m : MethodId} {b L : Nat} {xs : Nat → Int32} {below : List Frame} {meth : Method} {c : Code} {fu : Nat} {Rel : Mem → Mem → Prop} (hs : Sims fu Rel) (h : LX z aC aM p s m b L xs meth c) {i : Nat} {MC MM : Mem} (hR : Rel MC MM) (hin1 : vp_in (nI i + 1) L) (hin2 : vp_in (nI i + 2) L) (hin3 : vp_in (nI i + 3) L) (hin4 : vp_in (nI i + 4) L) (hin5 : vp_in (nI i + 5) L)
    (kk : ∀ MC' MM', Rel MC' MM' → WL z aC aM p e s m b below meth c MC' MM' 1258 [(0, .ref b), (1, .ref (aC 28)), (2, .ref (aM 0)), (3, .int (nI i))] []) : WL z aC aM p e s m b below meth c MC MM 1221 [(0, .ref b), (1, .ref (aC 28)), (2, .ref (aM 0)), (3, .int (nI i))] [] := by
  obtain ⟨r, eC, eM, hR'⟩ := (hs.2.2.2.2.2.2.2.2.2.2.2.2.2.2.2.2.2.2.2.2.2.2.2.2.2.2.2.2.2.2.2.2.2.2.2.2.2.2.2.1) MC MM (xs (nI i + 1).toNatClampNeg) hR
  refine L_aload_n (pc := 1221) h 1 rfl rfl dL_law_1221 ?_
  refine L_aload_n (pc := 1222) h 0 rfl rfl dL_law_1222 ?_
  refine L_iload_n (pc := 1223) h 3 rfl rfl dL_law_1223 ?_
  refine L_iconst (pc := 1224) (v := 1) h (by decide) dL_law_1224 ?_
  refine L_iadd (pc := 1225) h dL_law_1225 ?_
  refine L_sld (pc := 1226) h hin1 dL_law_1226 ?_
  refine L_callC (pc := 1227) (st := []) h [.int (xs (nI i + 1).toNatClampNeg)] cvL_175 (c4_findings (ad := aC) (z := z) eC) rfl rfl (Nat.le_of_ble_eq_true rfl) (Nat.le_of_ble_eq_true rfl) (Nat.le_of_ble_eq_true rfl) dL_law_1227 (st1 := [.int r]) rfl ?_
  refine L_aload_n (pc := 1230) h 2 rfl rfl dL_law_1230 ?_
  refine L_aload_n (pc := 1231) h 0 rfl rfl dL_law_1231 ?_
  refine L_iload_n (pc := 1232) h 3 rfl rfl dL_law_1232 ?_
  refine L_iconst (pc := 1233) (v := 1) h (by decide) dL_law_1233 ?_
  refine L_iadd (pc := 1234) h dL_law_1234 ?_
  refine L_sld (pc := 1235) h hin1 dL_law_1235 ?_
  refine L_callM (pc := 1236) (st := [.int r]) h [.int (xs (nI i + 1).toNatClampNeg)] cvL_178 (c5_findings (ad := aM) (z := z) eM) rfl rfl (Nat.le_of_ble_eq_true rfl) (Nat.le_of_ble_eq_true rfl) (Nat.le_of_ble_eq_true rfl) dL_law_1236 (st1 := [.int r, .int r]) rfl ?_
  refine L_icmp_eq (pc := 1239) (tgt := 1258) h dL_law_1239 (by decide) ?_
  exact kk MC MM hR'
set_option maxHeartbeats 4000000 in
set_option maxRecDepth 10000 in
theorem law_c40 {z : ZZ} {aC aM : Nat → Nat} {p : Program} {e : Env} {s : State} {m : MethodId} {b L : Nat} {xs : Nat → Int32} {below : List Frame} {meth : Method} {c : Code} {fu : Nat} {Rel : Mem → Mem → Prop} (hs : Sims fu Rel) (h : LX z aC aM p s m b L xs meth c) {i : Nat} {MC MM : Mem} (hR : Rel MC MM) (hin1 : vp_in (nI i + 1) L) (hin2 : vp_in (nI i + 2) L) (hin3 : vp_in (nI i + 3) L) (hin4 : vp_in (nI i + 4) L) (hin5 : vp_in (nI i + 5) L)
    (kk : ∀ MC' MM', Rel MC' MM' → WL z aC aM p e s m b below meth c MC' MM' 1258 [(0, .ref b), (1, .ref (aC 28)), (2, .ref (aM 0)), (3, .int (nI i))] []) : WL z aC aM p e s m b below meth c MC MM 1244 [(0, .ref b), (1, .ref (aC 28)), (2, .ref (aM 0)), (3, .int (nI i))] [] := by
  obtain ⟨r, eC, eM, hR'⟩ := (hs.2.2.2.2.2.2.2.2.2.2.2.2.2.2.2.2.2.2.2.2.2.2.2.2.2.2.2.2.2.2.2.2.2.2.2.2.2.2.2.2) MC MM  hR
  refine L_aload_n (pc := 1244) h 1 rfl rfl dL_law_1244 ?_
  refine L_callC (pc := 1245) (st := []) h [] cvL_179 (c4_digest (ad := aC) (z := z) eC) rfl rfl (Nat.le_of_ble_eq_true rfl) (Nat.le_of_ble_eq_true rfl) (Nat.le_of_ble_eq_true rfl) dL_law_1245 (st1 := [.long r]) rfl ?_
  refine L_aload_n (pc := 1248) h 2 rfl rfl dL_law_1248 ?_
  refine L_callM (pc := 1249) (st := [.long r]) h [] cvL_182 (c5_digest (ad := aM) (z := z) eM) rfl rfl (Nat.le_of_ble_eq_true rfl) (Nat.le_of_ble_eq_true rfl) (Nat.le_of_ble_eq_true rfl) dL_law_1249 (st1 := [.long r, .long r]) rfl ?_
  refine L_lcmp (pc := 1252) h dL_law_1252 ?_
  refine L_ifeq_l (pc := 1253) (tgt := 1258) h dL_law_1253 (by decide) ?_
  exact kk MC MM hR'
set_option maxHeartbeats 8000000 in
theorem law_sw {z : ZZ} {aC aM : Nat → Nat} {p : Program} {e : Env} {s : State} {m : MethodId} {b L : Nat} {xs : Nat → Int32} {below : List Frame} {meth : Method} {c : Code} {fu : Nat} {Rel : Mem → Mem → Prop} (hs : Sims fu Rel) (h : LX z aC aM p s m b L xs meth c) {i : Nat} {MC MM : Mem} {v : Int32} (hR : Rel MC MM) (hin1 : vp_in (nI i + 1) L) (hin2 : vp_in (nI i + 2) L) (hin3 : vp_in (nI i + 3) L) (hin4 : vp_in (nI i + 4) L) (hin5 : vp_in (nI i + 5) L)
    (kk : ∀ MC' MM', Rel MC' MM' → WL z aC aM p e s m b below meth c MC' MM' 1258 [(0, .ref b), (1, .ref (aC 28)), (2, .ref (aM 0)), (3, .int (nI i))] []) : WL z aC aM p e s m b below meth c MC MM 33 [(0, .ref b), (1, .ref (aC 28)), (2, .ref (aM 0)), (3, .int (nI i))] [.int v] := by
  by_cases c0 : v = 0
  · exact L_tableIn (pc := 33) (off := 179) (tgt := 212) h dL_law_33 (by rw [c0]; decide +kernel) (by rw [c0]; decide +kernel) (by rw [c0]; decide +kernel) (by decide) (law_c0 hs h hR hin1 hin2 hin3 hin4 hin5 kk)
  by_cases c1 : v = 1
  · exact L_tableIn (pc := 33) (off := 212) (tgt := 245) h dL_law_33 (by rw [c1]; decide +kernel) (by rw [c1]; decide +kernel) (by rw [c1]; decide +kernel) (by decide) (law_c1 hs h hR hin1 hin2 hin3 hin4 hin5 kk)
  by_cases c2 : v = 2
  · exact L_tableIn (pc := 33) (off := 255) (tgt := 288) h dL_law_33 (by rw [c2]; decide +kernel) (by rw [c2]; decide +kernel) (by rw [c2]; decide +kernel) (by decide) (law_c2 hs h hR hin1 hin2 hin3 hin4 hin5 kk)
  by_cases c3 : v = 3
  · exact L_tableIn (pc := 33) (off := 288) (tgt := 321) h dL_law_33 (by rw [c3]; decide +kernel) (by rw [c3]; decide +kernel) (by rw [c3]; decide +kernel) (by decide) (law_c3 hs h hR hin1 hin2 hin3 hin4 hin5 kk)
  by_cases c4 : v = 4
  · exact L_tableIn (pc := 33) (off := 311) (tgt := 344) h dL_law_33 (by rw [c4]; decide +kernel) (by rw [c4]; decide +kernel) (by rw [c4]; decide +kernel) (by decide) (law_c4 hs h hR hin1 hin2 hin3 hin4 hin5 kk)
  by_cases c5 : v = 5
  · exact L_tableIn (pc := 33) (off := 374) (tgt := 407) h dL_law_33 (by rw [c5]; decide +kernel) (by rw [c5]; decide +kernel) (by rw [c5]; decide +kernel) (by decide) (law_c5 hs h hR hin1 hin2 hin3 hin4 hin5 kk)
  by_cases c6 : v = 6
  · exact L_tableIn (pc := 33) (off := 397) (tgt := 430) h dL_law_33 (by rw [c6]; decide +kernel) (by rw [c6]; decide +kernel) (by rw [c6]; decide +kernel) (by decide) (law_c6 hs h hR hin1 hin2 hin3 hin4 hin5 kk)
  by_cases c7 : v = 7
  · exact L_tableIn (pc := 33) (off := 430) (tgt := 463) h dL_law_33 (by rw [c7]; decide +kernel) (by rw [c7]; decide +kernel) (by rw [c7]; decide +kernel) (by decide) (law_c7 hs h hR hin1 hin2 hin3 hin4 hin5 kk)
  by_cases c8 : v = 8
  · exact L_tableIn (pc := 33) (off := 473) (tgt := 506) h dL_law_33 (by rw [c8]; decide +kernel) (by rw [c8]; decide +kernel) (by rw [c8]; decide +kernel) (by decide) (law_c8 hs h hR hin1 hin2 hin3 hin4 hin5 kk)
  by_cases c9 : v = 9
  · exact L_tableIn (pc := 33) (off := 496) (tgt := 529) h dL_law_33 (by rw [c9]; decide +kernel) (by rw [c9]; decide +kernel) (by rw [c9]; decide +kernel) (by decide) (law_c9 hs h hR hin1 hin2 hin3 hin4 hin5 kk)
  by_cases c10 : v = 10
  · exact L_tableIn (pc := 33) (off := 519) (tgt := 552) h dL_law_33 (by rw [c10]; decide +kernel) (by rw [c10]; decide +kernel) (by rw [c10]; decide +kernel) (by decide) (law_c10 hs h hR hin1 hin2 hin3 hin4 hin5 kk)
  by_cases c11 : v = 11
  · exact L_tableIn (pc := 33) (off := 552) (tgt := 585) h dL_law_33 (by rw [c11]; decide +kernel) (by rw [c11]; decide +kernel) (by rw [c11]; decide +kernel) (by decide) (law_c11 hs h hR hin1 hin2 hin3 hin4 hin5 kk)
  by_cases c12 : v = 12
  · exact L_tableIn (pc := 33) (off := 585) (tgt := 618) h dL_law_33 (by rw [c12]; decide +kernel) (by rw [c12]; decide +kernel) (by rw [c12]; decide +kernel) (by decide) (law_c12 hs h hR hin1 hin2 hin3 hin4 hin5 kk)
  by_cases c13 : v = 13
  · exact L_tableIn (pc := 33) (off := 618) (tgt := 651) h dL_law_33 (by rw [c13]; decide +kernel) (by rw [c13]; decide +kernel) (by rw [c13]; decide +kernel) (by decide) (law_c13 hs h hR hin1 hin2 hin3 hin4 hin5 kk)
  by_cases c14 : v = 14
  · exact L_tableIn (pc := 33) (off := 641) (tgt := 674) h dL_law_33 (by rw [c14]; decide +kernel) (by rw [c14]; decide +kernel) (by rw [c14]; decide +kernel) (by decide) (law_c14 hs h hR hin1 hin2 hin3 hin4 hin5 kk)
  by_cases c15 : v = 15
  · exact L_tableIn (pc := 33) (off := 664) (tgt := 697) h dL_law_33 (by rw [c15]; decide +kernel) (by rw [c15]; decide +kernel) (by rw [c15]; decide +kernel) (by decide) (law_c15 hs h hR hin1 hin2 hin3 hin4 hin5 kk)
  by_cases c16 : v = 16
  · exact L_tableIn (pc := 33) (off := 687) (tgt := 720) h dL_law_33 (by rw [c16]; decide +kernel) (by rw [c16]; decide +kernel) (by rw [c16]; decide +kernel) (by decide) (law_c16 hs h hR hin1 hin2 hin3 hin4 hin5 kk)
  by_cases c17 : v = 17
  · exact L_tableIn (pc := 33) (off := 700) (tgt := 733) h dL_law_33 (by rw [c17]; decide +kernel) (by rw [c17]; decide +kernel) (by rw [c17]; decide +kernel) (by decide) (law_c17 hs h hR hin1 hin2 hin3 hin4 hin5 kk)
  by_cases c18 : v = 18
  · exact L_tableIn (pc := 33) (off := 723) (tgt := 756) h dL_law_33 (by rw [c18]; decide +kernel) (by rw [c18]; decide +kernel) (by rw [c18]; decide +kernel) (by decide) (law_c18 hs h hR hin1 hin2 hin3 hin4 hin5 kk)
  by_cases c19 : v = 19
  · exact L_tableIn (pc := 33) (off := 746) (tgt := 779) h dL_law_33 (by rw [c19]; decide +kernel) (by rw [c19]; decide +kernel) (by rw [c19]; decide +kernel) (by decide) (law_c19 hs h hR hin1 hin2 hin3 hin4 hin5 kk)
  by_cases c20 : v = 20
  · exact L_tableIn (pc := 33) (off := 769) (tgt := 802) h dL_law_33 (by rw [c20]; decide +kernel) (by rw [c20]; decide +kernel) (by rw [c20]; decide +kernel) (by decide) (law_c20 hs h hR hin1 hin2 hin3 hin4 hin5 kk)
  by_cases c21 : v = 21
  · exact L_tableIn (pc := 33) (off := 782) (tgt := 815) h dL_law_33 (by rw [c21]; decide +kernel) (by rw [c21]; decide +kernel) (by rw [c21]; decide +kernel) (by decide) (law_c21 hs h hR hin1 hin2 hin3 hin4 hin5 kk)
  by_cases c22 : v = 22
  · exact L_tableIn (pc := 33) (off := 795) (tgt := 828) h dL_law_33 (by rw [c22]; decide +kernel) (by rw [c22]; decide +kernel) (by rw [c22]; decide +kernel) (by decide) (law_c22 hs h hR hin1 hin2 hin3 hin4 hin5 kk)
  by_cases c23 : v = 23
  · exact L_tableIn (pc := 33) (off := 808) (tgt := 841) h dL_law_33 (by rw [c23]; decide +kernel) (by rw [c23]; decide +kernel) (by rw [c23]; decide +kernel) (by decide) (law_c23 hs h hR hin1 hin2 hin3 hin4 hin5 kk)
  by_cases c24 : v = 24
  · exact L_tableIn (pc := 33) (off := 831) (tgt := 864) h dL_law_33 (by rw [c24]; decide +kernel) (by rw [c24]; decide +kernel) (by rw [c24]; decide +kernel) (by decide) (law_c24 hs h hR hin1 hin2 hin3 hin4 hin5 kk)
  by_cases c25 : v = 25
  · exact L_tableIn (pc := 33) (off := 854) (tgt := 887) h dL_law_33 (by rw [c25]; decide +kernel) (by rw [c25]; decide +kernel) (by rw [c25]; decide +kernel) (by decide) (law_c25 hs h hR hin1 hin2 hin3 hin4 hin5 kk)
  by_cases c26 : v = 26
  · exact L_tableIn (pc := 33) (off := 877) (tgt := 910) h dL_law_33 (by rw [c26]; decide +kernel) (by rw [c26]; decide +kernel) (by rw [c26]; decide +kernel) (by decide) (law_c26 hs h hR hin1 hin2 hin3 hin4 hin5 kk)
  by_cases c27 : v = 27
  · exact L_tableIn (pc := 33) (off := 900) (tgt := 933) h dL_law_33 (by rw [c27]; decide +kernel) (by rw [c27]; decide +kernel) (by rw [c27]; decide +kernel) (by decide) (law_c27 hs h hR hin1 hin2 hin3 hin4 hin5 kk)
  by_cases c28 : v = 28
  · exact L_tableIn (pc := 33) (off := 933) (tgt := 966) h dL_law_33 (by rw [c28]; decide +kernel) (by rw [c28]; decide +kernel) (by rw [c28]; decide +kernel) (by decide) (law_c28 hs h hR hin1 hin2 hin3 hin4 hin5 kk)
  by_cases c29 : v = 29
  · exact L_tableIn (pc := 33) (off := 966) (tgt := 999) h dL_law_33 (by rw [c29]; decide +kernel) (by rw [c29]; decide +kernel) (by rw [c29]; decide +kernel) (by decide) (law_c29 hs h hR hin1 hin2 hin3 hin4 hin5 kk)
  by_cases c30 : v = 30
  · exact L_tableIn (pc := 33) (off := 999) (tgt := 1032) h dL_law_33 (by rw [c30]; decide +kernel) (by rw [c30]; decide +kernel) (by rw [c30]; decide +kernel) (by decide) (law_c30 hs h hR hin1 hin2 hin3 hin4 hin5 kk)
  by_cases c31 : v = 31
  · exact L_tableIn (pc := 33) (off := 1022) (tgt := 1055) h dL_law_33 (by rw [c31]; decide +kernel) (by rw [c31]; decide +kernel) (by rw [c31]; decide +kernel) (by decide) (law_c31 hs h hR hin1 hin2 hin3 hin4 hin5 kk)
  by_cases c32 : v = 32
  · exact L_tableIn (pc := 33) (off := 1055) (tgt := 1088) h dL_law_33 (by rw [c32]; decide +kernel) (by rw [c32]; decide +kernel) (by rw [c32]; decide +kernel) (by decide) (law_c32 hs h hR hin1 hin2 hin3 hin4 hin5 kk)
  by_cases c33 : v = 33
  · exact L_tableIn (pc := 33) (off := 1078) (tgt := 1111) h dL_law_33 (by rw [c33]; decide +kernel) (by rw [c33]; decide +kernel) (by rw [c33]; decide +kernel) (by decide) (law_c33 hs h hR hin1 hin2 hin3 hin4 hin5 kk)
  by_cases c34 : v = 34
  · exact L_tableIn (pc := 33) (off := 1111) (tgt := 1144) h dL_law_33 (by rw [c34]; decide +kernel) (by rw [c34]; decide +kernel) (by rw [c34]; decide +kernel) (by decide) (law_c34 hs h hR hin1 hin2 hin3 hin4 hin5 kk)
  by_cases c35 : v = 35
  · exact L_tableIn (pc := 33) (off := 1124) (tgt := 1157) h dL_law_33 (by rw [c35]; decide +kernel) (by rw [c35]; decide +kernel) (by rw [c35]; decide +kernel) (by decide) (law_c35 hs h hR hin1 hin2 hin3 hin4 hin5 kk)
  by_cases c36 : v = 36
  · exact L_tableIn (pc := 33) (off := 1138) (tgt := 1171) h dL_law_33 (by rw [c36]; decide +kernel) (by rw [c36]; decide +kernel) (by rw [c36]; decide +kernel) (by decide) (law_c36 hs h hR hin1 hin2 hin3 hin4 hin5 kk)
  by_cases c37 : v = 37
  · exact L_tableIn (pc := 33) (off := 1152) (tgt := 1185) h dL_law_33 (by rw [c37]; decide +kernel) (by rw [c37]; decide +kernel) (by rw [c37]; decide +kernel) (by decide) (law_c37 hs h hR hin1 hin2 hin3 hin4 hin5 kk)
  by_cases c38 : v = 38
  · exact L_tableIn (pc := 33) (off := 1175) (tgt := 1208) h dL_law_33 (by rw [c38]; decide +kernel) (by rw [c38]; decide +kernel) (by rw [c38]; decide +kernel) (by decide) (law_c38 hs h hR hin1 hin2 hin3 hin4 hin5 kk)
  by_cases c39 : v = 39
  · exact L_tableIn (pc := 33) (off := 1188) (tgt := 1221) h dL_law_33 (by rw [c39]; decide +kernel) (by rw [c39]; decide +kernel) (by rw [c39]; decide +kernel) (by decide) (law_c39 hs h hR hin1 hin2 hin3 hin4 hin5 kk)
  by_cases c40 : v = 40
  · exact L_tableIn (pc := 33) (off := 1211) (tgt := 1244) h dL_law_33 (by rw [c40]; decide +kernel) (by rw [c40]; decide +kernel) (by rw [c40]; decide +kernel) (by decide) (law_c40 hs h hR hin1 hin2 hin3 hin4 hin5 kk)
  refine L_tableOut (pc := 33) (tgt := 1258) h dL_law_33 (by have e0 := lv_neT c0 (a := 0) (by decide); have e1 := lv_neT c1 (a := 1) (by decide); have e2 := lv_neT c2 (a := 2) (by decide); have e3 := lv_neT c3 (a := 3) (by decide); have e4 := lv_neT c4 (a := 4) (by decide); have e5 := lv_neT c5 (a := 5) (by decide); have e6 := lv_neT c6 (a := 6) (by decide); have e7 := lv_neT c7 (a := 7) (by decide); have e8 := lv_neT c8 (a := 8) (by decide); have e9 := lv_neT c9 (a := 9) (by decide); have e10 := lv_neT c10 (a := 10) (by decide); have e11 := lv_neT c11 (a := 11) (by decide); have e12 := lv_neT c12 (a := 12) (by decide); have e13 := lv_neT c13 (a := 13) (by decide); have e14 := lv_neT c14 (a := 14) (by decide); have e15 := lv_neT c15 (a := 15) (by decide); have e16 := lv_neT c16 (a := 16) (by decide); have e17 := lv_neT c17 (a := 17) (by decide); have e18 := lv_neT c18 (a := 18) (by decide); have e19 := lv_neT c19 (a := 19) (by decide); have e20 := lv_neT c20 (a := 20) (by decide); have e21 := lv_neT c21 (a := 21) (by decide); have e22 := lv_neT c22 (a := 22) (by decide); have e23 := lv_neT c23 (a := 23) (by decide); have e24 := lv_neT c24 (a := 24) (by decide); have e25 := lv_neT c25 (a := 25) (by decide); have e26 := lv_neT c26 (a := 26) (by decide); have e27 := lv_neT c27 (a := 27) (by decide); have e28 := lv_neT c28 (a := 28) (by decide); have e29 := lv_neT c29 (a := 29) (by decide); have e30 := lv_neT c30 (a := 30) (by decide); have e31 := lv_neT c31 (a := 31) (by decide); have e32 := lv_neT c32 (a := 32) (by decide); have e33 := lv_neT c33 (a := 33) (by decide); have e34 := lv_neT c34 (a := 34) (by decide); have e35 := lv_neT c35 (a := 35) (by decide); have e36 := lv_neT c36 (a := 36) (by decide); have e37 := lv_neT c37 (a := 37) (by decide); have e38 := lv_neT c38 (a := 38) (by decide); have e39 := lv_neT c39 (a := 39) (by decide); have e40 := lv_neT c40 (a := 40) (by decide); omega) (by decide) ?_
  exact kk MC MM hR
set_option maxHeartbeats 4000000 in
theorem law_loop {z : ZZ} {aC aM : Nat → Nat} {p : Program} {e : Env} {s : State} {m : MethodId} {b L : Nat} {xs : Nat → Int32} {below : List Frame} {meth : Method} {c : Code} {fu : Nat} {Rel : Mem → Mem → Prop} (hs : Sims fu Rel) (h : LX z aC aM p s m b L xs meth c) (hL : L ≤ 3072) : ∀ (n i : Nat) (MC MM : Mem), L < n + i → i ≤ 3072 → Rel MC MM → WL z aC aM p e s m b below meth c MC MM 18 [(0, .ref b), (1, .ref (aC 28)), (2, .ref (aM 0)), (3, .int (nI i))] [] := by
  intro n
  induction n with
  | zero =>
    intro i MC MM hn hi hR
    refine L_iload_n (pc := 18) h 3 rfl rfl dL_law_18 ?_
    refine L_aload_n (pc := 19) h 0 rfl rfl dL_law_19 ?_
    refine L_slen (pc := 20) h dL_law_20 ?_
    refine L_bipush (pc := 21) (v := 6) h (by decide) dL_law_21 ?_
    refine L_isub (pc := 23) h dL_law_23 ?_
    refine L_icmp_gt (pc := 24) (tgt := 1264) h dL_law_24 (by decide) (fun _ => ?_) (fun c0 => ?_)
    · refine L_iconst (pc := 1264) (v := 1) h (by decide) dL_law_1264 ?_
      exact L_ret (pc := 1265) h dL_law_1265
    · exact absurd (law_cmp hL hi (by omega)) c0
  | succ n ih =>
    intro i MC MM hn hi hR
    refine L_iload_n (pc := 18) h 3 rfl rfl dL_law_18 ?_
    refine L_aload_n (pc := 19) h 0 rfl rfl dL_law_19 ?_
    refine L_slen (pc := 20) h dL_law_20 ?_
    refine L_bipush (pc := 21) (v := 6) h (by decide) dL_law_21 ?_
    refine L_isub (pc := 23) h dL_law_23 ?_
    refine L_icmp_gt (pc := 24) (tgt := 1264) h dL_law_24 (by decide) (fun _ => ?_) (fun c0 => ?_)
    · refine L_iconst (pc := 1264) (v := 1) h (by decide) dL_law_1264 ?_
      exact L_ret (pc := 1265) h dL_law_1265
    · have hi6 : i + 6 ≤ L := law_cmp2 hL hi c0
      refine L_aload_n (pc := 27) h 0 rfl rfl dL_law_27 ?_
      refine L_iload_n (pc := 28) h 3 rfl rfl dL_law_28 ?_
      refine L_sld (pc := 29) h (vp_in_nI (by omega) (by omega)) dL_law_29 ?_
      refine L_bipush (pc := 30) (v := 63) h (by decide) dL_law_30 ?_
      refine L_iand (pc := 32) h dL_law_32 ?_
      refine law_sw hs h hR (law_in hL hi6 1 (by omega)) (law_in hL hi6 2 (by omega)) (law_in hL hi6 3 (by omega)) (law_in hL hi6 4 (by omega)) (law_in hL hi6 5 (by omega)) (fun MC' MM' hR' => ?_)
      refine L_iinc (pc := 1258) (x' := nI (i + 6)) (lv' := [(3, .int (nI (i + 6))), (0, .ref b), (1, .ref (aC 28)), (2, .ref (aM 0))]) h 3 rfl (law_6 i) (by decide) rfl dL_law_1258 ?_
      refine L_goto (pc := 1261) (tgt := 18) h dL_law_1261 (by decide) ?_
      intro H locs ls hPC hPM hS hl
      exact ih (i + 6) MC' MM' (by omega) (by omega) hR' H locs ls hPC hPM hS (lv_sub hl [1, 2, 3, 0] rfl)
