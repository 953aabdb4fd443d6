/-! what the tables say of the law's calls -/
theorem cwL_13 : CWv R_law 13 yX7_river cX7_river 3 (some .int) 1 := ⟨tb_at 264 (by decide +kernel) (by decide +kernel), tb_at 265 (by decide +kernel) (by decide +kernel), tb_at 266 (by decide +kernel) (by decide +kernel), tb_at 48 (by decide +kernel) (by decide +kernel), tb_at 267 (by decide +kernel) (by decide +kernel), by decide +kernel, by decide +kernel, by decide +kernel⟩
theorem cwL_17 : CWv R_law 17 yX8_river cX8_river 4 (some .int) 1 := ⟨tb_at 829 (by decide +kernel) (by decide +kernel), tb_at 830 (by decide +kernel) (by decide +kernel), tb_at 831 (by decide +kernel) (by decide +kernel), tb_at 54 (by decide +kernel) (by decide +kernel), tb_at 832 (by decide +kernel) (by decide +kernel), by decide +kernel, by decide +kernel, by decide +kernel⟩
theorem cwL_18 : CWv R_law 18 yX7_bridge cX7_bridge 5 (some .int) 4 := ⟨tb_at 279 (by decide +kernel) (by decide +kernel), tb_at 280 (by decide +kernel) (by decide +kernel), tb_at 281 (by decide +kernel) (by decide +kernel), tb_at 48 (by decide +kernel) (by decide +kernel), tb_at 282 (by decide +kernel) (by decide +kernel), by decide +kernel, by decide +kernel, by decide +kernel⟩
theorem cwL_22 : CWv R_law 22 yX8_bridge cX8_bridge 5 (some .int) 4 := ⟨tb_at 848 (by decide +kernel) (by decide +kernel), tb_at 849 (by decide +kernel) (by decide +kernel), tb_at 850 (by decide +kernel) (by decide +kernel), tb_at 54 (by decide +kernel) (by decide +kernel), tb_at 851 (by decide +kernel) (by decide +kernel), by decide +kernel, by decide +kernel, by decide +kernel⟩
theorem cwL_23 : CWv R_law 23 yX7_rule cX7_rule 4 (some .int) 3 := ⟨tb_at 294 (by decide +kernel) (by decide +kernel), tb_at 295 (by decide +kernel) (by decide +kernel), tb_at 296 (by decide +kernel) (by decide +kernel), tb_at 48 (by decide +kernel) (by decide +kernel), tb_at 297 (by decide +kernel) (by decide +kernel), by decide +kernel, by decide +kernel, by decide +kernel⟩
theorem cwL_27 : CWv R_law 27 yX8_rule cX8_rule 5 (some .int) 3 := ⟨tb_at 864 (by decide +kernel) (by decide +kernel), tb_at 865 (by decide +kernel) (by decide +kernel), tb_at 866 (by decide +kernel) (by decide +kernel), tb_at 54 (by decide +kernel) (by decide +kernel), tb_at 867 (by decide +kernel) (by decide +kernel), by decide +kernel, by decide +kernel, by decide +kernel⟩
theorem cwL_28 : CWv R_law 28 yX7_month cX7_month 2 (some .int) 1 := ⟨tb_at 313 (by decide +kernel) (by decide +kernel), tb_at 314 (by decide +kernel) (by decide +kernel), tb_at 315 (by decide +kernel) (by decide +kernel), tb_at 48 (by decide +kernel) (by decide +kernel), tb_at 316 (by decide +kernel) (by decide +kernel), by decide +kernel, by decide +kernel, by decide +kernel⟩
theorem cwL_31 : CWv R_law 31 yX8_month cX8_month 2 (some .int) 1 := ⟨tb_at 880 (by decide +kernel) (by decide +kernel), tb_at 881 (by decide +kernel) (by decide +kernel), tb_at 882 (by decide +kernel) (by decide +kernel), tb_at 54 (by decide +kernel) (by decide +kernel), tb_at 883 (by decide +kernel) (by decide +kernel), by decide +kernel, by decide +kernel, by decide +kernel⟩
theorem cwL_32 : CWv R_law 32 yX7_undo cX7_undo 1 (some .int) 0 := ⟨tb_at 321 (by decide +kernel) (by decide +kernel), tb_at 322 (by decide +kernel) (by decide +kernel), tb_at 323 (by decide +kernel) (by decide +kernel), tb_at 48 (by decide +kernel) (by decide +kernel), tb_at 324 (by decide +kernel) (by decide +kernel), by decide +kernel, by decide +kernel, by decide +kernel⟩
theorem cwL_36 : CWv R_law 36 yX8_undo cX8_undo 3 (some .int) 0 := ⟨tb_at 884 (by decide +kernel) (by decide +kernel), tb_at 885 (by decide +kernel) (by decide +kernel), tb_at 886 (by decide +kernel) (by decide +kernel), tb_at 54 (by decide +kernel) (by decide +kernel), tb_at 887 (by decide +kernel) (by decide +kernel), by decide +kernel, by decide +kernel, by decide +kernel⟩
theorem cwL_37 : CWv R_law 37 yX7_say cX7_say 5 (some .int) 2 := ⟨tb_at 333 (by decide +kernel) (by decide +kernel), tb_at 334 (by decide +kernel) (by decide +kernel), tb_at 335 (by decide +kernel) (by decide +kernel), tb_at 48 (by decide +kernel) (by decide +kernel), tb_at 336 (by decide +kernel) (by decide +kernel), by decide +kernel, by decide +kernel, by decide +kernel⟩
theorem cwL_41 : CWv R_law 41 yX8_say cX8_say 3 (some .int) 2 := ⟨tb_at 892 (by decide +kernel) (by decide +kernel), tb_at 893 (by decide +kernel) (by decide +kernel), tb_at 894 (by decide +kernel) (by decide +kernel), tb_at 54 (by decide +kernel) (by decide +kernel), tb_at 895 (by decide +kernel) (by decide +kernel), by decide +kernel, by decide +kernel, by decide +kernel⟩
theorem cwL_42 : CWv R_law 42 yX7_hush cX7_hush 3 (some .int) 1 := ⟨tb_at 347 (by decide +kernel) (by decide +kernel), tb_at 348 (by decide +kernel) (by decide +kernel), tb_at 349 (by decide +kernel) (by decide +kernel), tb_at 48 (by decide +kernel) (by decide +kernel), tb_at 350 (by decide +kernel) (by decide +kernel), by decide +kernel, by decide +kernel, by decide +kernel⟩
theorem cwL_45 : CWv R_law 45 yX8_hush cX8_hush 3 (some .int) 1 := ⟨tb_at 907 (by decide +kernel) (by decide +kernel), tb_at 908 (by decide +kernel) (by decide +kernel), tb_at 909 (by decide +kernel) (by decide +kernel), tb_at 54 (by decide +kernel) (by decide +kernel), tb_at 910 (by decide +kernel) (by decide +kernel), by decide +kernel, by decide +kernel, by decide +kernel⟩
theorem cwL_46 : CWv R_law 46 yX7_type cX7_type 2 (some .int) 1 := ⟨tb_at 351 (by decide +kernel) (by decide +kernel), tb_at 352 (by decide +kernel) (by decide +kernel), tb_at 353 (by decide +kernel) (by decide +kernel), tb_at 48 (by decide +kernel) (by decide +kernel), tb_at 354 (by decide +kernel) (by decide +kernel), by decide +kernel, by decide +kernel, by decide +kernel⟩
theorem cwL_49 : CWv R_law 49 yX8_type cX8_type 2 (some .int) 1 := ⟨tb_at 1072 (by decide +kernel) (by decide +kernel), tb_at 1073 (by decide +kernel) (by decide +kernel), tb_at 1074 (by decide +kernel) (by decide +kernel), tb_at 54 (by decide +kernel) (by decide +kernel), tb_at 1075 (by decide +kernel) (by decide +kernel), by decide +kernel, by decide +kernel, by decide +kernel⟩
theorem cwL_50 : CWv R_law 50 yX7_clear cX7_clear 2 (some .int) 0 := ⟨tb_at 359 (by decide +kernel) (by decide +kernel), tb_at 360 (by decide +kernel) (by decide +kernel), tb_at 361 (by decide +kernel) (by decide +kernel), tb_at 48 (by decide +kernel) (by decide +kernel), tb_at 362 (by decide +kernel) (by decide +kernel), by decide +kernel, by decide +kernel, by decide +kernel⟩
theorem cwL_53 : CWv R_law 53 yX8_clear cX8_clear 2 (some .int) 0 := ⟨tb_at 1077 (by decide +kernel) (by decide +kernel), tb_at 1078 (by decide +kernel) (by decide +kernel), tb_at 1079 (by decide +kernel) (by decide +kernel), tb_at 54 (by decide +kernel) (by decide +kernel), tb_at 1080 (by decide +kernel) (by decide +kernel), by decide +kernel, by decide +kernel, by decide +kernel⟩
theorem cwL_54 : CWv R_law 54 yX7_read cX7_read 2 (some .int) 0 := ⟨tb_at 363 (by decide +kernel) (by decide +kernel), tb_at 364 (by decide +kernel) (by decide +kernel), tb_at 365 (by decide +kernel) (by decide +kernel), tb_at 48 (by decide +kernel) (by decide +kernel), tb_at 366 (by decide +kernel) (by decide +kernel), by decide +kernel, by decide +kernel, by decide +kernel⟩
theorem cwL_57 : CWv R_law 57 yX8_read cX8_read 3 (some .int) 0 := ⟨tb_at 1081 (by decide +kernel) (by decide +kernel), tb_at 1082 (by decide +kernel) (by decide +kernel), tb_at 1083 (by decide +kernel) (by decide +kernel), tb_at 54 (by decide +kernel) (by decide +kernel), tb_at 1084 (by decide +kernel) (by decide +kernel), by decide +kernel, by decide +kernel, by decide +kernel⟩
theorem cwL_58 : CWv R_law 58 yX7_of cX7_of 3 (some .int) 2 := ⟨tb_at 483 (by decide +kernel) (by decide +kernel), tb_at 484 (by decide +kernel) (by decide +kernel), tb_at 485 (by decide +kernel) (by decide +kernel), tb_at 48 (by decide +kernel) (by decide +kernel), tb_at 486 (by decide +kernel) (by decide +kernel), by decide +kernel, by decide +kernel, by decide +kernel⟩
theorem cwL_61 : CWv R_law 61 yX8_of cX8_of 3 (some .int) 2 := ⟨tb_at 911 (by decide +kernel) (by decide +kernel), tb_at 912 (by decide +kernel) (by decide +kernel), tb_at 913 (by decide +kernel) (by decide +kernel), tb_at 54 (by decide +kernel) (by decide +kernel), tb_at 914 (by decide +kernel) (by decide +kernel), by decide +kernel, by decide +kernel, by decide +kernel⟩
theorem cwL_62 : CWv R_law 62 yX7_at cX7_at 3 (some .int) 2 := ⟨tb_at 487 (by decide +kernel) (by decide +kernel), tb_at 488 (by decide +kernel) (by decide +kernel), tb_at 489 (by decide +kernel) (by decide +kernel), tb_at 48 (by decide +kernel) (by decide +kernel), tb_at 490 (by decide +kernel) (by decide +kernel), by decide +kernel, by decide +kernel, by decide +kernel⟩
theorem cwL_65 : CWv R_law 65 yX8_at cX8_at 3 (some .int) 2 := ⟨tb_at 915 (by decide +kernel) (by decide +kernel), tb_at 916 (by decide +kernel) (by decide +kernel), tb_at 917 (by decide +kernel) (by decide +kernel), tb_at 54 (by decide +kernel) (by decide +kernel), tb_at 918 (by decide +kernel) (by decide +kernel), by decide +kernel, by decide +kernel, by decide +kernel⟩
theorem cwL_66 : CWv R_law 66 yX7_called cX7_called 8 (some .int) 4 := ⟨tb_at 497 (by decide +kernel) (by decide +kernel), tb_at 498 (by decide +kernel) (by decide +kernel), tb_at 499 (by decide +kernel) (by decide +kernel), tb_at 48 (by decide +kernel) (by decide +kernel), tb_at 500 (by decide +kernel) (by decide +kernel), by decide +kernel, by decide +kernel, by decide +kernel⟩
theorem cwL_69 : CWv R_law 69 yX8_called cX8_called 8 (some .int) 4 := ⟨tb_at 925 (by decide +kernel) (by decide +kernel), tb_at 926 (by decide +kernel) (by decide +kernel), tb_at 927 (by decide +kernel) (by decide +kernel), tb_at 54 (by decide +kernel) (by decide +kernel), tb_at 928 (by decide +kernel) (by decide +kernel), by decide +kernel, by decide +kernel, by decide +kernel⟩
theorem cwL_70 : CWv R_law 70 yX7_nothing cX7_nothing 6 (some .int) 2 := ⟨tb_at 546 (by decide +kernel) (by decide +kernel), tb_at 547 (by decide +kernel) (by decide +kernel), tb_at 548 (by decide +kernel) (by decide +kernel), tb_at 48 (by decide +kernel) (by decide +kernel), tb_at 549 (by decide +kernel) (by decide +kernel), by decide +kernel, by decide +kernel, by decide +kernel⟩
theorem cwL_73 : CWv R_law 73 yX8_nothing cX8_nothing 6 (some .int) 2 := ⟨tb_at 954 (by decide +kernel) (by decide +kernel), tb_at 955 (by decide +kernel) (by decide +kernel), tb_at 956 (by decide +kernel) (by decide +kernel), tb_at 54 (by decide +kernel) (by decide +kernel), tb_at 957 (by decide +kernel) (by decide +kernel), by decide +kernel, by decide +kernel, by decide +kernel⟩
theorem cwL_74 : CWv R_law 74 yX7_boat cX7_boat 11 (some .int) 5 := ⟨tb_at 550 (by decide +kernel) (by decide +kernel), tb_at 551 (by decide +kernel) (by decide +kernel), tb_at 552 (by decide +kernel) (by decide +kernel), tb_at 48 (by decide +kernel) (by decide +kernel), tb_at 553 (by decide +kernel) (by decide +kernel), by decide +kernel, by decide +kernel, by decide +kernel⟩
theorem cwL_78 : CWv R_law 78 yX8_boat cX8_boat 10 (some .int) 5 := ⟨tb_at 958 (by decide +kernel) (by decide +kernel), tb_at 959 (by decide +kernel) (by decide +kernel), tb_at 960 (by decide +kernel) (by decide +kernel), tb_at 54 (by decide +kernel) (by decide +kernel), tb_at 961 (by decide +kernel) (by decide +kernel), by decide +kernel, by decide +kernel, by decide +kernel⟩
theorem cwL_79 : CWv R_law 79 yX7_way cX7_way 5 (some .int) 4 := ⟨tb_at 561 (by decide +kernel) (by decide +kernel), tb_at 562 (by decide +kernel) (by decide +kernel), tb_at 563 (by decide +kernel) (by decide +kernel), tb_at 48 (by decide +kernel) (by decide +kernel), tb_at 564 (by decide +kernel) (by decide +kernel), by decide +kernel, by decide +kernel, by decide +kernel⟩
theorem cwL_82 : CWv R_law 82 yX8_way cX8_way 5 (some .int) 4 := ⟨tb_at 966 (by decide +kernel) (by decide +kernel), tb_at 967 (by decide +kernel) (by decide +kernel), tb_at 968 (by decide +kernel) (by decide +kernel), tb_at 54 (by decide +kernel) (by decide +kernel), tb_at 969 (by decide +kernel) (by decide +kernel), by decide +kernel, by decide +kernel, by decide +kernel⟩
theorem cwL_83 : CWv R_law 83 yX7_ways cX7_ways 5 (some .int) 4 := ⟨tb_at 583 (by decide +kernel) (by decide +kernel), tb_at 584 (by decide +kernel) (by decide +kernel), tb_at 585 (by decide +kernel) (by decide +kernel), tb_at 48 (by decide +kernel) (by decide +kernel), tb_at 586 (by decide +kernel) (by decide +kernel), by decide +kernel, by decide +kernel, by decide +kernel⟩
theorem cwL_86 : CWv R_law 86 yX8_ways cX8_ways 5 (some .int) 4 := ⟨tb_at 990 (by decide +kernel) (by decide +kernel), tb_at 991 (by decide +kernel) (by decide +kernel), tb_at 992 (by decide +kernel) (by decide +kernel), tb_at 54 (by decide +kernel) (by decide +kernel), tb_at 993 (by decide +kernel) (by decide +kernel), by decide +kernel, by decide +kernel, by decide +kernel⟩
theorem cwL_87 : CWv R_law 87 yX7_curse cX7_curse 4 (some .int) 3 := ⟨tb_at 587 (by decide +kernel) (by decide +kernel), tb_at 588 (by decide +kernel) (by decide +kernel), tb_at 589 (by decide +kernel) (by decide +kernel), tb_at 48 (by decide +kernel) (by decide +kernel), tb_at 590 (by decide +kernel) (by decide +kernel), by decide +kernel, by decide +kernel, by decide +kernel⟩
theorem cwL_90 : CWv R_law 90 yX8_curse cX8_curse 7 (some .int) 3 := ⟨tb_at 994 (by decide +kernel) (by decide +kernel), tb_at 995 (by decide +kernel) (by decide +kernel), tb_at 996 (by decide +kernel) (by decide +kernel), tb_at 54 (by decide +kernel) (by decide +kernel), tb_at 997 (by decide +kernel) (by decide +kernel), by decide +kernel, by decide +kernel, by decide +kernel⟩
theorem cwL_91 : CWv R_law 91 yX7_above cX7_above 9 (some .int) 3 := ⟨tb_at 603 (by decide +kernel) (by decide +kernel), tb_at 604 (by decide +kernel) (by decide +kernel), tb_at 605 (by decide +kernel) (by decide +kernel), tb_at 48 (by decide +kernel) (by decide +kernel), tb_at 606 (by decide +kernel) (by decide +kernel), by decide +kernel, by decide +kernel, by decide +kernel⟩
theorem cwL_94 : CWv R_law 94 yX8_above cX8_above 8 (some .int) 3 := ⟨tb_at 1001 (by decide +kernel) (by decide +kernel), tb_at 1002 (by decide +kernel) (by decide +kernel), tb_at 1003 (by decide +kernel) (by decide +kernel), tb_at 54 (by decide +kernel) (by decide +kernel), tb_at 1004 (by decide +kernel) (by decide +kernel), by decide +kernel, by decide +kernel, by decide +kernel⟩
theorem cwL_95 : CWv R_law 95 yX7_note cX7_note 4 (some .int) 3 := ⟨tb_at 613 (by decide +kernel) (by decide +kernel), tb_at 614 (by decide +kernel) (by decide +kernel), tb_at 615 (by decide +kernel) (by decide +kernel), tb_at 48 (by decide +kernel) (by decide +kernel), tb_at 616 (by decide +kernel) (by decide +kernel), by decide +kernel, by decide +kernel, by decide +kernel⟩
theorem cwL_98 : CWv R_law 98 yX8_note cX8_note 5 (some .int) 3 := ⟨tb_at 1008 (by decide +kernel) (by decide +kernel), tb_at 1009 (by decide +kernel) (by decide +kernel), tb_at 1010 (by decide +kernel) (by decide +kernel), tb_at 54 (by decide +kernel) (by decide +kernel), tb_at 1011 (by decide +kernel) (by decide +kernel), by decide +kernel, by decide +kernel, by decide +kernel⟩
theorem cwL_99 : CWv R_law 99 yX7_forget cX7_forget 2 (some .int) 0 := ⟨tb_at 621 (by decide +kernel) (by decide +kernel), tb_at 622 (by decide +kernel) (by decide +kernel), tb_at 623 (by decide +kernel) (by decide +kernel), tb_at 48 (by decide +kernel) (by decide +kernel), tb_at 624 (by decide +kernel) (by decide +kernel), by decide +kernel, by decide +kernel, by decide +kernel⟩
theorem cwL_102 : CWv R_law 102 yX8_forget cX8_forget 2 (some .int) 0 := ⟨tb_at 1012 (by decide +kernel) (by decide +kernel), tb_at 1013 (by decide +kernel) (by decide +kernel), tb_at 1014 (by decide +kernel) (by decide +kernel), tb_at 54 (by decide +kernel) (by decide +kernel), tb_at 1015 (by decide +kernel) (by decide +kernel), by decide +kernel, by decide +kernel, by decide +kernel⟩
theorem cwL_103 : CWv R_law 103 yX7_fits cX7_fits 4 (some .int) 2 := ⟨tb_at 625 (by decide +kernel) (by decide +kernel), tb_at 626 (by decide +kernel) (by decide +kernel), tb_at 627 (by decide +kernel) (by decide +kernel), tb_at 48 (by decide +kernel) (by decide +kernel), tb_at 628 (by decide +kernel) (by decide +kernel), by decide +kernel, by decide +kernel, by decide +kernel⟩
theorem cwL_106 : CWv R_law 106 yX8_fits cX8_fits 6 (some .int) 2 := ⟨tb_at 1016 (by decide +kernel) (by decide +kernel), tb_at 1017 (by decide +kernel) (by decide +kernel), tb_at 1018 (by decide +kernel) (by decide +kernel), tb_at 54 (by decide +kernel) (by decide +kernel), tb_at 1019 (by decide +kernel) (by decide +kernel), by decide +kernel, by decide +kernel, by decide +kernel⟩
theorem cwL_107 : CWv R_law 107 yX7_tries cX7_tries 7 (some .int) 1 := ⟨tb_at 641 (by decide +kernel) (by decide +kernel), tb_at 642 (by decide +kernel) (by decide +kernel), tb_at 643 (by decide +kernel) (by decide +kernel), tb_at 48 (by decide +kernel) (by decide +kernel), tb_at 644 (by decide +kernel) (by decide +kernel), by decide +kernel, by decide +kernel, by decide +kernel⟩
theorem cwL_110 : CWv R_law 110 yX8_tries cX8_tries 6 (some .int) 1 := ⟨tb_at 1024 (by decide +kernel) (by decide +kernel), tb_at 1025 (by decide +kernel) (by decide +kernel), tb_at 1026 (by decide +kernel) (by decide +kernel), tb_at 54 (by decide +kernel) (by decide +kernel), tb_at 1027 (by decide +kernel) (by decide +kernel), by decide +kernel, by decide +kernel, by decide +kernel⟩
theorem cwL_111 : CWv R_law 111 yX7_renamed cX7_renamed 9 (some .int) 2 := ⟨tb_at 653 (by decide +kernel) (by decide +kernel), tb_at 654 (by decide +kernel) (by decide +kernel), tb_at 655 (by decide +kernel) (by decide +kernel), tb_at 48 (by decide +kernel) (by decide +kernel), tb_at 656 (by decide +kernel) (by decide +kernel), by decide +kernel, by decide +kernel, by decide +kernel⟩
theorem cwL_114 : CWv R_law 114 yX8_renamed cX8_renamed 6 (some .int) 2 := ⟨tb_at 1033 (by decide +kernel) (by decide +kernel), tb_at 1034 (by decide +kernel) (by decide +kernel), tb_at 1035 (by decide +kernel) (by decide +kernel), tb_at 54 (by decide +kernel) (by decide +kernel), tb_at 1036 (by decide +kernel) (by decide +kernel), by decide +kernel, by decide +kernel, by decide +kernel⟩
theorem cwL_115 : CWv R_law 115 yX7_stammer cX7_stammer 6 (some .int) 4 := ⟨tb_at 658 (by decide +kernel) (by decide +kernel), tb_at 659 (by decide +kernel) (by decide +kernel), tb_at 660 (by decide +kernel) (by decide +kernel), tb_at 48 (by decide +kernel) (by decide +kernel), tb_at 661 (by decide +kernel) (by decide +kernel), by decide +kernel, by decide +kernel, by decide +kernel⟩
theorem cwL_118 : CWv R_law 118 yX8_stammer cX8_stammer 10 (some .int) 4 := ⟨tb_at 1037 (by decide +kernel) (by decide +kernel), tb_at 1038 (by decide +kernel) (by decide +kernel), tb_at 1039 (by decide +kernel) (by decide +kernel), tb_at 54 (by decide +kernel) (by decide +kernel), tb_at 1040 (by decide +kernel) (by decide +kernel), by decide +kernel, by decide +kernel, by decide +kernel⟩
theorem cwL_119 : CWv R_law 119 yX7_boats cX7_boats 4 (some .int) 3 := ⟨tb_at 679 (by decide +kernel) (by decide +kernel), tb_at 680 (by decide +kernel) (by decide +kernel), tb_at 681 (by decide +kernel) (by decide +kernel), tb_at 48 (by decide +kernel) (by decide +kernel), tb_at 682 (by decide +kernel) (by decide +kernel), by decide +kernel, by decide +kernel, by decide +kernel⟩
theorem cwL_122 : CWv R_law 122 yX8_boats cX8_boats 4 (some .int) 3 := ⟨tb_at 1047 (by decide +kernel) (by decide +kernel), tb_at 1048 (by decide +kernel) (by decide +kernel), tb_at 1049 (by decide +kernel) (by decide +kernel), tb_at 54 (by decide +kernel) (by decide +kernel), tb_at 1050 (by decide +kernel) (by decide +kernel), by decide +kernel, by decide +kernel, by decide +kernel⟩
theorem cwL_123 : CWv R_law 123 yX7_flood cX7_flood 8 (some .int) 5 := ⟨tb_at 701 (by decide +kernel) (by decide +kernel), tb_at 702 (by decide +kernel) (by decide +kernel), tb_at 703 (by decide +kernel) (by decide +kernel), tb_at 48 (by decide +kernel) (by decide +kernel), tb_at 704 (by decide +kernel) (by decide +kernel), by decide +kernel, by decide +kernel, by decide +kernel⟩
theorem cwL_126 : CWv R_law 126 yX8_flood cX8_flood 6 (some .int) 5 := ⟨tb_at 1068 (by decide +kernel) (by decide +kernel), tb_at 1069 (by decide +kernel) (by decide +kernel), tb_at 1070 (by decide +kernel) (by decide +kernel), tb_at 54 (by decide +kernel) (by decide +kernel), tb_at 1071 (by decide +kernel) (by decide +kernel), by decide +kernel, by decide +kernel, by decide +kernel⟩
theorem cwL_127 : CWv R_law 127 yX7_part cX7_part 2 (some .long) 1 := ⟨tb_at 705 (by decide +kernel) (by decide +kernel), tb_at 706 (by decide +kernel) (by decide +kernel), tb_at 707 (by decide +kernel) (by decide +kernel), tb_at 48 (by decide +kernel) (by decide +kernel), tb_at 708 (by decide +kernel) (by decide +kernel), by decide +kernel, by decide +kernel, by decide +kernel⟩
theorem cwL_131 : CWv R_law 131 yX8_part cX8_part 2 (some .long) 1 := ⟨tb_at 1127 (by decide +kernel) (by decide +kernel), tb_at 1128 (by decide +kernel) (by decide +kernel), tb_at 1129 (by decide +kernel) (by decide +kernel), tb_at 54 (by decide +kernel) (by decide +kernel), tb_at 1130 (by decide +kernel) (by decide +kernel), by decide +kernel, by decide +kernel, by decide +kernel⟩
theorem cwL_132 : CWv R_law 132 yX7_image cX7_image 2 (some .int) 1 := ⟨tb_at 709 (by decide +kernel) (by decide +kernel), tb_at 710 (by decide +kernel) (by decide +kernel), tb_at 711 (by decide +kernel) (by decide +kernel), tb_at 48 (by decide +kernel) (by decide +kernel), tb_at 712 (by decide +kernel) (by decide +kernel), by decide +kernel, by decide +kernel, by decide +kernel⟩
theorem cwL_135 : CWv R_law 135 yX8_image cX8_image 3 (some .int) 1 := ⟨tb_at 1131 (by decide +kernel) (by decide +kernel), tb_at 1132 (by decide +kernel) (by decide +kernel), tb_at 1133 (by decide +kernel) (by decide +kernel), tb_at 54 (by decide +kernel) (by decide +kernel), tb_at 1134 (by decide +kernel) (by decide +kernel), by decide +kernel, by decide +kernel, by decide +kernel⟩
theorem cwL_136 : CWv R_law 136 yX7_from cX7_from 2 (some .int) 1 := ⟨tb_at 713 (by decide +kernel) (by decide +kernel), tb_at 714 (by decide +kernel) (by decide +kernel), tb_at 715 (by decide +kernel) (by decide +kernel), tb_at 48 (by decide +kernel) (by decide +kernel), tb_at 716 (by decide +kernel) (by decide +kernel), by decide +kernel, by decide +kernel, by decide +kernel⟩
theorem cwL_139 : CWv R_law 139 yX8_from cX8_from 3 (some .int) 1 := ⟨tb_at 1135 (by decide +kernel) (by decide +kernel), tb_at 1136 (by decide +kernel) (by decide +kernel), tb_at 1137 (by decide +kernel) (by decide +kernel), tb_at 54 (by decide +kernel) (by decide +kernel), tb_at 1138 (by decide +kernel) (by decide +kernel), by decide +kernel, by decide +kernel, by decide +kernel⟩
theorem cwL_140 : CWv R_law 140 yX7_status cX7_status 2 (some .int) 1 := ⟨tb_at 717 (by decide +kernel) (by decide +kernel), tb_at 718 (by decide +kernel) (by decide +kernel), tb_at 719 (by decide +kernel) (by decide +kernel), tb_at 48 (by decide +kernel) (by decide +kernel), tb_at 720 (by decide +kernel) (by decide +kernel), by decide +kernel, by decide +kernel, by decide +kernel⟩
theorem cwL_143 : CWv R_law 143 yX8_status cX8_status 2 (some .int) 1 := ⟨tb_at 1139 (by decide +kernel) (by decide +kernel), tb_at 1140 (by decide +kernel) (by decide +kernel), tb_at 1141 (by decide +kernel) (by decide +kernel), tb_at 54 (by decide +kernel) (by decide +kernel), tb_at 1142 (by decide +kernel) (by decide +kernel), by decide +kernel, by decide +kernel, by decide +kernel⟩
theorem cwL_144 : CWv R_law 144 yX7_count cX7_count 2 (some .int) 1 := ⟨tb_at 721 (by decide +kernel) (by decide +kernel), tb_at 722 (by decide +kernel) (by decide +kernel), tb_at 723 (by decide +kernel) (by decide +kernel), tb_at 48 (by decide +kernel) (by decide +kernel), tb_at 724 (by decide +kernel) (by decide +kernel), by decide +kernel, by decide +kernel, by decide +kernel⟩
theorem cwL_147 : CWv R_law 147 yX8_count cX8_count 2 (some .int) 1 := ⟨tb_at 1144 (by decide +kernel) (by decide +kernel), tb_at 1145 (by decide +kernel) (by decide +kernel), tb_at 1146 (by decide +kernel) (by decide +kernel), tb_at 54 (by decide +kernel) (by decide +kernel), tb_at 1147 (by decide +kernel) (by decide +kernel), by decide +kernel, by decide +kernel, by decide +kernel⟩
theorem cwL_148 : CWv R_law 148 yX7_digest cX7_digest 4 (some .long) 0 := ⟨tb_at 725 (by decide +kernel) (by decide +kernel), tb_at 726 (by decide +kernel) (by decide +kernel), tb_at 727 (by decide +kernel) (by decide +kernel), tb_at 48 (by decide +kernel) (by decide +kernel), tb_at 728 (by decide +kernel) (by decide +kernel), by decide +kernel, by decide +kernel, by decide +kernel⟩
theorem cwL_152 : CWv R_law 152 yX8_digest cX8_digest 4 (some .long) 0 := ⟨tb_at 1153 (by decide +kernel) (by decide +kernel), tb_at 1154 (by decide +kernel) (by decide +kernel), tb_at 1155 (by decide +kernel) (by decide +kernel), tb_at 54 (by decide +kernel) (by decide +kernel), tb_at 1156 (by decide +kernel) (by decide +kernel), by decide +kernel, by decide +kernel, by decide +kernel⟩
/-! the law's cases -/
set_option maxHeartbeats 4000000 in
theorem law_0 {E : En} {p : Program} {l : Launch} {e : Env} {s : State} {m : MethodId} {below : List Frame} {meth : Method} {c : Code} {b L : Nat} {xs : Nat → Int32} (C : LC E p s m meth c b L xs) {M : Mem} (hI : Inv M) {i : Nat} (hL : L ≤ 384) (hi : i + 6 ≤ L) (kk : ∀ M2, Inv M2 → GL E p l e s m below meth c b 1281 (Lo E b i) [] M2) : GL E p l e s m below meth c b 180 (Lo E b i) [] M := by
  obtain ⟨r, M1, M2, e7, e8, hI2⟩ := e_river hI (xs (i + 1))
  refine l_aload_n C dL_law_180 rfl ?_
  refine l_arg C hL (show i + 1 < L by omega) (by decide) dL_law_181 dL_law_182 dL_law_183 dL_law_184 dL_law_185 ?_
  refine l_call (st := []) C (c_X7_river e7) cwL_13 rfl (by decide) (cel_0 _ _ _) rfl rfl ⟨(Nat.le_of_ble_eq_true rfl), (Nat.le_of_ble_eq_true rfl)⟩ (Nat.le_of_ble_eq_true rfl) dL_law_186 ?_
  refine l_aload_n C dL_law_189 rfl ?_
  refine l_arg C hL (show i + 1 < L by omega) (by decide) dL_law_190 dL_law_191 dL_law_192 dL_law_193 dL_law_194 ?_
  refine l_call (st := [.int r]) C (c_X8_river e8) cwL_17 rfl (by decide) (cel_63 _ _ _) rfl rfl ⟨(Nat.le_of_ble_eq_true rfl), (Nat.le_of_ble_eq_true rfl)⟩ (Nat.le_of_ble_eq_true rfl) dL_law_195 ?_
  exact l_icmp_eq (tgt := 1281) C dL_law_198 (by decide) (fun _ => kk _ hI2) (fun h => absurd rfl h)
set_option maxHeartbeats 4000000 in
theorem law_1 {E : En} {p : Program} {l : Launch} {e : Env} {s : State} {m : MethodId} {below : List Frame} {meth : Method} {c : Code} {b L : Nat} {xs : Nat → Int32} (C : LC E p s m meth c b L xs) {M : Mem} (hI : Inv M) {i : Nat} (hL : L ≤ 384) (hi : i + 6 ≤ L) (kk : ∀ M2, Inv M2 → GL E p l e s m below meth c b 1281 (Lo E b i) [] M2) : GL E p l e s m below meth c b 203 (Lo E b i) [] M := by
  obtain ⟨r, M1, M2, e7, e8, hI2⟩ := e_bridge hI (xs (i + 1)) (xs (i + 2)) (xs (i + 3)) (xs (i + 4))
  refine l_aload_n C dL_law_203 rfl ?_
  refine l_arg C hL (show i + 1 < L by omega) (by decide) dL_law_204 dL_law_205 dL_law_206 dL_law_207 dL_law_208 ?_
  refine l_arg C hL (show i + 2 < L by omega) (by decide) dL_law_209 dL_law_210 dL_law_211 dL_law_212 dL_law_213 ?_
  refine l_arg C hL (show i + 3 < L by omega) (by decide) dL_law_214 dL_law_215 dL_law_216 dL_law_217 dL_law_218 ?_
  refine l_arg C hL (show i + 4 < L by omega) (by decide) dL_law_219 dL_law_220 dL_law_221 dL_law_222 dL_law_223 ?_
  refine l_call (st := []) C (c_X7_bridge e7) cwL_18 rfl (by decide) (cel_0 _ _ _) rfl rfl ⟨(Nat.le_of_ble_eq_true rfl), (Nat.le_of_ble_eq_true rfl)⟩ (Nat.le_of_ble_eq_true rfl) dL_law_224 ?_
  refine l_aload_n C dL_law_227 rfl ?_
  refine l_arg C hL (show i + 1 < L by omega) (by decide) dL_law_228 dL_law_229 dL_law_230 dL_law_231 dL_law_232 ?_
  refine l_arg C hL (show i + 2 < L by omega) (by decide) dL_law_233 dL_law_234 dL_law_235 dL_law_236 dL_law_237 ?_
  refine l_arg C hL (show i + 3 < L by omega) (by decide) dL_law_238 dL_law_239 dL_law_240 dL_law_241 dL_law_242 ?_
  refine l_arg C hL (show i + 4 < L by omega) (by decide) dL_law_243 dL_law_244 dL_law_245 dL_law_246 dL_law_247 ?_
  refine l_call (st := [.int r]) C (c_X8_bridge e8) cwL_22 rfl (by decide) (cel_63 _ _ _) rfl rfl ⟨(Nat.le_of_ble_eq_true rfl), (Nat.le_of_ble_eq_true rfl)⟩ (Nat.le_of_ble_eq_true rfl) dL_law_248 ?_
  exact l_icmp_eq (tgt := 1281) C dL_law_251 (by decide) (fun _ => kk _ hI2) (fun h => absurd rfl h)
set_option maxHeartbeats 4000000 in
theorem law_2 {E : En} {p : Program} {l : Launch} {e : Env} {s : State} {m : MethodId} {below : List Frame} {meth : Method} {c : Code} {b L : Nat} {xs : Nat → Int32} (C : LC E p s m meth c b L xs) {M : Mem} (hI : Inv M) {i : Nat} (hL : L ≤ 384) (hi : i + 6 ≤ L) (kk : ∀ M2, Inv M2 → GL E p l e s m below meth c b 1281 (Lo E b i) [] M2) : GL E p l e s m below meth c b 256 (Lo E b i) [] M := by
  obtain ⟨r, M1, M2, e7, e8, hI2⟩ := e_rule hI (xs (i + 1)) (xs (i + 2)) (xs (i + 3))
  refine l_aload_n C dL_law_256 rfl ?_
  refine l_arg C hL (show i + 1 < L by omega) (by decide) dL_law_257 dL_law_258 dL_law_259 dL_law_260 dL_law_261 ?_
  refine l_arg C hL (show i + 2 < L by omega) (by decide) dL_law_262 dL_law_263 dL_law_264 dL_law_265 dL_law_266 ?_
  refine l_arg C hL (show i + 3 < L by omega) (by decide) dL_law_267 dL_law_268 dL_law_269 dL_law_270 dL_law_271 ?_
  refine l_call (st := []) C (c_X7_rule e7) cwL_23 rfl (by decide) (cel_0 _ _ _) rfl rfl ⟨(Nat.le_of_ble_eq_true rfl), (Nat.le_of_ble_eq_true rfl)⟩ (Nat.le_of_ble_eq_true rfl) dL_law_272 ?_
  refine l_aload_n C dL_law_275 rfl ?_
  refine l_arg C hL (show i + 1 < L by omega) (by decide) dL_law_276 dL_law_277 dL_law_278 dL_law_279 dL_law_280 ?_
  refine l_arg C hL (show i + 2 < L by omega) (by decide) dL_law_281 dL_law_282 dL_law_283 dL_law_284 dL_law_285 ?_
  refine l_arg C hL (show i + 3 < L by omega) (by decide) dL_law_286 dL_law_287 dL_law_288 dL_law_289 dL_law_290 ?_
  refine l_call (st := [.int r]) C (c_X8_rule e8) cwL_27 rfl (by decide) (cel_63 _ _ _) rfl rfl ⟨(Nat.le_of_ble_eq_true rfl), (Nat.le_of_ble_eq_true rfl)⟩ (Nat.le_of_ble_eq_true rfl) dL_law_291 ?_
  exact l_icmp_eq (tgt := 1281) C dL_law_294 (by decide) (fun _ => kk _ hI2) (fun h => absurd rfl h)
set_option maxHeartbeats 4000000 in
theorem law_3 {E : En} {p : Program} {l : Launch} {e : Env} {s : State} {m : MethodId} {below : List Frame} {meth : Method} {c : Code} {b L : Nat} {xs : Nat → Int32} (C : LC E p s m meth c b L xs) {M : Mem} (hI : Inv M) {i : Nat} (hL : L ≤ 384) (hi : i + 6 ≤ L) (kk : ∀ M2, Inv M2 → GL E p l e s m below meth c b 1281 (Lo E b i) [] M2) : GL E p l e s m below meth c b 299 (Lo E b i) [] M := by
  obtain ⟨r, M1, M2, e7, e8, hI2⟩ := e_month hI (xs (i + 1))
  refine l_aload_n C dL_law_299 rfl ?_
  refine l_arg C hL (show i + 1 < L by omega) (by decide) dL_law_300 dL_law_301 dL_law_302 dL_law_303 dL_law_304 ?_
  refine l_call (st := []) C (c_X7_month e7) cwL_28 rfl (by decide) (cel_0 _ _ _) rfl rfl ⟨(Nat.le_of_ble_eq_true rfl), (Nat.le_of_ble_eq_true rfl)⟩ (Nat.le_of_ble_eq_true rfl) dL_law_305 ?_
  refine l_aload_n C dL_law_308 rfl ?_
  refine l_arg C hL (show i + 1 < L by omega) (by decide) dL_law_309 dL_law_310 dL_law_311 dL_law_312 dL_law_313 ?_
  refine l_call (st := [.int r]) C (c_X8_month e8) cwL_31 rfl (by decide) (cel_63 _ _ _) rfl rfl ⟨(Nat.le_of_ble_eq_true rfl), (Nat.le_of_ble_eq_true rfl)⟩ (Nat.le_of_ble_eq_true rfl) dL_law_314 ?_
  exact l_icmp_eq (tgt := 1281) C dL_law_317 (by decide) (fun _ => kk _ hI2) (fun h => absurd rfl h)
set_option maxHeartbeats 4000000 in
theorem law_4 {E : En} {p : Program} {l : Launch} {e : Env} {s : State} {m : MethodId} {below : List Frame} {meth : Method} {c : Code} {b L : Nat} {xs : Nat → Int32} (C : LC E p s m meth c b L xs) {M : Mem} (hI : Inv M) {i : Nat} (hL : L ≤ 384) (hi : i + 6 ≤ L) (kk : ∀ M2, Inv M2 → GL E p l e s m below meth c b 1281 (Lo E b i) [] M2) : GL E p l e s m below meth c b 322 (Lo E b i) [] M := by
  obtain ⟨r, M1, M2, e7, e8, hI2⟩ := e_undo hI
  refine l_aload_n C dL_law_322 rfl ?_
  refine l_call (st := []) C (c_X7_undo e7) cwL_32 rfl (by decide) (cel_0 _ _ _) rfl rfl ⟨(Nat.le_of_ble_eq_true rfl), (Nat.le_of_ble_eq_true rfl)⟩ (Nat.le_of_ble_eq_true rfl) dL_law_323 ?_
  refine l_aload_n C dL_law_326 rfl ?_
  refine l_call (st := [.int r]) C (c_X8_undo e8) cwL_36 rfl (by decide) (cel_63 _ _ _) rfl rfl ⟨(Nat.le_of_ble_eq_true rfl), (Nat.le_of_ble_eq_true rfl)⟩ (Nat.le_of_ble_eq_true rfl) dL_law_327 ?_
  exact l_icmp_eq (tgt := 1281) C dL_law_330 (by decide) (fun _ => kk _ hI2) (fun h => absurd rfl h)
set_option maxHeartbeats 4000000 in
theorem law_5 {E : En} {p : Program} {l : Launch} {e : Env} {s : State} {m : MethodId} {below : List Frame} {meth : Method} {c : Code} {b L : Nat} {xs : Nat → Int32} (C : LC E p s m meth c b L xs) {M : Mem} (hI : Inv M) {i : Nat} (hL : L ≤ 384) (hi : i + 6 ≤ L) (kk : ∀ M2, Inv M2 → GL E p l e s m below meth c b 1281 (Lo E b i) [] M2) : GL E p l e s m below meth c b 335 (Lo E b i) [] M := by
  obtain ⟨r, M1, M2, e7, e8, hI2⟩ := e_say hI (xs (i + 1)) (xs (i + 2))
  refine l_aload_n C dL_law_335 rfl ?_
  refine l_arg C hL (show i + 1 < L by omega) (by decide) dL_law_336 dL_law_337 dL_law_338 dL_law_339 dL_law_340 ?_
  refine l_arg C hL (show i + 2 < L by omega) (by decide) dL_law_341 dL_law_342 dL_law_343 dL_law_344 dL_law_345 ?_
  refine l_call (st := []) C (c_X7_say e7) cwL_37 rfl (by decide) (cel_0 _ _ _) rfl rfl ⟨(Nat.le_of_ble_eq_true rfl), (Nat.le_of_ble_eq_true rfl)⟩ (Nat.le_of_ble_eq_true rfl) dL_law_346 ?_
  refine l_aload_n C dL_law_349 rfl ?_
  refine l_arg C hL (show i + 1 < L by omega) (by decide) dL_law_350 dL_law_351 dL_law_352 dL_law_353 dL_law_354 ?_
  refine l_arg C hL (show i + 2 < L by omega) (by decide) dL_law_355 dL_law_356 dL_law_357 dL_law_358 dL_law_359 ?_
  refine l_call (st := [.int r]) C (c_X8_say e8) cwL_41 rfl (by decide) (cel_63 _ _ _) rfl rfl ⟨(Nat.le_of_ble_eq_true rfl), (Nat.le_of_ble_eq_true rfl)⟩ (Nat.le_of_ble_eq_true rfl) dL_law_360 ?_
  exact l_icmp_eq (tgt := 1281) C dL_law_363 (by decide) (fun _ => kk _ hI2) (fun h => absurd rfl h)
set_option maxHeartbeats 4000000 in
theorem law_6 {E : En} {p : Program} {l : Launch} {e : Env} {s : State} {m : MethodId} {below : List Frame} {meth : Method} {c : Code} {b L : Nat} {xs : Nat → Int32} (C : LC E p s m meth c b L xs) {M : Mem} (hI : Inv M) {i : Nat} (hL : L ≤ 384) (hi : i + 6 ≤ L) (kk : ∀ M2, Inv M2 → GL E p l e s m below meth c b 1281 (Lo E b i) [] M2) : GL E p l e s m below meth c b 368 (Lo E b i) [] M := by
  obtain ⟨r, M1, M2, e7, e8, hI2⟩ := e_hush hI (xs (i + 1))
  refine l_aload_n C dL_law_368 rfl ?_
  refine l_arg C hL (show i + 1 < L by omega) (by decide) dL_law_369 dL_law_370 dL_law_371 dL_law_372 dL_law_373 ?_
  refine l_call (st := []) C (c_X7_hush e7) cwL_42 rfl (by decide) (cel_0 _ _ _) rfl rfl ⟨(Nat.le_of_ble_eq_true rfl), (Nat.le_of_ble_eq_true rfl)⟩ (Nat.le_of_ble_eq_true rfl) dL_law_374 ?_
  refine l_aload_n C dL_law_377 rfl ?_
  refine l_arg C hL (show i + 1 < L by omega) (by decide) dL_law_378 dL_law_379 dL_law_380 dL_law_381 dL_law_382 ?_
  refine l_call (st := [.int r]) C (c_X8_hush e8) cwL_45 rfl (by decide) (cel_63 _ _ _) rfl rfl ⟨(Nat.le_of_ble_eq_true rfl), (Nat.le_of_ble_eq_true rfl)⟩ (Nat.le_of_ble_eq_true rfl) dL_law_383 ?_
  exact l_icmp_eq (tgt := 1281) C dL_law_386 (by decide) (fun _ => kk _ hI2) (fun h => absurd rfl h)
set_option maxHeartbeats 4000000 in
theorem law_7 {E : En} {p : Program} {l : Launch} {e : Env} {s : State} {m : MethodId} {below : List Frame} {meth : Method} {c : Code} {b L : Nat} {xs : Nat → Int32} (C : LC E p s m meth c b L xs) {M : Mem} (hI : Inv M) {i : Nat} (hL : L ≤ 384) (hi : i + 6 ≤ L) (kk : ∀ M2, Inv M2 → GL E p l e s m below meth c b 1281 (Lo E b i) [] M2) : GL E p l e s m below meth c b 391 (Lo E b i) [] M := by
  obtain ⟨r, M1, M2, e7, e8, hI2⟩ := e_type hI (xs (i + 1))
  refine l_aload_n C dL_law_391 rfl ?_
  refine l_arg C hL (show i + 1 < L by omega) (by decide) dL_law_392 dL_law_393 dL_law_394 dL_law_395 dL_law_396 ?_
  refine l_call (st := []) C (c_X7_type e7) cwL_46 rfl (by decide) (cel_0 _ _ _) rfl rfl ⟨(Nat.le_of_ble_eq_true rfl), (Nat.le_of_ble_eq_true rfl)⟩ (Nat.le_of_ble_eq_true rfl) dL_law_397 ?_
  refine l_aload_n C dL_law_400 rfl ?_
  refine l_arg C hL (show i + 1 < L by omega) (by decide) dL_law_401 dL_law_402 dL_law_403 dL_law_404 dL_law_405 ?_
  refine l_call (st := [.int r]) C (c_X8_type e8) cwL_49 rfl (by decide) (cel_63 _ _ _) rfl rfl ⟨(Nat.le_of_ble_eq_true rfl), (Nat.le_of_ble_eq_true rfl)⟩ (Nat.le_of_ble_eq_true rfl) dL_law_406 ?_
  exact l_icmp_eq (tgt := 1281) C dL_law_409 (by decide) (fun _ => kk _ hI2) (fun h => absurd rfl h)
set_option maxHeartbeats 4000000 in
theorem law_8 {E : En} {p : Program} {l : Launch} {e : Env} {s : State} {m : MethodId} {below : List Frame} {meth : Method} {c : Code} {b L : Nat} {xs : Nat → Int32} (C : LC E p s m meth c b L xs) {M : Mem} (hI : Inv M) {i : Nat} (hL : L ≤ 384) (hi : i + 6 ≤ L) (kk : ∀ M2, Inv M2 → GL E p l e s m below meth c b 1281 (Lo E b i) [] M2) : GL E p l e s m below meth c b 414 (Lo E b i) [] M := by
  obtain ⟨r, M1, M2, e7, e8, hI2⟩ := e_clear hI
  refine l_aload_n C dL_law_414 rfl ?_
  refine l_call (st := []) C (c_X7_clear e7) cwL_50 rfl (by decide) (cel_0 _ _ _) rfl rfl ⟨(Nat.le_of_ble_eq_true rfl), (Nat.le_of_ble_eq_true rfl)⟩ (Nat.le_of_ble_eq_true rfl) dL_law_415 ?_
  refine l_aload_n C dL_law_418 rfl ?_
  refine l_call (st := [.int r]) C (c_X8_clear e8) cwL_53 rfl (by decide) (cel_63 _ _ _) rfl rfl ⟨(Nat.le_of_ble_eq_true rfl), (Nat.le_of_ble_eq_true rfl)⟩ (Nat.le_of_ble_eq_true rfl) dL_law_419 ?_
  exact l_icmp_eq (tgt := 1281) C dL_law_422 (by decide) (fun _ => kk _ hI2) (fun h => absurd rfl h)
set_option maxHeartbeats 4000000 in
theorem law_9 {E : En} {p : Program} {l : Launch} {e : Env} {s : State} {m : MethodId} {below : List Frame} {meth : Method} {c : Code} {b L : Nat} {xs : Nat → Int32} (C : LC E p s m meth c b L xs) {M : Mem} (hI : Inv M) {i : Nat} (hL : L ≤ 384) (hi : i + 6 ≤ L) (kk : ∀ M2, Inv M2 → GL E p l e s m below meth c b 1281 (Lo E b i) [] M2) : GL E p l e s m below meth c b 427 (Lo E b i) [] M := by
  obtain ⟨r, M1, M2, e7, e8, hI2⟩ := e_read hI
  refine l_aload_n C dL_law_427 rfl ?_
  refine l_call (st := []) C (c_X7_read e7) cwL_54 rfl (by decide) (cel_0 _ _ _) rfl rfl ⟨(Nat.le_of_ble_eq_true rfl), (Nat.le_of_ble_eq_true rfl)⟩ (Nat.le_of_ble_eq_true rfl) dL_law_428 ?_
  refine l_aload_n C dL_law_431 rfl ?_
  refine l_call (st := [.int r]) C (c_X8_read e8) cwL_57 rfl (by decide) (cel_63 _ _ _) rfl rfl ⟨(Nat.le_of_ble_eq_true rfl), (Nat.le_of_ble_eq_true rfl)⟩ (Nat.le_of_ble_eq_true rfl) dL_law_432 ?_
  exact l_icmp_eq (tgt := 1281) C dL_law_435 (by decide) (fun _ => kk _ hI2) (fun h => absurd rfl h)
set_option maxHeartbeats 4000000 in
theorem law_10 {E : En} {p : Program} {l : Launch} {e : Env} {s : State} {m : MethodId} {below : List Frame} {meth : Method} {c : Code} {b L : Nat} {xs : Nat → Int32} (C : LC E p s m meth c b L xs) {M : Mem} (hI : Inv M) {i : Nat} (hL : L ≤ 384) (hi : i + 6 ≤ L) (kk : ∀ M2, Inv M2 → GL E p l e s m below meth c b 1281 (Lo E b i) [] M2) : GL E p l e s m below meth c b 440 (Lo E b i) [] M := by
  obtain ⟨r, M1, M2, e7, e8, hI2⟩ := e_of hI (xs (i + 1)) (xs (i + 2))
  refine l_aload_n C dL_law_440 rfl ?_
  refine l_arg C hL (show i + 1 < L by omega) (by decide) dL_law_441 dL_law_442 dL_law_443 dL_law_444 dL_law_445 ?_
  refine l_arg C hL (show i + 2 < L by omega) (by decide) dL_law_446 dL_law_447 dL_law_448 dL_law_449 dL_law_450 ?_
  refine l_call (st := []) C (c_X7_of e7) cwL_58 rfl (by decide) (cel_0 _ _ _) rfl rfl ⟨(Nat.le_of_ble_eq_true rfl), (Nat.le_of_ble_eq_true rfl)⟩ (Nat.le_of_ble_eq_true rfl) dL_law_451 ?_
  refine l_aload_n C dL_law_454 rfl ?_
  refine l_arg C hL (show i + 1 < L by omega) (by decide) dL_law_455 dL_law_456 dL_law_457 dL_law_458 dL_law_459 ?_
  refine l_arg C hL (show i + 2 < L by omega) (by decide) dL_law_460 dL_law_461 dL_law_462 dL_law_463 dL_law_464 ?_
  refine l_call (st := [.int r]) C (c_X8_of e8) cwL_61 rfl (by decide) (cel_63 _ _ _) rfl rfl ⟨(Nat.le_of_ble_eq_true rfl), (Nat.le_of_ble_eq_true rfl)⟩ (Nat.le_of_ble_eq_true rfl) dL_law_465 ?_
  exact l_icmp_eq (tgt := 1281) C dL_law_468 (by decide) (fun _ => kk _ hI2) (fun h => absurd rfl h)
set_option maxHeartbeats 4000000 in
theorem law_11 {E : En} {p : Program} {l : Launch} {e : Env} {s : State} {m : MethodId} {below : List Frame} {meth : Method} {c : Code} {b L : Nat} {xs : Nat → Int32} (C : LC E p s m meth c b L xs) {M : Mem} (hI : Inv M) {i : Nat} (hL : L ≤ 384) (hi : i + 6 ≤ L) (kk : ∀ M2, Inv M2 → GL E p l e s m below meth c b 1281 (Lo E b i) [] M2) : GL E p l e s m below meth c b 473 (Lo E b i) [] M := by
  obtain ⟨r, M1, M2, e7, e8, hI2⟩ := e_at hI (xs (i + 1)) (xs (i + 2))
  refine l_aload_n C dL_law_473 rfl ?_
  refine l_arg C hL (show i + 1 < L by omega) (by decide) dL_law_474 dL_law_475 dL_law_476 dL_law_477 dL_law_478 ?_
  refine l_arg C hL (show i + 2 < L by omega) (by decide) dL_law_479 dL_law_480 dL_law_481 dL_law_482 dL_law_483 ?_
  refine l_call (st := []) C (c_X7_at e7) cwL_62 rfl (by decide) (cel_0 _ _ _) rfl rfl ⟨(Nat.le_of_ble_eq_true rfl), (Nat.le_of_ble_eq_true rfl)⟩ (Nat.le_of_ble_eq_true rfl) dL_law_484 ?_
  refine l_aload_n C dL_law_487 rfl ?_
  refine l_arg C hL (show i + 1 < L by omega) (by decide) dL_law_488 dL_law_489 dL_law_490 dL_law_491 dL_law_492 ?_
  refine l_arg C hL (show i + 2 < L by omega) (by decide) dL_law_493 dL_law_494 dL_law_495 dL_law_496 dL_law_497 ?_
  refine l_call (st := [.int r]) C (c_X8_at e8) cwL_65 rfl (by decide) (cel_63 _ _ _) rfl rfl ⟨(Nat.le_of_ble_eq_true rfl), (Nat.le_of_ble_eq_true rfl)⟩ (Nat.le_of_ble_eq_true rfl) dL_law_498 ?_
  exact l_icmp_eq (tgt := 1281) C dL_law_501 (by decide) (fun _ => kk _ hI2) (fun h => absurd rfl h)
set_option maxHeartbeats 4000000 in
theorem law_12 {E : En} {p : Program} {l : Launch} {e : Env} {s : State} {m : MethodId} {below : List Frame} {meth : Method} {c : Code} {b L : Nat} {xs : Nat → Int32} (C : LC E p s m meth c b L xs) {M : Mem} (hI : Inv M) {i : Nat} (hL : L ≤ 384) (hi : i + 6 ≤ L) (kk : ∀ M2, Inv M2 → GL E p l e s m below meth c b 1281 (Lo E b i) [] M2) : GL E p l e s m below meth c b 506 (Lo E b i) [] M := by
  obtain ⟨r, M1, M2, e7, e8, hI2⟩ := e_called hI (xs (i + 1)) (xs (i + 2)) (xs (i + 3)) (xs (i + 4))
  refine l_aload_n C dL_law_506 rfl ?_
  refine l_arg C hL (show i + 1 < L by omega) (by decide) dL_law_507 dL_law_508 dL_law_509 dL_law_510 dL_law_511 ?_
  refine l_arg C hL (show i + 2 < L by omega) (by decide) dL_law_512 dL_law_513 dL_law_514 dL_law_515 dL_law_516 ?_
  refine l_arg C hL (show i + 3 < L by omega) (by decide) dL_law_517 dL_law_518 dL_law_519 dL_law_520 dL_law_521 ?_
  refine l_arg C hL (show i + 4 < L by omega) (by decide) dL_law_522 dL_law_523 dL_law_524 dL_law_525 dL_law_526 ?_
  refine l_call (st := []) C (c_X7_called e7) cwL_66 rfl (by decide) (cel_0 _ _ _) rfl rfl ⟨(Nat.le_of_ble_eq_true rfl), (Nat.le_of_ble_eq_true rfl)⟩ (Nat.le_of_ble_eq_true rfl) dL_law_527 ?_
  refine l_aload_n C dL_law_530 rfl ?_
  refine l_arg C hL (show i + 1 < L by omega) (by decide) dL_law_531 dL_law_532 dL_law_533 dL_law_534 dL_law_535 ?_
  refine l_arg C hL (show i + 2 < L by omega) (by decide) dL_law_536 dL_law_537 dL_law_538 dL_law_539 dL_law_540 ?_
  refine l_arg C hL (show i + 3 < L by omega) (by decide) dL_law_541 dL_law_542 dL_law_543 dL_law_544 dL_law_545 ?_
  refine l_arg C hL (show i + 4 < L by omega) (by decide) dL_law_546 dL_law_547 dL_law_548 dL_law_549 dL_law_550 ?_
  refine l_call (st := [.int r]) C (c_X8_called e8) cwL_69 rfl (by decide) (cel_63 _ _ _) rfl rfl ⟨(Nat.le_of_ble_eq_true rfl), (Nat.le_of_ble_eq_true rfl)⟩ (Nat.le_of_ble_eq_true rfl) dL_law_551 ?_
  exact l_icmp_eq (tgt := 1281) C dL_law_554 (by decide) (fun _ => kk _ hI2) (fun h => absurd rfl h)
set_option maxHeartbeats 4000000 in
theorem law_13 {E : En} {p : Program} {l : Launch} {e : Env} {s : State} {m : MethodId} {below : List Frame} {meth : Method} {c : Code} {b L : Nat} {xs : Nat → Int32} (C : LC E p s m meth c b L xs) {M : Mem} (hI : Inv M) {i : Nat} (hL : L ≤ 384) (hi : i + 6 ≤ L) (kk : ∀ M2, Inv M2 → GL E p l e s m below meth c b 1281 (Lo E b i) [] M2) : GL E p l e s m below meth c b 559 (Lo E b i) [] M := by
  obtain ⟨r, M1, M2, e7, e8, hI2⟩ := e_nothing hI (xs (i + 1)) (xs (i + 2))
  refine l_aload_n C dL_law_559 rfl ?_
  refine l_arg C hL (show i + 1 < L by omega) (by decide) dL_law_560 dL_law_561 dL_law_562 dL_law_563 dL_law_564 ?_
  refine l_arg C hL (show i + 2 < L by omega) (by decide) dL_law_565 dL_law_566 dL_law_567 dL_law_568 dL_law_569 ?_
  refine l_call (st := []) C (c_X7_nothing e7) cwL_70 rfl (by decide) (cel_0 _ _ _) rfl rfl ⟨(Nat.le_of_ble_eq_true rfl), (Nat.le_of_ble_eq_true rfl)⟩ (Nat.le_of_ble_eq_true rfl) dL_law_570 ?_
  refine l_aload_n C dL_law_573 rfl ?_
  refine l_arg C hL (show i + 1 < L by omega) (by decide) dL_law_574 dL_law_575 dL_law_576 dL_law_577 dL_law_578 ?_
  refine l_arg C hL (show i + 2 < L by omega) (by decide) dL_law_579 dL_law_580 dL_law_581 dL_law_582 dL_law_583 ?_
  refine l_call (st := [.int r]) C (c_X8_nothing e8) cwL_73 rfl (by decide) (cel_63 _ _ _) rfl rfl ⟨(Nat.le_of_ble_eq_true rfl), (Nat.le_of_ble_eq_true rfl)⟩ (Nat.le_of_ble_eq_true rfl) dL_law_584 ?_
  exact l_icmp_eq (tgt := 1281) C dL_law_587 (by decide) (fun _ => kk _ hI2) (fun h => absurd rfl h)
set_option maxHeartbeats 4000000 in
theorem law_14 {E : En} {p : Program} {l : Launch} {e : Env} {s : State} {m : MethodId} {below : List Frame} {meth : Method} {c : Code} {b L : Nat} {xs : Nat → Int32} (C : LC E p s m meth c b L xs) {M : Mem} (hI : Inv M) {i : Nat} (hL : L ≤ 384) (hi : i + 6 ≤ L) (kk : ∀ M2, Inv M2 → GL E p l e s m below meth c b 1281 (Lo E b i) [] M2) : GL E p l e s m below meth c b 592 (Lo E b i) [] M := by
  obtain ⟨r, M1, M2, e7, e8, hI2⟩ := e_boat hI (xs (i + 1)) (xs (i + 2)) (xs (i + 3)) (xs (i + 4)) (xs (i + 5))
  refine l_aload_n C dL_law_592 rfl ?_
  refine l_arg C hL (show i + 1 < L by omega) (by decide) dL_law_593 dL_law_594 dL_law_595 dL_law_596 dL_law_597 ?_
  refine l_arg C hL (show i + 2 < L by omega) (by decide) dL_law_598 dL_law_599 dL_law_600 dL_law_601 dL_law_602 ?_
  refine l_arg C hL (show i + 3 < L by omega) (by decide) dL_law_603 dL_law_604 dL_law_605 dL_law_606 dL_law_607 ?_
  refine l_arg C hL (show i + 4 < L by omega) (by decide) dL_law_608 dL_law_609 dL_law_610 dL_law_611 dL_law_612 ?_
  refine l_arg C hL (show i + 5 < L by omega) (by decide) dL_law_613 dL_law_614 dL_law_615 dL_law_616 dL_law_617 ?_
  refine l_call (st := []) C (c_X7_boat e7) cwL_74 rfl (by decide) (cel_0 _ _ _) rfl rfl ⟨(Nat.le_of_ble_eq_true rfl), (Nat.le_of_ble_eq_true rfl)⟩ (Nat.le_of_ble_eq_true rfl) dL_law_618 ?_
  refine l_aload_n C dL_law_621 rfl ?_
  refine l_arg C hL (show i + 1 < L by omega) (by decide) dL_law_622 dL_law_623 dL_law_624 dL_law_625 dL_law_626 ?_
  refine l_arg C hL (show i + 2 < L by omega) (by decide) dL_law_627 dL_law_628 dL_law_629 dL_law_630 dL_law_631 ?_
  refine l_arg C hL (show i + 3 < L by omega) (by decide) dL_law_632 dL_law_633 dL_law_634 dL_law_635 dL_law_636 ?_
  refine l_arg C hL (show i + 4 < L by omega) (by decide) dL_law_637 dL_law_638 dL_law_639 dL_law_640 dL_law_641 ?_
  refine l_arg C hL (show i + 5 < L by omega) (by decide) dL_law_642 dL_law_643 dL_law_644 dL_law_645 dL_law_646 ?_
  refine l_call (st := [.int r]) C (c_X8_boat e8) cwL_78 rfl (by decide) (cel_63 _ _ _) rfl rfl ⟨(Nat.le_of_ble_eq_true rfl), (Nat.le_of_ble_eq_true rfl)⟩ (Nat.le_of_ble_eq_true rfl) dL_law_647 ?_
  exact l_icmp_eq (tgt := 1281) C dL_law_650 (by decide) (fun _ => kk _ hI2) (fun h => absurd rfl h)
set_option maxHeartbeats 4000000 in
theorem law_15 {E : En} {p : Program} {l : Launch} {e : Env} {s : State} {m : MethodId} {below : List Frame} {meth : Method} {c : Code} {b L : Nat} {xs : Nat → Int32} (C : LC E p s m meth c b L xs) {M : Mem} (hI : Inv M) {i : Nat} (hL : L ≤ 384) (hi : i + 6 ≤ L) (kk : ∀ M2, Inv M2 → GL E p l e s m below meth c b 1281 (Lo E b i) [] M2) : GL E p l e s m below meth c b 655 (Lo E b i) [] M := by
  obtain ⟨r, M1, M2, e7, e8, hI2⟩ := e_way hI (xs (i + 1)) (xs (i + 2)) (xs (i + 3)) (xs (i + 4))
  refine l_aload_n C dL_law_655 rfl ?_
  refine l_arg C hL (show i + 1 < L by omega) (by decide) dL_law_656 dL_law_657 dL_law_658 dL_law_659 dL_law_660 ?_
  refine l_arg C hL (show i + 2 < L by omega) (by decide) dL_law_661 dL_law_662 dL_law_663 dL_law_664 dL_law_665 ?_
  refine l_arg C hL (show i + 3 < L by omega) (by decide) dL_law_666 dL_law_667 dL_law_668 dL_law_669 dL_law_670 ?_
  refine l_arg C hL (show i + 4 < L by omega) (by decide) dL_law_671 dL_law_672 dL_law_673 dL_law_674 dL_law_675 ?_
  refine l_call (st := []) C (c_X7_way e7) cwL_79 rfl (by decide) (cel_0 _ _ _) rfl rfl ⟨(Nat.le_of_ble_eq_true rfl), (Nat.le_of_ble_eq_true rfl)⟩ (Nat.le_of_ble_eq_true rfl) dL_law_676 ?_
  refine l_aload_n C dL_law_679 rfl ?_
  refine l_arg C hL (show i + 1 < L by omega) (by decide) dL_law_680 dL_law_681 dL_law_682 dL_law_683 dL_law_684 ?_
  refine l_arg C hL (show i + 2 < L by omega) (by decide) dL_law_685 dL_law_686 dL_law_687 dL_law_688 dL_law_689 ?_
  refine l_arg C hL (show i + 3 < L by omega) (by decide) dL_law_690 dL_law_691 dL_law_692 dL_law_693 dL_law_694 ?_
  refine l_arg C hL (show i + 4 < L by omega) (by decide) dL_law_695 dL_law_696 dL_law_697 dL_law_698 dL_law_699 ?_
  refine l_call (st := [.int r]) C (c_X8_way e8) cwL_82 rfl (by decide) (cel_63 _ _ _) rfl rfl ⟨(Nat.le_of_ble_eq_true rfl), (Nat.le_of_ble_eq_true rfl)⟩ (Nat.le_of_ble_eq_true rfl) dL_law_700 ?_
  exact l_icmp_eq (tgt := 1281) C dL_law_703 (by decide) (fun _ => kk _ hI2) (fun h => absurd rfl h)
set_option maxHeartbeats 4000000 in
theorem law_16 {E : En} {p : Program} {l : Launch} {e : Env} {s : State} {m : MethodId} {below : List Frame} {meth : Method} {c : Code} {b L : Nat} {xs : Nat → Int32} (C : LC E p s m meth c b L xs) {M : Mem} (hI : Inv M) {i : Nat} (hL : L ≤ 384) (hi : i + 6 ≤ L) (kk : ∀ M2, Inv M2 → GL E p l e s m below meth c b 1281 (Lo E b i) [] M2) : GL E p l e s m below meth c b 708 (Lo E b i) [] M := by
  obtain ⟨r, M1, M2, e7, e8, hI2⟩ := e_ways hI (xs (i + 1)) (xs (i + 2)) (xs (i + 3)) (xs (i + 4))
  refine l_aload_n C dL_law_708 rfl ?_
  refine l_arg C hL (show i + 1 < L by omega) (by decide) dL_law_709 dL_law_710 dL_law_711 dL_law_712 dL_law_713 ?_
  refine l_arg C hL (show i + 2 < L by omega) (by decide) dL_law_714 dL_law_715 dL_law_716 dL_law_717 dL_law_718 ?_
  refine l_arg C hL (show i + 3 < L by omega) (by decide) dL_law_719 dL_law_720 dL_law_721 dL_law_722 dL_law_723 ?_
  refine l_arg C hL (show i + 4 < L by omega) (by decide) dL_law_724 dL_law_725 dL_law_726 dL_law_727 dL_law_728 ?_
  refine l_call (st := []) C (c_X7_ways e7) cwL_83 rfl (by decide) (cel_0 _ _ _) rfl rfl ⟨(Nat.le_of_ble_eq_true rfl), (Nat.le_of_ble_eq_true rfl)⟩ (Nat.le_of_ble_eq_true rfl) dL_law_729 ?_
  refine l_aload_n C dL_law_732 rfl ?_
  refine l_arg C hL (show i + 1 < L by omega) (by decide) dL_law_733 dL_law_734 dL_law_735 dL_law_736 dL_law_737 ?_
  refine l_arg C hL (show i + 2 < L by omega) (by decide) dL_law_738 dL_law_739 dL_law_740 dL_law_741 dL_law_742 ?_
  refine l_arg C hL (show i + 3 < L by omega) (by decide) dL_law_743 dL_law_744 dL_law_745 dL_law_746 dL_law_747 ?_
  refine l_arg C hL (show i + 4 < L by omega) (by decide) dL_law_748 dL_law_749 dL_law_750 dL_law_751 dL_law_752 ?_
  refine l_call (st := [.int r]) C (c_X8_ways e8) cwL_86 rfl (by decide) (cel_63 _ _ _) rfl rfl ⟨(Nat.le_of_ble_eq_true rfl), (Nat.le_of_ble_eq_true rfl)⟩ (Nat.le_of_ble_eq_true rfl) dL_law_753 ?_
  exact l_icmp_eq (tgt := 1281) C dL_law_756 (by decide) (fun _ => kk _ hI2) (fun h => absurd rfl h)
set_option maxHeartbeats 4000000 in
theorem law_17 {E : En} {p : Program} {l : Launch} {e : Env} {s : State} {m : MethodId} {below : List Frame} {meth : Method} {c : Code} {b L : Nat} {xs : Nat → Int32} (C : LC E p s m meth c b L xs) {M : Mem} (hI : Inv M) {i : Nat} (hL : L ≤ 384) (hi : i + 6 ≤ L) (kk : ∀ M2, Inv M2 → GL E p l e s m below meth c b 1281 (Lo E b i) [] M2) : GL E p l e s m below meth c b 761 (Lo E b i) [] M := by
  obtain ⟨r, M1, M2, e7, e8, hI2⟩ := e_curse hI (xs (i + 1)) (xs (i + 2)) (xs (i + 3))
  refine l_aload_n C dL_law_761 rfl ?_
  refine l_arg C hL (show i + 1 < L by omega) (by decide) dL_law_762 dL_law_763 dL_law_764 dL_law_765 dL_law_766 ?_
  refine l_arg C hL (show i + 2 < L by omega) (by decide) dL_law_767 dL_law_768 dL_law_769 dL_law_770 dL_law_771 ?_
  refine l_arg C hL (show i + 3 < L by omega) (by decide) dL_law_772 dL_law_773 dL_law_774 dL_law_775 dL_law_776 ?_
  refine l_call (st := []) C (c_X7_curse e7) cwL_87 rfl (by decide) (cel_0 _ _ _) rfl rfl ⟨(Nat.le_of_ble_eq_true rfl), (Nat.le_of_ble_eq_true rfl)⟩ (Nat.le_of_ble_eq_true rfl) dL_law_777 ?_
  refine l_aload_n C dL_law_780 rfl ?_
  refine l_arg C hL (show i + 1 < L by omega) (by decide) dL_law_781 dL_law_782 dL_law_783 dL_law_784 dL_law_785 ?_
  refine l_arg C hL (show i + 2 < L by omega) (by decide) dL_law_786 dL_law_787 dL_law_788 dL_law_789 dL_law_790 ?_
  refine l_arg C hL (show i + 3 < L by omega) (by decide) dL_law_791 dL_law_792 dL_law_793 dL_law_794 dL_law_795 ?_
  refine l_call (st := [.int r]) C (c_X8_curse e8) cwL_90 rfl (by decide) (cel_63 _ _ _) rfl rfl ⟨(Nat.le_of_ble_eq_true rfl), (Nat.le_of_ble_eq_true rfl)⟩ (Nat.le_of_ble_eq_true rfl) dL_law_796 ?_
  exact l_icmp_eq (tgt := 1281) C dL_law_799 (by decide) (fun _ => kk _ hI2) (fun h => absurd rfl h)
set_option maxHeartbeats 4000000 in
theorem law_18 {E : En} {p : Program} {l : Launch} {e : Env} {s : State} {m : MethodId} {below : List Frame} {meth : Method} {c : Code} {b L : Nat} {xs : Nat → Int32} (C : LC E p s m meth c b L xs) {M : Mem} (hI : Inv M) {i : Nat} (hL : L ≤ 384) (hi : i + 6 ≤ L) (kk : ∀ M2, Inv M2 → GL E p l e s m below meth c b 1281 (Lo E b i) [] M2) : GL E p l e s m below meth c b 804 (Lo E b i) [] M := by
  obtain ⟨r, M1, M2, e7, e8, hI2⟩ := e_above hI (xs (i + 1)) (xs (i + 2)) (xs (i + 3))
  refine l_aload_n C dL_law_804 rfl ?_
  refine l_arg C hL (show i + 1 < L by omega) (by decide) dL_law_805 dL_law_806 dL_law_807 dL_law_808 dL_law_809 ?_
  refine l_arg C hL (show i + 2 < L by omega) (by decide) dL_law_810 dL_law_811 dL_law_812 dL_law_813 dL_law_814 ?_
  refine l_arg C hL (show i + 3 < L by omega) (by decide) dL_law_815 dL_law_816 dL_law_817 dL_law_818 dL_law_819 ?_
  refine l_call (st := []) C (c_X7_above e7) cwL_91 rfl (by decide) (cel_0 _ _ _) rfl rfl ⟨(Nat.le_of_ble_eq_true rfl), (Nat.le_of_ble_eq_true rfl)⟩ (Nat.le_of_ble_eq_true rfl) dL_law_820 ?_
  refine l_aload_n C dL_law_823 rfl ?_
  refine l_arg C hL (show i + 1 < L by omega) (by decide) dL_law_824 dL_law_825 dL_law_826 dL_law_827 dL_law_828 ?_
  refine l_arg C hL (show i + 2 < L by omega) (by decide) dL_law_829 dL_law_830 dL_law_831 dL_law_832 dL_law_833 ?_
  refine l_arg C hL (show i + 3 < L by omega) (by decide) dL_law_834 dL_law_835 dL_law_836 dL_law_837 dL_law_838 ?_
  refine l_call (st := [.int r]) C (c_X8_above e8) cwL_94 rfl (by decide) (cel_63 _ _ _) rfl rfl ⟨(Nat.le_of_ble_eq_true rfl), (Nat.le_of_ble_eq_true rfl)⟩ (Nat.le_of_ble_eq_true rfl) dL_law_839 ?_
  exact l_icmp_eq (tgt := 1281) C dL_law_842 (by decide) (fun _ => kk _ hI2) (fun h => absurd rfl h)
set_option maxHeartbeats 4000000 in
theorem law_19 {E : En} {p : Program} {l : Launch} {e : Env} {s : State} {m : MethodId} {below : List Frame} {meth : Method} {c : Code} {b L : Nat} {xs : Nat → Int32} (C : LC E p s m meth c b L xs) {M : Mem} (hI : Inv M) {i : Nat} (hL : L ≤ 384) (hi : i + 6 ≤ L) (kk : ∀ M2, Inv M2 → GL E p l e s m below meth c b 1281 (Lo E b i) [] M2) : GL E p l e s m below meth c b 847 (Lo E b i) [] M := by
  obtain ⟨r, M1, M2, e7, e8, hI2⟩ := e_note hI (xs (i + 1)) (xs (i + 2)) (xs (i + 3))
  refine l_aload_n C dL_law_847 rfl ?_
  refine l_arg C hL (show i + 1 < L by omega) (by decide) dL_law_848 dL_law_849 dL_law_850 dL_law_851 dL_law_852 ?_
  refine l_arg C hL (show i + 2 < L by omega) (by decide) dL_law_853 dL_law_854 dL_law_855 dL_law_856 dL_law_857 ?_
  refine l_arg C hL (show i + 3 < L by omega) (by decide) dL_law_858 dL_law_859 dL_law_860 dL_law_861 dL_law_862 ?_
  refine l_call (st := []) C (c_X7_note e7) cwL_95 rfl (by decide) (cel_0 _ _ _) rfl rfl ⟨(Nat.le_of_ble_eq_true rfl), (Nat.le_of_ble_eq_true rfl)⟩ (Nat.le_of_ble_eq_true rfl) dL_law_863 ?_
  refine l_aload_n C dL_law_866 rfl ?_
  refine l_arg C hL (show i + 1 < L by omega) (by decide) dL_law_867 dL_law_868 dL_law_869 dL_law_870 dL_law_871 ?_
  refine l_arg C hL (show i + 2 < L by omega) (by decide) dL_law_872 dL_law_873 dL_law_874 dL_law_875 dL_law_876 ?_
  refine l_arg C hL (show i + 3 < L by omega) (by decide) dL_law_877 dL_law_878 dL_law_879 dL_law_880 dL_law_881 ?_
  refine l_call (st := [.int r]) C (c_X8_note e8) cwL_98 rfl (by decide) (cel_63 _ _ _) rfl rfl ⟨(Nat.le_of_ble_eq_true rfl), (Nat.le_of_ble_eq_true rfl)⟩ (Nat.le_of_ble_eq_true rfl) dL_law_882 ?_
  exact l_icmp_eq (tgt := 1281) C dL_law_885 (by decide) (fun _ => kk _ hI2) (fun h => absurd rfl h)
set_option maxHeartbeats 4000000 in
theorem law_20 {E : En} {p : Program} {l : Launch} {e : Env} {s : State} {m : MethodId} {below : List Frame} {meth : Method} {c : Code} {b L : Nat} {xs : Nat → Int32} (C : LC E p s m meth c b L xs) {M : Mem} (hI : Inv M) {i : Nat} (hL : L ≤ 384) (hi : i + 6 ≤ L) (kk : ∀ M2, Inv M2 → GL E p l e s m below meth c b 1281 (Lo E b i) [] M2) : GL E p l e s m below meth c b 890 (Lo E b i) [] M := by
  obtain ⟨r, M1, M2, e7, e8, hI2⟩ := e_forget hI
  refine l_aload_n C dL_law_890 rfl ?_
  refine l_call (st := []) C (c_X7_forget e7) cwL_99 rfl (by decide) (cel_0 _ _ _) rfl rfl ⟨(Nat.le_of_ble_eq_true rfl), (Nat.le_of_ble_eq_true rfl)⟩ (Nat.le_of_ble_eq_true rfl) dL_law_891 ?_
  refine l_aload_n C dL_law_894 rfl ?_
  refine l_call (st := [.int r]) C (c_X8_forget e8) cwL_102 rfl (by decide) (cel_63 _ _ _) rfl rfl ⟨(Nat.le_of_ble_eq_true rfl), (Nat.le_of_ble_eq_true rfl)⟩ (Nat.le_of_ble_eq_true rfl) dL_law_895 ?_
  exact l_icmp_eq (tgt := 1281) C dL_law_898 (by decide) (fun _ => kk _ hI2) (fun h => absurd rfl h)
set_option maxHeartbeats 4000000 in
theorem law_21 {E : En} {p : Program} {l : Launch} {e : Env} {s : State} {m : MethodId} {below : List Frame} {meth : Method} {c : Code} {b L : Nat} {xs : Nat → Int32} (C : LC E p s m meth c b L xs) {M : Mem} (hI : Inv M) {i : Nat} (hL : L ≤ 384) (hi : i + 6 ≤ L) (kk : ∀ M2, Inv M2 → GL E p l e s m below meth c b 1281 (Lo E b i) [] M2) : GL E p l e s m below meth c b 903 (Lo E b i) [] M := by
  obtain ⟨r, M1, M2, e7, e8, hI2⟩ := e_fits hI (xs (i + 1)) (xs (i + 2))
  refine l_aload_n C dL_law_903 rfl ?_
  refine l_arg C hL (show i + 1 < L by omega) (by decide) dL_law_904 dL_law_905 dL_law_906 dL_law_907 dL_law_908 ?_
  refine l_arg C hL (show i + 2 < L by omega) (by decide) dL_law_909 dL_law_910 dL_law_911 dL_law_912 dL_law_913 ?_
  refine l_call (st := []) C (c_X7_fits e7) cwL_103 rfl (by decide) (cel_0 _ _ _) rfl rfl ⟨(Nat.le_of_ble_eq_true rfl), (Nat.le_of_ble_eq_true rfl)⟩ (Nat.le_of_ble_eq_true rfl) dL_law_914 ?_
  refine l_aload_n C dL_law_917 rfl ?_
  refine l_arg C hL (show i + 1 < L by omega) (by decide) dL_law_918 dL_law_919 dL_law_920 dL_law_921 dL_law_922 ?_
  refine l_arg C hL (show i + 2 < L by omega) (by decide) dL_law_923 dL_law_924 dL_law_925 dL_law_926 dL_law_927 ?_
  refine l_call (st := [.int r]) C (c_X8_fits e8) cwL_106 rfl (by decide) (cel_63 _ _ _) rfl rfl ⟨(Nat.le_of_ble_eq_true rfl), (Nat.le_of_ble_eq_true rfl)⟩ (Nat.le_of_ble_eq_true rfl) dL_law_928 ?_
  exact l_icmp_eq (tgt := 1281) C dL_law_931 (by decide) (fun _ => kk _ hI2) (fun h => absurd rfl h)
set_option maxHeartbeats 4000000 in
theorem law_22 {E : En} {p : Program} {l : Launch} {e : Env} {s : State} {m : MethodId} {below : List Frame} {meth : Method} {c : Code} {b L : Nat} {xs : Nat → Int32} (C : LC E p s m meth c b L xs) {M : Mem} (hI : Inv M) {i : Nat} (hL : L ≤ 384) (hi : i + 6 ≤ L) (kk : ∀ M2, Inv M2 → GL E p l e s m below meth c b 1281 (Lo E b i) [] M2) : GL E p l e s m below meth c b 936 (Lo E b i) [] M := by
  obtain ⟨r, M1, M2, e7, e8, hI2⟩ := e_tries hI (xs (i + 1))
  refine l_aload_n C dL_law_936 rfl ?_
  refine l_arg C hL (show i + 1 < L by omega) (by decide) dL_law_937 dL_law_938 dL_law_939 dL_law_940 dL_law_941 ?_
  refine l_call (st := []) C (c_X7_tries e7) cwL_107 rfl (by decide) (cel_0 _ _ _) rfl rfl ⟨(Nat.le_of_ble_eq_true rfl), (Nat.le_of_ble_eq_true rfl)⟩ (Nat.le_of_ble_eq_true rfl) dL_law_942 ?_
  refine l_aload_n C dL_law_945 rfl ?_
  refine l_arg C hL (show i + 1 < L by omega) (by decide) dL_law_946 dL_law_947 dL_law_948 dL_law_949 dL_law_950 ?_
  refine l_call (st := [.int r]) C (c_X8_tries e8) cwL_110 rfl (by decide) (cel_63 _ _ _) rfl rfl ⟨(Nat.le_of_ble_eq_true rfl), (Nat.le_of_ble_eq_true rfl)⟩ (Nat.le_of_ble_eq_true rfl) dL_law_951 ?_
  exact l_icmp_eq (tgt := 1281) C dL_law_954 (by decide) (fun _ => kk _ hI2) (fun h => absurd rfl h)
set_option maxHeartbeats 4000000 in
theorem law_23 {E : En} {p : Program} {l : Launch} {e : Env} {s : State} {m : MethodId} {below : List Frame} {meth : Method} {c : Code} {b L : Nat} {xs : Nat → Int32} (C : LC E p s m meth c b L xs) {M : Mem} (hI : Inv M) {i : Nat} (hL : L ≤ 384) (hi : i + 6 ≤ L) (kk : ∀ M2, Inv M2 → GL E p l e s m below meth c b 1281 (Lo E b i) [] M2) : GL E p l e s m below meth c b 959 (Lo E b i) [] M := by
  obtain ⟨r, M1, M2, e7, e8, hI2⟩ := e_renamed hI (xs (i + 1)) (xs (i + 2))
  refine l_aload_n C dL_law_959 rfl ?_
  refine l_arg C hL (show i + 1 < L by omega) (by decide) dL_law_960 dL_law_961 dL_law_962 dL_law_963 dL_law_964 ?_
  refine l_arg C hL (show i + 2 < L by omega) (by decide) dL_law_965 dL_law_966 dL_law_967 dL_law_968 dL_law_969 ?_
  refine l_call (st := []) C (c_X7_renamed e7) cwL_111 rfl (by decide) (cel_0 _ _ _) rfl rfl ⟨(Nat.le_of_ble_eq_true rfl), (Nat.le_of_ble_eq_true rfl)⟩ (Nat.le_of_ble_eq_true rfl) dL_law_970 ?_
  refine l_aload_n C dL_law_973 rfl ?_
  refine l_arg C hL (show i + 1 < L by omega) (by decide) dL_law_974 dL_law_975 dL_law_976 dL_law_977 dL_law_978 ?_
  refine l_arg C hL (show i + 2 < L by omega) (by decide) dL_law_979 dL_law_980 dL_law_981 dL_law_982 dL_law_983 ?_
  refine l_call (st := [.int r]) C (c_X8_renamed e8) cwL_114 rfl (by decide) (cel_63 _ _ _) rfl rfl ⟨(Nat.le_of_ble_eq_true rfl), (Nat.le_of_ble_eq_true rfl)⟩ (Nat.le_of_ble_eq_true rfl) dL_law_984 ?_
  exact l_icmp_eq (tgt := 1281) C dL_law_987 (by decide) (fun _ => kk _ hI2) (fun h => absurd rfl h)
set_option maxHeartbeats 4000000 in
theorem law_24 {E : En} {p : Program} {l : Launch} {e : Env} {s : State} {m : MethodId} {below : List Frame} {meth : Method} {c : Code} {b L : Nat} {xs : Nat → Int32} (C : LC E p s m meth c b L xs) {M : Mem} (hI : Inv M) {i : Nat} (hL : L ≤ 384) (hi : i + 6 ≤ L) (kk : ∀ M2, Inv M2 → GL E p l e s m below meth c b 1281 (Lo E b i) [] M2) : GL E p l e s m below meth c b 992 (Lo E b i) [] M := by
  obtain ⟨r, M1, M2, e7, e8, hI2⟩ := e_stammer hI (xs (i + 1)) (xs (i + 2)) (xs (i + 3)) (xs (i + 4))
  refine l_aload_n C dL_law_992 rfl ?_
  refine l_arg C hL (show i + 1 < L by omega) (by decide) dL_law_993 dL_law_994 dL_law_995 dL_law_996 dL_law_997 ?_
  refine l_arg C hL (show i + 2 < L by omega) (by decide) dL_law_998 dL_law_999 dL_law_1000 dL_law_1001 dL_law_1002 ?_
  refine l_arg C hL (show i + 3 < L by omega) (by decide) dL_law_1003 dL_law_1004 dL_law_1005 dL_law_1006 dL_law_1007 ?_
  refine l_arg C hL (show i + 4 < L by omega) (by decide) dL_law_1008 dL_law_1009 dL_law_1010 dL_law_1011 dL_law_1012 ?_
  refine l_call (st := []) C (c_X7_stammer e7) cwL_115 rfl (by decide) (cel_0 _ _ _) rfl rfl ⟨(Nat.le_of_ble_eq_true rfl), (Nat.le_of_ble_eq_true rfl)⟩ (Nat.le_of_ble_eq_true rfl) dL_law_1013 ?_
  refine l_aload_n C dL_law_1016 rfl ?_
  refine l_arg C hL (show i + 1 < L by omega) (by decide) dL_law_1017 dL_law_1018 dL_law_1019 dL_law_1020 dL_law_1021 ?_
  refine l_arg C hL (show i + 2 < L by omega) (by decide) dL_law_1022 dL_law_1023 dL_law_1024 dL_law_1025 dL_law_1026 ?_
  refine l_arg C hL (show i + 3 < L by omega) (by decide) dL_law_1027 dL_law_1028 dL_law_1029 dL_law_1030 dL_law_1031 ?_
  refine l_arg C hL (show i + 4 < L by omega) (by decide) dL_law_1032 dL_law_1033 dL_law_1034 dL_law_1035 dL_law_1036 ?_
  refine l_call (st := [.int r]) C (c_X8_stammer e8) cwL_118 rfl (by decide) (cel_63 _ _ _) rfl rfl ⟨(Nat.le_of_ble_eq_true rfl), (Nat.le_of_ble_eq_true rfl)⟩ (Nat.le_of_ble_eq_true rfl) dL_law_1037 ?_
  exact l_icmp_eq (tgt := 1281) C dL_law_1040 (by decide) (fun _ => kk _ hI2) (fun h => absurd rfl h)
set_option maxHeartbeats 4000000 in
theorem law_25 {E : En} {p : Program} {l : Launch} {e : Env} {s : State} {m : MethodId} {below : List Frame} {meth : Method} {c : Code} {b L : Nat} {xs : Nat → Int32} (C : LC E p s m meth c b L xs) {M : Mem} (hI : Inv M) {i : Nat} (hL : L ≤ 384) (hi : i + 6 ≤ L) (kk : ∀ M2, Inv M2 → GL E p l e s m below meth c b 1281 (Lo E b i) [] M2) : GL E p l e s m below meth c b 1045 (Lo E b i) [] M := by
  obtain ⟨r, M1, M2, e7, e8, hI2⟩ := e_boats hI (xs (i + 1)) (xs (i + 2)) (xs (i + 3))
  refine l_aload_n C dL_law_1045 rfl ?_
  refine l_arg C hL (show i + 1 < L by omega) (by decide) dL_law_1046 dL_law_1047 dL_law_1048 dL_law_1049 dL_law_1050 ?_
  refine l_arg C hL (show i + 2 < L by omega) (by decide) dL_law_1051 dL_law_1052 dL_law_1053 dL_law_1054 dL_law_1055 ?_
  refine l_arg C hL (show i + 3 < L by omega) (by decide) dL_law_1056 dL_law_1057 dL_law_1058 dL_law_1059 dL_law_1060 ?_
  refine l_call (st := []) C (c_X7_boats e7) cwL_119 rfl (by decide) (cel_0 _ _ _) rfl rfl ⟨(Nat.le_of_ble_eq_true rfl), (Nat.le_of_ble_eq_true rfl)⟩ (Nat.le_of_ble_eq_true rfl) dL_law_1061 ?_
  refine l_aload_n C dL_law_1064 rfl ?_
  refine l_arg C hL (show i + 1 < L by omega) (by decide) dL_law_1065 dL_law_1066 dL_law_1067 dL_law_1068 dL_law_1069 ?_
  refine l_arg C hL (show i + 2 < L by omega) (by decide) dL_law_1070 dL_law_1071 dL_law_1072 dL_law_1073 dL_law_1074 ?_
  refine l_arg C hL (show i + 3 < L by omega) (by decide) dL_law_1075 dL_law_1076 dL_law_1077 dL_law_1078 dL_law_1079 ?_
  refine l_call (st := [.int r]) C (c_X8_boats e8) cwL_122 rfl (by decide) (cel_63 _ _ _) rfl rfl ⟨(Nat.le_of_ble_eq_true rfl), (Nat.le_of_ble_eq_true rfl)⟩ (Nat.le_of_ble_eq_true rfl) dL_law_1080 ?_
  exact l_icmp_eq (tgt := 1281) C dL_law_1083 (by decide) (fun _ => kk _ hI2) (fun h => absurd rfl h)
set_option maxHeartbeats 4000000 in
theorem law_26 {E : En} {p : Program} {l : Launch} {e : Env} {s : State} {m : MethodId} {below : List Frame} {meth : Method} {c : Code} {b L : Nat} {xs : Nat → Int32} (C : LC E p s m meth c b L xs) {M : Mem} (hI : Inv M) {i : Nat} (hL : L ≤ 384) (hi : i + 6 ≤ L) (kk : ∀ M2, Inv M2 → GL E p l e s m below meth c b 1281 (Lo E b i) [] M2) : GL E p l e s m below meth c b 1088 (Lo E b i) [] M := by
  obtain ⟨r, M1, M2, e7, e8, hI2⟩ := e_flood hI (xs (i + 1)) (xs (i + 2)) (xs (i + 3)) (xs (i + 4)) (xs (i + 5))
  refine l_aload_n C dL_law_1088 rfl ?_
  refine l_arg C hL (show i + 1 < L by omega) (by decide) dL_law_1089 dL_law_1090 dL_law_1091 dL_law_1092 dL_law_1093 ?_
  refine l_arg C hL (show i + 2 < L by omega) (by decide) dL_law_1094 dL_law_1095 dL_law_1096 dL_law_1097 dL_law_1098 ?_
  refine l_arg C hL (show i + 3 < L by omega) (by decide) dL_law_1099 dL_law_1100 dL_law_1101 dL_law_1102 dL_law_1103 ?_
  refine l_arg C hL (show i + 4 < L by omega) (by decide) dL_law_1104 dL_law_1105 dL_law_1106 dL_law_1107 dL_law_1108 ?_
  refine l_arg C hL (show i + 5 < L by omega) (by decide) dL_law_1109 dL_law_1110 dL_law_1111 dL_law_1112 dL_law_1113 ?_
  refine l_call (st := []) C (c_X7_flood e7) cwL_123 rfl (by decide) (cel_0 _ _ _) rfl rfl ⟨(Nat.le_of_ble_eq_true rfl), (Nat.le_of_ble_eq_true rfl)⟩ (Nat.le_of_ble_eq_true rfl) dL_law_1114 ?_
  refine l_aload_n C dL_law_1117 rfl ?_
  refine l_arg C hL (show i + 1 < L by omega) (by decide) dL_law_1118 dL_law_1119 dL_law_1120 dL_law_1121 dL_law_1122 ?_
  refine l_arg C hL (show i + 2 < L by omega) (by decide) dL_law_1123 dL_law_1124 dL_law_1125 dL_law_1126 dL_law_1127 ?_
  refine l_arg C hL (show i + 3 < L by omega) (by decide) dL_law_1128 dL_law_1129 dL_law_1130 dL_law_1131 dL_law_1132 ?_
  refine l_arg C hL (show i + 4 < L by omega) (by decide) dL_law_1133 dL_law_1134 dL_law_1135 dL_law_1136 dL_law_1137 ?_
  refine l_arg C hL (show i + 5 < L by omega) (by decide) dL_law_1138 dL_law_1139 dL_law_1140 dL_law_1141 dL_law_1142 ?_
  refine l_call (st := [.int r]) C (c_X8_flood e8) cwL_126 rfl (by decide) (cel_63 _ _ _) rfl rfl ⟨(Nat.le_of_ble_eq_true rfl), (Nat.le_of_ble_eq_true rfl)⟩ (Nat.le_of_ble_eq_true rfl) dL_law_1143 ?_
  exact l_icmp_eq (tgt := 1281) C dL_law_1146 (by decide) (fun _ => kk _ hI2) (fun h => absurd rfl h)
set_option maxHeartbeats 4000000 in
theorem law_27 {E : En} {p : Program} {l : Launch} {e : Env} {s : State} {m : MethodId} {below : List Frame} {meth : Method} {c : Code} {b L : Nat} {xs : Nat → Int32} (C : LC E p s m meth c b L xs) {M : Mem} (hI : Inv M) {i : Nat} (hL : L ≤ 384) (hi : i + 6 ≤ L) (kk : ∀ M2, Inv M2 → GL E p l e s m below meth c b 1281 (Lo E b i) [] M2) : GL E p l e s m below meth c b 1151 (Lo E b i) [] M := by
  obtain ⟨r, M1, M2, e7, e8, hI2⟩ := e_part hI (xs (i + 1))
  refine l_aload_n C dL_law_1151 rfl ?_
  refine l_arg C hL (show i + 1 < L by omega) (by decide) dL_law_1152 dL_law_1153 dL_law_1154 dL_law_1155 dL_law_1156 ?_
  refine l_call (st := []) C (c_X7_part e7) cwL_127 rfl (by decide) (cel_0 _ _ _) rfl rfl ⟨(Nat.le_of_ble_eq_true rfl), (Nat.le_of_ble_eq_true rfl)⟩ (Nat.le_of_ble_eq_true rfl) dL_law_1157 ?_
  refine l_aload_n C dL_law_1160 rfl ?_
  refine l_arg C hL (show i + 1 < L by omega) (by decide) dL_law_1161 dL_law_1162 dL_law_1163 dL_law_1164 dL_law_1165 ?_
  refine l_call (st := [.long r]) C (c_X8_part e8) cwL_131 rfl (by decide) (cel_63 _ _ _) rfl rfl ⟨(Nat.le_of_ble_eq_true rfl), (Nat.le_of_ble_eq_true rfl)⟩ (Nat.le_of_ble_eq_true rfl) dL_law_1166 ?_
  refine l_lcmp C dL_law_1169 ?_
  exact l_if_eq (tgt := 1281) C dL_law_1170 (by decide) (fun _ => kk _ hI2) (fun h => absurd ((lg_eq0 _ _).mpr rfl) h)
set_option maxHeartbeats 4000000 in
theorem law_28 {E : En} {p : Program} {l : Launch} {e : Env} {s : State} {m : MethodId} {below : List Frame} {meth : Method} {c : Code} {b L : Nat} {xs : Nat → Int32} (C : LC E p s m meth c b L xs) {M : Mem} (hI : Inv M) {i : Nat} (hL : L ≤ 384) (hi : i + 6 ≤ L) (kk : ∀ M2, Inv M2 → GL E p l e s m below meth c b 1281 (Lo E b i) [] M2) : GL E p l e s m below meth c b 1175 (Lo E b i) [] M := by
  obtain ⟨r, M1, M2, e7, e8, hI2⟩ := e_image hI (xs (i + 1))
  refine l_aload_n C dL_law_1175 rfl ?_
  refine l_arg C hL (show i + 1 < L by omega) (by decide) dL_law_1176 dL_law_1177 dL_law_1178 dL_law_1179 dL_law_1180 ?_
  refine l_call (st := []) C (c_X7_image e7) cwL_132 rfl (by decide) (cel_0 _ _ _) rfl rfl ⟨(Nat.le_of_ble_eq_true rfl), (Nat.le_of_ble_eq_true rfl)⟩ (Nat.le_of_ble_eq_true rfl) dL_law_1181 ?_
  refine l_aload_n C dL_law_1184 rfl ?_
  refine l_arg C hL (show i + 1 < L by omega) (by decide) dL_law_1185 dL_law_1186 dL_law_1187 dL_law_1188 dL_law_1189 ?_
  refine l_call (st := [.int r]) C (c_X8_image e8) cwL_135 rfl (by decide) (cel_63 _ _ _) rfl rfl ⟨(Nat.le_of_ble_eq_true rfl), (Nat.le_of_ble_eq_true rfl)⟩ (Nat.le_of_ble_eq_true rfl) dL_law_1190 ?_
  exact l_icmp_eq (tgt := 1281) C dL_law_1193 (by decide) (fun _ => kk _ hI2) (fun h => absurd rfl h)
set_option maxHeartbeats 4000000 in
theorem law_29 {E : En} {p : Program} {l : Launch} {e : Env} {s : State} {m : MethodId} {below : List Frame} {meth : Method} {c : Code} {b L : Nat} {xs : Nat → Int32} (C : LC E p s m meth c b L xs) {M : Mem} (hI : Inv M) {i : Nat} (hL : L ≤ 384) (hi : i + 6 ≤ L) (kk : ∀ M2, Inv M2 → GL E p l e s m below meth c b 1281 (Lo E b i) [] M2) : GL E p l e s m below meth c b 1198 (Lo E b i) [] M := by
  obtain ⟨r, M1, M2, e7, e8, hI2⟩ := e_from hI (xs (i + 1))
  refine l_aload_n C dL_law_1198 rfl ?_
  refine l_arg C hL (show i + 1 < L by omega) (by decide) dL_law_1199 dL_law_1200 dL_law_1201 dL_law_1202 dL_law_1203 ?_
  refine l_call (st := []) C (c_X7_from e7) cwL_136 rfl (by decide) (cel_0 _ _ _) rfl rfl ⟨(Nat.le_of_ble_eq_true rfl), (Nat.le_of_ble_eq_true rfl)⟩ (Nat.le_of_ble_eq_true rfl) dL_law_1204 ?_
  refine l_aload_n C dL_law_1207 rfl ?_
  refine l_arg C hL (show i + 1 < L by omega) (by decide) dL_law_1208 dL_law_1209 dL_law_1210 dL_law_1211 dL_law_1212 ?_
  refine l_call (st := [.int r]) C (c_X8_from e8) cwL_139 rfl (by decide) (cel_63 _ _ _) rfl rfl ⟨(Nat.le_of_ble_eq_true rfl), (Nat.le_of_ble_eq_true rfl)⟩ (Nat.le_of_ble_eq_true rfl) dL_law_1213 ?_
  exact l_icmp_eq (tgt := 1281) C dL_law_1216 (by decide) (fun _ => kk _ hI2) (fun h => absurd rfl h)
set_option maxHeartbeats 4000000 in
theorem law_30 {E : En} {p : Program} {l : Launch} {e : Env} {s : State} {m : MethodId} {below : List Frame} {meth : Method} {c : Code} {b L : Nat} {xs : Nat → Int32} (C : LC E p s m meth c b L xs) {M : Mem} (hI : Inv M) {i : Nat} (hL : L ≤ 384) (hi : i + 6 ≤ L) (kk : ∀ M2, Inv M2 → GL E p l e s m below meth c b 1281 (Lo E b i) [] M2) : GL E p l e s m below meth c b 1221 (Lo E b i) [] M := by
  obtain ⟨r, M1, M2, e7, e8, hI2⟩ := e_status hI (xs (i + 1))
  refine l_aload_n C dL_law_1221 rfl ?_
  refine l_arg C hL (show i + 1 < L by omega) (by decide) dL_law_1222 dL_law_1223 dL_law_1224 dL_law_1225 dL_law_1226 ?_
  refine l_call (st := []) C (c_X7_status e7) cwL_140 rfl (by decide) (cel_0 _ _ _) rfl rfl ⟨(Nat.le_of_ble_eq_true rfl), (Nat.le_of_ble_eq_true rfl)⟩ (Nat.le_of_ble_eq_true rfl) dL_law_1227 ?_
  refine l_aload_n C dL_law_1230 rfl ?_
  refine l_arg C hL (show i + 1 < L by omega) (by decide) dL_law_1231 dL_law_1232 dL_law_1233 dL_law_1234 dL_law_1235 ?_
  refine l_call (st := [.int r]) C (c_X8_status e8) cwL_143 rfl (by decide) (cel_63 _ _ _) rfl rfl ⟨(Nat.le_of_ble_eq_true rfl), (Nat.le_of_ble_eq_true rfl)⟩ (Nat.le_of_ble_eq_true rfl) dL_law_1236 ?_
  exact l_icmp_eq (tgt := 1281) C dL_law_1239 (by decide) (fun _ => kk _ hI2) (fun h => absurd rfl h)
set_option maxHeartbeats 4000000 in
theorem law_31 {E : En} {p : Program} {l : Launch} {e : Env} {s : State} {m : MethodId} {below : List Frame} {meth : Method} {c : Code} {b L : Nat} {xs : Nat → Int32} (C : LC E p s m meth c b L xs) {M : Mem} (hI : Inv M) {i : Nat} (hL : L ≤ 384) (hi : i + 6 ≤ L) (kk : ∀ M2, Inv M2 → GL E p l e s m below meth c b 1281 (Lo E b i) [] M2) : GL E p l e s m below meth c b 1244 (Lo E b i) [] M := by
  obtain ⟨r, M1, M2, e7, e8, hI2⟩ := e_count hI (xs (i + 1))
  refine l_aload_n C dL_law_1244 rfl ?_
  refine l_arg C hL (show i + 1 < L by omega) (by decide) dL_law_1245 dL_law_1246 dL_law_1247 dL_law_1248 dL_law_1249 ?_
  refine l_call (st := []) C (c_X7_count e7) cwL_144 rfl (by decide) (cel_0 _ _ _) rfl rfl ⟨(Nat.le_of_ble_eq_true rfl), (Nat.le_of_ble_eq_true rfl)⟩ (Nat.le_of_ble_eq_true rfl) dL_law_1250 ?_
  refine l_aload_n C dL_law_1253 rfl ?_
  refine l_arg C hL (show i + 1 < L by omega) (by decide) dL_law_1254 dL_law_1255 dL_law_1256 dL_law_1257 dL_law_1258 ?_
  refine l_call (st := [.int r]) C (c_X8_count e8) cwL_147 rfl (by decide) (cel_63 _ _ _) rfl rfl ⟨(Nat.le_of_ble_eq_true rfl), (Nat.le_of_ble_eq_true rfl)⟩ (Nat.le_of_ble_eq_true rfl) dL_law_1259 ?_
  exact l_icmp_eq (tgt := 1281) C dL_law_1262 (by decide) (fun _ => kk _ hI2) (fun h => absurd rfl h)
set_option maxHeartbeats 4000000 in
theorem law_32 {E : En} {p : Program} {l : Launch} {e : Env} {s : State} {m : MethodId} {below : List Frame} {meth : Method} {c : Code} {b L : Nat} {xs : Nat → Int32} (C : LC E p s m meth c b L xs) {M : Mem} (hI : Inv M) {i : Nat} (hL : L ≤ 384) (hi : i + 6 ≤ L) (kk : ∀ M2, Inv M2 → GL E p l e s m below meth c b 1281 (Lo E b i) [] M2) : GL E p l e s m below meth c b 1267 (Lo E b i) [] M := by
  obtain ⟨r, e7, e8⟩ := e_digest hI
  have hI2 := hI
  refine l_aload_n C dL_law_1267 rfl ?_
  refine l_call (st := []) C (c_X7_digest e7) cwL_148 rfl (by decide) (cel_0 _ _ _) rfl rfl ⟨(Nat.le_of_ble_eq_true rfl), (Nat.le_of_ble_eq_true rfl)⟩ (Nat.le_of_ble_eq_true rfl) dL_law_1268 ?_
  refine l_aload_n C dL_law_1271 rfl ?_
  refine l_call (st := [.long r]) C (c_X8_digest e8) cwL_152 rfl (by decide) (cel_63 _ _ _) rfl rfl ⟨(Nat.le_of_ble_eq_true rfl), (Nat.le_of_ble_eq_true rfl)⟩ (Nat.le_of_ble_eq_true rfl) dL_law_1272 ?_
  refine l_lcmp C dL_law_1275 ?_
  exact l_if_eq (tgt := 1281) C dL_law_1276 (by decide) (fun _ => kk _ hI2) (fun h => absurd ((lg_eq0 _ _).mpr rfl) h)
